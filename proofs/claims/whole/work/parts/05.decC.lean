theorem dX10_init_0 : decode cX10_init 0 = .ok (.aload_n 0, 1) := by decide +kernel
theorem dX10_init_1 : decode cX10_init 1 = .ok (.invokespecial 1, 3) := by decide +kernel
theorem dX10_init_4 : decode cX10_init 4 = .ok (.aload_n 0, 1) := by decide +kernel
theorem dX10_init_5 : decode cX10_init 5 = .ok (.iconst 4, 1) := by decide +kernel
theorem dX10_init_6 : decode cX10_init 6 = .ok (.newarray .int, 2) := by decide +kernel
theorem dX10_init_8 : decode cX10_init 8 = .ok (.putfield 7, 3) := by decide +kernel
theorem dX10_init_11 : decode cX10_init 11 = .ok (.aload_n 0, 1) := by decide +kernel
theorem dX10_init_12 : decode cX10_init 12 = .ok (.iconst 4, 1) := by decide +kernel
theorem dX10_init_13 : decode cX10_init 13 = .ok (.newarray .int, 2) := by decide +kernel
theorem dX10_init_15 : decode cX10_init 15 = .ok (.putfield 13, 3) := by decide +kernel
theorem dX10_init_18 : decode cX10_init 18 = .ok (.aload_n 0, 1) := by decide +kernel
theorem dX10_init_19 : decode cX10_init 19 = .ok (.sipush 240, 3) := by decide +kernel
theorem dX10_init_22 : decode cX10_init 22 = .ok (.newarray .long, 2) := by decide +kernel
theorem dX10_init_24 : decode cX10_init 24 = .ok (.putfield 16, 3) := by decide +kernel
theorem dX10_init_27 : decode cX10_init 27 = .ok (.aload_n 0, 1) := by decide +kernel
theorem dX10_init_28 : decode cX10_init 28 = .ok (.bipush 60, 2) := by decide +kernel
theorem dX10_init_30 : decode cX10_init 30 = .ok (.newarray .long, 2) := by decide +kernel
theorem dX10_init_32 : decode cX10_init 32 = .ok (.putfield 20, 3) := by decide +kernel
theorem dX10_init_35 : decode cX10_init 35 = .ok (.aload_n 0, 1) := by decide +kernel
theorem dX10_init_36 : decode cX10_init 36 = .ok (.sipush 800, 3) := by decide +kernel
theorem dX10_init_39 : decode cX10_init 39 = .ok (.newarray .byte, 2) := by decide +kernel
theorem dX10_init_41 : decode cX10_init 41 = .ok (.putfield 23, 3) := by decide +kernel
theorem dX10_init_44 : decode cX10_init 44 = .ok (.aload_n 0, 1) := by decide +kernel
theorem dX10_init_45 : decode cX10_init 45 = .ok (.iconst (-1), 1) := by decide +kernel
theorem dX10_init_46 : decode cX10_init 46 = .ok (.putfield 27, 3) := by decide +kernel
theorem dX10_init_49 : decode cX10_init 49 = .ok (.aload_n 0, 1) := by decide +kernel
theorem dX10_init_50 : decode cX10_init 50 = .ok (.bipush 6, 2) := by decide +kernel
theorem dX10_init_52 : decode cX10_init 52 = .ok (.newarray .int, 2) := by decide +kernel
theorem dX10_init_54 : decode cX10_init 54 = .ok (.putfield 31, 3) := by decide +kernel
theorem dX10_init_57 : decode cX10_init 57 = .ok (.aload_n 0, 1) := by decide +kernel
theorem dX10_init_58 : decode cX10_init 58 = .ok (.bipush 48, 2) := by decide +kernel
theorem dX10_init_60 : decode cX10_init 60 = .ok (.newarray .int, 2) := by decide +kernel
theorem dX10_init_62 : decode cX10_init 62 = .ok (.putfield 34, 3) := by decide +kernel
theorem dX10_init_65 : decode cX10_init 65 = .ok (.aload_n 0, 1) := by decide +kernel
theorem dX10_init_66 : decode cX10_init 66 = .ok (.bipush 30, 2) := by decide +kernel
theorem dX10_init_68 : decode cX10_init 68 = .ok (.newarray .int, 2) := by decide +kernel
theorem dX10_init_70 : decode cX10_init 70 = .ok (.putfield 37, 3) := by decide +kernel
theorem dX10_init_73 : decode cX10_init 73 = .ok (.aload_n 0, 1) := by decide +kernel
theorem dX10_init_74 : decode cX10_init 74 = .ok (.bipush 18, 2) := by decide +kernel
theorem dX10_init_76 : decode cX10_init 76 = .ok (.newarray .int, 2) := by decide +kernel
theorem dX10_init_78 : decode cX10_init 78 = .ok (.putfield 40, 3) := by decide +kernel
theorem dX10_init_81 : decode cX10_init 81 = .ok (.aload_n 0, 1) := by decide +kernel
theorem dX10_init_82 : decode cX10_init 82 = .ok (.bipush 48, 2) := by decide +kernel
theorem dX10_init_84 : decode cX10_init 84 = .ok (.newarray .int, 2) := by decide +kernel
theorem dX10_init_86 : decode cX10_init 86 = .ok (.putfield 43, 3) := by decide +kernel
theorem dX10_init_89 : decode cX10_init 89 = .ok (.aload_n 0, 1) := by decide +kernel
theorem dX10_init_90 : decode cX10_init 90 = .ok (.sipush 270, 3) := by decide +kernel
theorem dX10_init_93 : decode cX10_init 93 = .ok (.newarray .int, 2) := by decide +kernel
theorem dX10_init_95 : decode cX10_init 95 = .ok (.putfield 46, 3) := by decide +kernel
theorem dX10_init_98 : decode cX10_init 98 = .ok (.aload_n 0, 1) := by decide +kernel
theorem dX10_init_99 : decode cX10_init 99 = .ok (.iconst 3, 1) := by decide +kernel
theorem dX10_init_100 : decode cX10_init 100 = .ok (.newarray .boolean, 2) := by decide +kernel
theorem dX10_init_102 : decode cX10_init 102 = .ok (.putfield 49, 3) := by decide +kernel
theorem dX10_init_105 : decode cX10_init 105 = .ok (.aload_n 0, 1) := by decide +kernel
theorem dX10_init_106 : decode cX10_init 106 = .ok (.bipush 15, 2) := by decide +kernel
theorem dX10_init_108 : decode cX10_init 108 = .ok (.newarray .int, 2) := by decide +kernel
theorem dX10_init_110 : decode cX10_init 110 = .ok (.putfield 53, 3) := by decide +kernel
theorem dX10_init_113 : decode cX10_init 113 = .ok (.aload_n 0, 1) := by decide +kernel
theorem dX10_init_114 : decode cX10_init 114 = .ok (.bipush 15, 2) := by decide +kernel
theorem dX10_init_116 : decode cX10_init 116 = .ok (.newarray .int, 2) := by decide +kernel
theorem dX10_init_118 : decode cX10_init 118 = .ok (.putfield 56, 3) := by decide +kernel
theorem dX10_init_121 : decode cX10_init 121 = .ok (.aload_n 0, 1) := by decide +kernel
theorem dX10_init_122 : decode cX10_init 122 = .ok (.iconst 5, 1) := by decide +kernel
theorem dX10_init_123 : decode cX10_init 123 = .ok (.newarray .int, 2) := by decide +kernel
theorem dX10_init_125 : decode cX10_init 125 = .ok (.putfield 59, 3) := by decide +kernel
theorem dX10_init_128 : decode cX10_init 128 = .ok (.aload_n 0, 1) := by decide +kernel
theorem dX10_init_129 : decode cX10_init 129 = .ok (.iconst 5, 1) := by decide +kernel
theorem dX10_init_130 : decode cX10_init 130 = .ok (.newarray .int, 2) := by decide +kernel
theorem dX10_init_132 : decode cX10_init 132 = .ok (.putfield 62, 3) := by decide +kernel
theorem dX10_init_135 : decode cX10_init 135 = .ok (.aload_n 0, 1) := by decide +kernel
theorem dX10_init_136 : decode cX10_init 136 = .ok (.iconst 3, 1) := by decide +kernel
theorem dX10_init_137 : decode cX10_init 137 = .ok (.newarray .int, 2) := by decide +kernel
theorem dX10_init_139 : decode cX10_init 139 = .ok (.putfield 65, 3) := by decide +kernel
theorem dX10_init_142 : decode cX10_init 142 = .ok (.aload_n 0, 1) := by decide +kernel
theorem dX10_init_143 : decode cX10_init 143 = .ok (.iconst 3, 1) := by decide +kernel
theorem dX10_init_144 : decode cX10_init 144 = .ok (.newarray .int, 2) := by decide +kernel
theorem dX10_init_146 : decode cX10_init 146 = .ok (.putfield 68, 3) := by decide +kernel
theorem dX10_init_149 : decode cX10_init 149 = .ok (.aload_n 0, 1) := by decide +kernel
theorem dX10_init_150 : decode cX10_init 150 = .ok (.bipush 45, 2) := by decide +kernel
theorem dX10_init_152 : decode cX10_init 152 = .ok (.newarray .int, 2) := by decide +kernel
theorem dX10_init_154 : decode cX10_init 154 = .ok (.putfield 71, 3) := by decide +kernel
theorem dX10_init_157 : decode cX10_init 157 = .ok (.aload_n 0, 1) := by decide +kernel
theorem dX10_init_158 : decode cX10_init 158 = .ok (.bipush 90, 2) := by decide +kernel
theorem dX10_init_160 : decode cX10_init 160 = .ok (.newarray .int, 2) := by decide +kernel
theorem dX10_init_162 : decode cX10_init 162 = .ok (.putfield 74, 3) := by decide +kernel
theorem dX10_init_165 : decode cX10_init 165 = .ok (.aload_n 0, 1) := by decide +kernel
theorem dX10_init_166 : decode cX10_init 166 = .ok (.bipush 9, 2) := by decide +kernel
theorem dX10_init_168 : decode cX10_init 168 = .ok (.newarray .int, 2) := by decide +kernel
theorem dX10_init_170 : decode cX10_init 170 = .ok (.putfield 77, 3) := by decide +kernel
theorem dX10_init_173 : decode cX10_init 173 = .ok (.aload_n 0, 1) := by decide +kernel
theorem dX10_init_174 : decode cX10_init 174 = .ok (.iconst 3, 1) := by decide +kernel
theorem dX10_init_175 : decode cX10_init 175 = .ok (.newarray .int, 2) := by decide +kernel
theorem dX10_init_177 : decode cX10_init 177 = .ok (.putfield 80, 3) := by decide +kernel
theorem dX10_init_180 : decode cX10_init 180 = .ok (.aload_n 0, 1) := by decide +kernel
theorem dX10_init_181 : decode cX10_init 181 = .ok (.bipush 24, 2) := by decide +kernel
theorem dX10_init_183 : decode cX10_init 183 = .ok (.newarray .int, 2) := by decide +kernel
theorem dX10_init_185 : decode cX10_init 185 = .ok (.putfield 83, 3) := by decide +kernel
theorem dX10_init_188 : decode cX10_init 188 = .ok (.aload_n 0, 1) := by decide +kernel
theorem dX10_init_189 : decode cX10_init 189 = .ok (.sipush 1800, 3) := by decide +kernel
theorem dX10_init_192 : decode cX10_init 192 = .ok (.newarray .int, 2) := by decide +kernel
theorem dX10_init_194 : decode cX10_init 194 = .ok (.putfield 86, 3) := by decide +kernel
theorem dX10_init_197 : decode cX10_init 197 = .ok (.aload_n 0, 1) := by decide +kernel
theorem dX10_init_198 : decode cX10_init 198 = .ok (.bipush 40, 2) := by decide +kernel
theorem dX10_init_200 : decode cX10_init 200 = .ok (.newarray .int, 2) := by decide +kernel
theorem dX10_init_202 : decode cX10_init 202 = .ok (.putfield 89, 3) := by decide +kernel
theorem dX10_init_205 : decode cX10_init 205 = .ok (.aload_n 0, 1) := by decide +kernel
theorem dX10_init_206 : decode cX10_init 206 = .ok (.sipush 368, 3) := by decide +kernel
theorem dX10_init_209 : decode cX10_init 209 = .ok (.newarray .int, 2) := by decide +kernel
theorem dX10_init_211 : decode cX10_init 211 = .ok (.putfield 92, 3) := by decide +kernel
theorem dX10_init_214 : decode cX10_init 214 = .ok (.iconst 0, 1) := by decide +kernel
theorem dX10_init_215 : decode cX10_init 215 = .ok (.istore_n 1, 1) := by decide +kernel
theorem dX10_init_216 : decode cX10_init 216 = .ok (.iload_n 1, 1) := by decide +kernel
theorem dX10_init_217 : decode cX10_init 217 = .ok (.iconst 4, 1) := by decide +kernel
theorem dX10_init_218 : decode cX10_init 218 = .ok (.if_icmp .ge 16, 3) := by decide +kernel
theorem dX10_init_221 : decode cX10_init 221 = .ok (.aload_n 0, 1) := by decide +kernel
theorem dX10_init_222 : decode cX10_init 222 = .ok (.getfield 7, 3) := by decide +kernel
theorem dX10_init_225 : decode cX10_init 225 = .ok (.iload_n 1, 1) := by decide +kernel
theorem dX10_init_226 : decode cX10_init 226 = .ok (.iconst (-1), 1) := by decide +kernel
theorem dX10_init_227 : decode cX10_init 227 = .ok (.iastore, 1) := by decide +kernel
theorem dX10_init_228 : decode cX10_init 228 = .ok (.iinc 1 1, 3) := by decide +kernel
theorem dX10_init_231 : decode cX10_init 231 = .ok (.goto (-15), 3) := by decide +kernel
theorem dX10_init_234 : decode cX10_init 234 = .ok (.return_, 1) := by decide +kernel
theorem dX10_in_0 : decode cX10_in 0 = .ok (.lload_n 0, 1) := by decide +kernel
theorem dX10_in_1 : decode cX10_in 1 = .ok (.lload_n 2, 1) := by decide +kernel
theorem dX10_in_2 : decode cX10_in 2 = .ok (.lcmp, 1) := by decide +kernel
theorem dX10_in_3 : decode cX10_in 3 = .ok (.ifCond .lt 14, 3) := by decide +kernel
theorem dX10_in_6 : decode cX10_in 6 = .ok (.lload_n 0, 1) := by decide +kernel
theorem dX10_in_7 : decode cX10_in 7 = .ok (.lload 4, 2) := by decide +kernel
theorem dX10_in_9 : decode cX10_in 9 = .ok (.lcmp, 1) := by decide +kernel
theorem dX10_in_10 : decode cX10_in 10 = .ok (.ifCond .gt 7, 3) := by decide +kernel
theorem dX10_in_13 : decode cX10_in 13 = .ok (.iconst 1, 1) := by decide +kernel
theorem dX10_in_14 : decode cX10_in 14 = .ok (.goto 4, 3) := by decide +kernel
theorem dX10_in_17 : decode cX10_in 17 = .ok (.iconst 0, 1) := by decide +kernel
theorem dX10_in_18 : decode cX10_in 18 = .ok (.ireturn, 1) := by decide +kernel
theorem dX10_isSlot_0 : decode cX10_isSlot 0 = .ok (.iload_n 0, 1) := by decide +kernel
theorem dX10_isSlot_1 : decode cX10_isSlot 1 = .ok (.i2l, 1) := by decide +kernel
theorem dX10_isSlot_2 : decode cX10_isSlot 2 = .ok (.lconst 0, 1) := by decide +kernel
theorem dX10_isSlot_3 : decode cX10_isSlot 3 = .ok (.ldc2_w 98, 3) := by decide +kernel
theorem dX10_isSlot_6 : decode cX10_isSlot 6 = .ok (.invokestatic 100, 3) := by decide +kernel
theorem dX10_isSlot_9 : decode cX10_isSlot 9 = .ok (.ireturn, 1) := by decide +kernel
theorem dX10_row_0 : decode cX10_row 0 = .ok (.aload_n 0, 1) := by decide +kernel
theorem dX10_row_1 : decode cX10_row 1 = .ok (.iconst 0, 1) := by decide +kernel
theorem dX10_row_2 : decode cX10_row 2 = .ok (.putfield 95, 3) := by decide +kernel
theorem dX10_row_5 : decode cX10_row 5 = .ok (.iload_n 1, 1) := by decide +kernel
theorem dX10_row_6 : decode cX10_row 6 = .ok (.invokestatic 104, 3) := by decide +kernel
theorem dX10_row_9 : decode cX10_row 9 = .ok (.ifCond .eq 21, 3) := by decide +kernel
theorem dX10_row_12 : decode cX10_row 12 = .ok (.iload_n 2, 1) := by decide +kernel
theorem dX10_row_13 : decode cX10_row 13 = .ok (.i2l, 1) := by decide +kernel
theorem dX10_row_14 : decode cX10_row 14 = .ok (.lconst 0, 1) := by decide +kernel
theorem dX10_row_15 : decode cX10_row 15 = .ok (.ldc2_w 98, 3) := by decide +kernel
theorem dX10_row_18 : decode cX10_row 18 = .ok (.invokestatic 100, 3) := by decide +kernel
theorem dX10_row_21 : decode cX10_row 21 = .ok (.ifCond .eq 9, 3) := by decide +kernel
theorem dX10_row_24 : decode cX10_row 24 = .ok (.iload_n 3, 1) := by decide +kernel
theorem dX10_row_25 : decode cX10_row 25 = .ok (.bipush 60, 2) := by decide +kernel
theorem dX10_row_27 : decode cX10_row 27 = .ok (.if_icmp .le 6, 3) := by decide +kernel
theorem dX10_row_30 : decode cX10_row 30 = .ok (.bipush (-2), 2) := by decide +kernel
theorem dX10_row_32 : decode cX10_row 32 = .ok (.ireturn, 1) := by decide +kernel
theorem dX10_row_33 : decode cX10_row 33 = .ok (.iload_n 3, 1) := by decide +kernel
theorem dX10_row_34 : decode cX10_row 34 = .ok (.ifCond .ge 6, 3) := by decide +kernel
theorem dX10_row_37 : decode cX10_row 37 = .ok (.bipush (-3), 2) := by decide +kernel
theorem dX10_row_39 : decode cX10_row 39 = .ok (.ireturn, 1) := by decide +kernel
theorem dX10_row_40 : decode cX10_row 40 = .ok (.aload_n 0, 1) := by decide +kernel
theorem dX10_row_41 : decode cX10_row 41 = .ok (.getfield 7, 3) := by decide +kernel
theorem dX10_row_44 : decode cX10_row 44 = .ok (.iload_n 1, 1) := by decide +kernel
theorem dX10_row_45 : decode cX10_row 45 = .ok (.iload_n 2, 1) := by decide +kernel
theorem dX10_row_46 : decode cX10_row 46 = .ok (.iastore, 1) := by decide +kernel
theorem dX10_row_47 : decode cX10_row 47 = .ok (.aload_n 0, 1) := by decide +kernel
theorem dX10_row_48 : decode cX10_row 48 = .ok (.getfield 13, 3) := by decide +kernel
theorem dX10_row_51 : decode cX10_row 51 = .ok (.iload_n 1, 1) := by decide +kernel
theorem dX10_row_52 : decode cX10_row 52 = .ok (.iload_n 3, 1) := by decide +kernel
theorem dX10_row_53 : decode cX10_row 53 = .ok (.iastore, 1) := by decide +kernel
theorem dX10_row_54 : decode cX10_row 54 = .ok (.iconst 0, 1) := by decide +kernel
theorem dX10_row_55 : decode cX10_row 55 = .ok (.istore 4, 2) := by decide +kernel
theorem dX10_row_57 : decode cX10_row 57 = .ok (.iload 4, 2) := by decide +kernel
theorem dX10_row_59 : decode cX10_row 59 = .ok (.iload_n 3, 1) := by decide +kernel
theorem dX10_row_60 : decode cX10_row 60 = .ok (.if_icmp .ge 22, 3) := by decide +kernel
theorem dX10_row_63 : decode cX10_row 63 = .ok (.aload_n 0, 1) := by decide +kernel
theorem dX10_row_64 : decode cX10_row 64 = .ok (.getfield 16, 3) := by decide +kernel
theorem dX10_row_67 : decode cX10_row 67 = .ok (.bipush 60, 2) := by decide +kernel
theorem dX10_row_69 : decode cX10_row 69 = .ok (.iload_n 1, 1) := by decide +kernel
theorem dX10_row_70 : decode cX10_row 70 = .ok (.imul, 1) := by decide +kernel
theorem dX10_row_71 : decode cX10_row 71 = .ok (.iload 4, 2) := by decide +kernel
theorem dX10_row_73 : decode cX10_row 73 = .ok (.iadd, 1) := by decide +kernel
theorem dX10_row_74 : decode cX10_row 74 = .ok (.lconst 0, 1) := by decide +kernel
theorem dX10_row_75 : decode cX10_row 75 = .ok (.lastore, 1) := by decide +kernel
theorem dX10_row_76 : decode cX10_row 76 = .ok (.iinc 4 1, 3) := by decide +kernel
theorem dX10_row_79 : decode cX10_row 79 = .ok (.goto (-22), 3) := by decide +kernel
theorem dX10_row_82 : decode cX10_row 82 = .ok (.iconst 0, 1) := by decide +kernel
theorem dX10_row_83 : decode cX10_row 83 = .ok (.ireturn, 1) := by decide +kernel
theorem dX10_cut_0 : decode cX10_cut 0 = .ok (.iload_n 2, 1) := by decide +kernel
theorem dX10_cut_1 : decode cX10_cut 1 = .ok (.ifCond .ne 10, 3) := by decide +kernel
theorem dX10_cut_4 : decode cX10_cut 4 = .ok (.lload_n 0, 1) := by decide +kernel
theorem dX10_cut_5 : decode cX10_cut 5 = .ok (.l2i, 1) := by decide +kernel
theorem dX10_cut_6 : decode cX10_cut 6 = .ok (.i2b, 1) := by decide +kernel
theorem dX10_cut_7 : decode cX10_cut 7 = .ok (.i2l, 1) := by decide +kernel
theorem dX10_cut_8 : decode cX10_cut 8 = .ok (.goto 27, 3) := by decide +kernel
theorem dX10_cut_11 : decode cX10_cut 11 = .ok (.iload_n 2, 1) := by decide +kernel
theorem dX10_cut_12 : decode cX10_cut 12 = .ok (.iconst 1, 1) := by decide +kernel
theorem dX10_cut_13 : decode cX10_cut 13 = .ok (.if_icmp .ne 10, 3) := by decide +kernel
theorem dX10_cut_16 : decode cX10_cut 16 = .ok (.lload_n 0, 1) := by decide +kernel
theorem dX10_cut_17 : decode cX10_cut 17 = .ok (.l2i, 1) := by decide +kernel
theorem dX10_cut_18 : decode cX10_cut 18 = .ok (.i2s, 1) := by decide +kernel
theorem dX10_cut_19 : decode cX10_cut 19 = .ok (.i2l, 1) := by decide +kernel
theorem dX10_cut_20 : decode cX10_cut 20 = .ok (.goto 15, 3) := by decide +kernel
theorem dX10_cut_23 : decode cX10_cut 23 = .ok (.iload_n 2, 1) := by decide +kernel
theorem dX10_cut_24 : decode cX10_cut 24 = .ok (.iconst 2, 1) := by decide +kernel
theorem dX10_cut_25 : decode cX10_cut 25 = .ok (.if_icmp .ne 9, 3) := by decide +kernel
theorem dX10_cut_28 : decode cX10_cut 28 = .ok (.lload_n 0, 1) := by decide +kernel
theorem dX10_cut_29 : decode cX10_cut 29 = .ok (.l2i, 1) := by decide +kernel
theorem dX10_cut_30 : decode cX10_cut 30 = .ok (.i2l, 1) := by decide +kernel
theorem dX10_cut_31 : decode cX10_cut 31 = .ok (.goto 4, 3) := by decide +kernel
theorem dX10_cut_34 : decode cX10_cut 34 = .ok (.lload_n 0, 1) := by decide +kernel
theorem dX10_cut_35 : decode cX10_cut 35 = .ok (.lreturn, 1) := by decide +kernel
theorem dX10_write_0 : decode cX10_write 0 = .ok (.aload_n 0, 1) := by decide +kernel
theorem dX10_write_1 : decode cX10_write 1 = .ok (.iconst 0, 1) := by decide +kernel
theorem dX10_write_2 : decode cX10_write 2 = .ok (.putfield 95, 3) := by decide +kernel
theorem dX10_write_5 : decode cX10_write 5 = .ok (.iload_n 1, 1) := by decide +kernel
theorem dX10_write_6 : decode cX10_write 6 = .ok (.invokestatic 104, 3) := by decide +kernel
theorem dX10_write_9 : decode cX10_write 9 = .ok (.ifCond .ne 6, 3) := by decide +kernel
theorem dX10_write_12 : decode cX10_write 12 = .ok (.bipush (-2), 2) := by decide +kernel
theorem dX10_write_14 : decode cX10_write 14 = .ok (.ireturn, 1) := by decide +kernel
theorem dX10_write_15 : decode cX10_write 15 = .ok (.aload_n 0, 1) := by decide +kernel
theorem dX10_write_16 : decode cX10_write 16 = .ok (.getfield 7, 3) := by decide +kernel
theorem dX10_write_19 : decode cX10_write 19 = .ok (.iload_n 1, 1) := by decide +kernel
theorem dX10_write_20 : decode cX10_write 20 = .ok (.iaload, 1) := by decide +kernel
theorem dX10_write_21 : decode cX10_write 21 = .ok (.iconst (-1), 1) := by decide +kernel
theorem dX10_write_22 : decode cX10_write 22 = .ok (.if_icmp .ne 6, 3) := by decide +kernel
theorem dX10_write_25 : decode cX10_write 25 = .ok (.bipush (-6), 2) := by decide +kernel
theorem dX10_write_27 : decode cX10_write 27 = .ok (.ireturn, 1) := by decide +kernel
theorem dX10_write_28 : decode cX10_write 28 = .ok (.iload_n 2, 1) := by decide +kernel
theorem dX10_write_29 : decode cX10_write 29 = .ok (.i2l, 1) := by decide +kernel
theorem dX10_write_30 : decode cX10_write 30 = .ok (.lconst 0, 1) := by decide +kernel
theorem dX10_write_31 : decode cX10_write 31 = .ok (.aload_n 0, 1) := by decide +kernel
theorem dX10_write_32 : decode cX10_write 32 = .ok (.getfield 13, 3) := by decide +kernel
theorem dX10_write_35 : decode cX10_write 35 = .ok (.iload_n 1, 1) := by decide +kernel
theorem dX10_write_36 : decode cX10_write 36 = .ok (.iaload, 1) := by decide +kernel
theorem dX10_write_37 : decode cX10_write 37 = .ok (.iconst 1, 1) := by decide +kernel
theorem dX10_write_38 : decode cX10_write 38 = .ok (.isub, 1) := by decide +kernel
theorem dX10_write_39 : decode cX10_write 39 = .ok (.i2l, 1) := by decide +kernel
theorem dX10_write_40 : decode cX10_write 40 = .ok (.invokestatic 100, 3) := by decide +kernel
theorem dX10_write_43 : decode cX10_write 43 = .ok (.ifCond .ne 6, 3) := by decide +kernel
theorem dX10_write_46 : decode cX10_write 46 = .ok (.bipush (-7), 2) := by decide +kernel
theorem dX10_write_48 : decode cX10_write 48 = .ok (.ireturn, 1) := by decide +kernel
theorem dX10_write_49 : decode cX10_write 49 = .ok (.aload_n 0, 1) := by decide +kernel
theorem dX10_write_50 : decode cX10_write 50 = .ok (.getfield 16, 3) := by decide +kernel
theorem dX10_write_53 : decode cX10_write 53 = .ok (.bipush 60, 2) := by decide +kernel
theorem dX10_write_55 : decode cX10_write 55 = .ok (.iload_n 1, 1) := by decide +kernel
theorem dX10_write_56 : decode cX10_write 56 = .ok (.imul, 1) := by decide +kernel
theorem dX10_write_57 : decode cX10_write 57 = .ok (.iload_n 2, 1) := by decide +kernel
theorem dX10_write_58 : decode cX10_write 58 = .ok (.iadd, 1) := by decide +kernel
theorem dX10_write_59 : decode cX10_write 59 = .ok (.lload_n 3, 1) := by decide +kernel
theorem dX10_write_60 : decode cX10_write 60 = .ok (.aload_n 0, 1) := by decide +kernel
theorem dX10_write_61 : decode cX10_write 61 = .ok (.getfield 7, 3) := by decide +kernel
theorem dX10_write_64 : decode cX10_write 64 = .ok (.iload_n 1, 1) := by decide +kernel
theorem dX10_write_65 : decode cX10_write 65 = .ok (.iaload, 1) := by decide +kernel
theorem dX10_write_66 : decode cX10_write 66 = .ok (.invokestatic 108, 3) := by decide +kernel
theorem dX10_write_69 : decode cX10_write 69 = .ok (.lastore, 1) := by decide +kernel
theorem dX10_write_70 : decode cX10_write 70 = .ok (.iconst 0, 1) := by decide +kernel
theorem dX10_write_71 : decode cX10_write 71 = .ok (.ireturn, 1) := by decide +kernel
theorem dX10_paste_0 : decode cX10_paste 0 = .ok (.aload_n 0, 1) := by decide +kernel
theorem dX10_paste_1 : decode cX10_paste 1 = .ok (.iconst 0, 1) := by decide +kernel
theorem dX10_paste_2 : decode cX10_paste 2 = .ok (.putfield 95, 3) := by decide +kernel
theorem dX10_paste_5 : decode cX10_paste 5 = .ok (.iload_n 1, 1) := by decide +kernel
theorem dX10_paste_6 : decode cX10_paste 6 = .ok (.invokestatic 104, 3) := by decide +kernel
theorem dX10_paste_9 : decode cX10_paste 9 = .ok (.ifCond .eq 10, 3) := by decide +kernel
theorem dX10_paste_12 : decode cX10_paste 12 = .ok (.iload_n 3, 1) := by decide +kernel
theorem dX10_paste_13 : decode cX10_paste 13 = .ok (.invokestatic 104, 3) := by decide +kernel
theorem dX10_paste_16 : decode cX10_paste 16 = .ok (.ifCond .ne 6, 3) := by decide +kernel
theorem dX10_paste_19 : decode cX10_paste 19 = .ok (.bipush (-2), 2) := by decide +kernel
theorem dX10_paste_21 : decode cX10_paste 21 = .ok (.ireturn, 1) := by decide +kernel
theorem dX10_paste_22 : decode cX10_paste 22 = .ok (.aload_n 0, 1) := by decide +kernel
theorem dX10_paste_23 : decode cX10_paste 23 = .ok (.getfield 7, 3) := by decide +kernel
theorem dX10_paste_26 : decode cX10_paste 26 = .ok (.iload_n 1, 1) := by decide +kernel
theorem dX10_paste_27 : decode cX10_paste 27 = .ok (.iaload, 1) := by decide +kernel
theorem dX10_paste_28 : decode cX10_paste 28 = .ok (.iconst (-1), 1) := by decide +kernel
theorem dX10_paste_29 : decode cX10_paste 29 = .ok (.if_icmp .eq 13, 3) := by decide +kernel
theorem dX10_paste_32 : decode cX10_paste 32 = .ok (.aload_n 0, 1) := by decide +kernel
theorem dX10_paste_33 : decode cX10_paste 33 = .ok (.getfield 7, 3) := by decide +kernel
theorem dX10_paste_36 : decode cX10_paste 36 = .ok (.iload_n 3, 1) := by decide +kernel
theorem dX10_paste_37 : decode cX10_paste 37 = .ok (.iaload, 1) := by decide +kernel
theorem dX10_paste_38 : decode cX10_paste 38 = .ok (.iconst (-1), 1) := by decide +kernel
theorem dX10_paste_39 : decode cX10_paste 39 = .ok (.if_icmp .ne 6, 3) := by decide +kernel
theorem dX10_paste_42 : decode cX10_paste 42 = .ok (.bipush (-6), 2) := by decide +kernel
theorem dX10_paste_44 : decode cX10_paste 44 = .ok (.ireturn, 1) := by decide +kernel
theorem dX10_paste_45 : decode cX10_paste 45 = .ok (.aload_n 0, 1) := by decide +kernel
theorem dX10_paste_46 : decode cX10_paste 46 = .ok (.getfield 7, 3) := by decide +kernel
theorem dX10_paste_49 : decode cX10_paste 49 = .ok (.iload_n 1, 1) := by decide +kernel
theorem dX10_paste_50 : decode cX10_paste 50 = .ok (.iaload, 1) := by decide +kernel
theorem dX10_paste_51 : decode cX10_paste 51 = .ok (.aload_n 0, 1) := by decide +kernel
theorem dX10_paste_52 : decode cX10_paste 52 = .ok (.getfield 7, 3) := by decide +kernel
theorem dX10_paste_55 : decode cX10_paste 55 = .ok (.iload_n 3, 1) := by decide +kernel
theorem dX10_paste_56 : decode cX10_paste 56 = .ok (.iaload, 1) := by decide +kernel
theorem dX10_paste_57 : decode cX10_paste 57 = .ok (.if_icmp .eq 6, 3) := by decide +kernel
theorem dX10_paste_60 : decode cX10_paste 60 = .ok (.bipush (-8), 2) := by decide +kernel
theorem dX10_paste_62 : decode cX10_paste 62 = .ok (.ireturn, 1) := by decide +kernel
theorem dX10_paste_63 : decode cX10_paste 63 = .ok (.iload_n 2, 1) := by decide +kernel
theorem dX10_paste_64 : decode cX10_paste 64 = .ok (.ifCond .lt 48, 3) := by decide +kernel
theorem dX10_paste_67 : decode cX10_paste 67 = .ok (.iload 4, 2) := by decide +kernel
theorem dX10_paste_69 : decode cX10_paste 69 = .ok (.ifCond .lt 43, 3) := by decide +kernel
theorem dX10_paste_72 : decode cX10_paste 72 = .ok (.iload 5, 2) := by decide +kernel
theorem dX10_paste_74 : decode cX10_paste 74 = .ok (.ifCond .lt 38, 3) := by decide +kernel
theorem dX10_paste_77 : decode cX10_paste 77 = .ok (.iload_n 2, 1) := by decide +kernel
theorem dX10_paste_78 : decode cX10_paste 78 = .ok (.i2l, 1) := by decide +kernel
theorem dX10_paste_79 : decode cX10_paste 79 = .ok (.iload 5, 2) := by decide +kernel
theorem dX10_paste_81 : decode cX10_paste 81 = .ok (.i2l, 1) := by decide +kernel
theorem dX10_paste_82 : decode cX10_paste 82 = .ok (.ladd, 1) := by decide +kernel
theorem dX10_paste_83 : decode cX10_paste 83 = .ok (.aload_n 0, 1) := by decide +kernel
theorem dX10_paste_84 : decode cX10_paste 84 = .ok (.getfield 13, 3) := by decide +kernel
theorem dX10_paste_87 : decode cX10_paste 87 = .ok (.iload_n 1, 1) := by decide +kernel
theorem dX10_paste_88 : decode cX10_paste 88 = .ok (.iaload, 1) := by decide +kernel
theorem dX10_paste_89 : decode cX10_paste 89 = .ok (.i2l, 1) := by decide +kernel
theorem dX10_paste_90 : decode cX10_paste 90 = .ok (.lcmp, 1) := by decide +kernel
theorem dX10_paste_91 : decode cX10_paste 91 = .ok (.ifCond .gt 21, 3) := by decide +kernel
theorem dX10_paste_94 : decode cX10_paste 94 = .ok (.iload 4, 2) := by decide +kernel
theorem dX10_paste_96 : decode cX10_paste 96 = .ok (.i2l, 1) := by decide +kernel
theorem dX10_paste_97 : decode cX10_paste 97 = .ok (.iload 5, 2) := by decide +kernel
theorem dX10_paste_99 : decode cX10_paste 99 = .ok (.i2l, 1) := by decide +kernel
theorem dX10_paste_100 : decode cX10_paste 100 = .ok (.ladd, 1) := by decide +kernel
theorem dX10_paste_101 : decode cX10_paste 101 = .ok (.aload_n 0, 1) := by decide +kernel
theorem dX10_paste_102 : decode cX10_paste 102 = .ok (.getfield 13, 3) := by decide +kernel
theorem dX10_paste_105 : decode cX10_paste 105 = .ok (.iload_n 3, 1) := by decide +kernel
theorem dX10_paste_106 : decode cX10_paste 106 = .ok (.iaload, 1) := by decide +kernel
theorem dX10_paste_107 : decode cX10_paste 107 = .ok (.i2l, 1) := by decide +kernel
theorem dX10_paste_108 : decode cX10_paste 108 = .ok (.lcmp, 1) := by decide +kernel
theorem dX10_paste_109 : decode cX10_paste 109 = .ok (.ifCond .le 6, 3) := by decide +kernel
theorem dX10_paste_112 : decode cX10_paste 112 = .ok (.bipush (-7), 2) := by decide +kernel
theorem dX10_paste_114 : decode cX10_paste 114 = .ok (.ireturn, 1) := by decide +kernel
theorem dX10_paste_115 : decode cX10_paste 115 = .ok (.iconst 0, 1) := by decide +kernel
theorem dX10_paste_116 : decode cX10_paste 116 = .ok (.istore 6, 2) := by decide +kernel
theorem dX10_paste_118 : decode cX10_paste 118 = .ok (.iload 6, 2) := by decide +kernel
theorem dX10_paste_120 : decode cX10_paste 120 = .ok (.iload 5, 2) := by decide +kernel
theorem dX10_paste_122 : decode cX10_paste 122 = .ok (.if_icmp .ge 30, 3) := by decide +kernel
theorem dX10_paste_125 : decode cX10_paste 125 = .ok (.aload_n 0, 1) := by decide +kernel
theorem dX10_paste_126 : decode cX10_paste 126 = .ok (.getfield 20, 3) := by decide +kernel
theorem dX10_paste_129 : decode cX10_paste 129 = .ok (.iload 6, 2) := by decide +kernel
theorem dX10_paste_131 : decode cX10_paste 131 = .ok (.aload_n 0, 1) := by decide +kernel
theorem dX10_paste_132 : decode cX10_paste 132 = .ok (.getfield 16, 3) := by decide +kernel
theorem dX10_paste_135 : decode cX10_paste 135 = .ok (.bipush 60, 2) := by decide +kernel
theorem dX10_paste_137 : decode cX10_paste 137 = .ok (.iload_n 1, 1) := by decide +kernel
theorem dX10_paste_138 : decode cX10_paste 138 = .ok (.imul, 1) := by decide +kernel
theorem dX10_paste_139 : decode cX10_paste 139 = .ok (.iload_n 2, 1) := by decide +kernel
theorem dX10_paste_140 : decode cX10_paste 140 = .ok (.iadd, 1) := by decide +kernel
theorem dX10_paste_141 : decode cX10_paste 141 = .ok (.iload 6, 2) := by decide +kernel
theorem dX10_paste_143 : decode cX10_paste 143 = .ok (.iadd, 1) := by decide +kernel
theorem dX10_paste_144 : decode cX10_paste 144 = .ok (.laload, 1) := by decide +kernel
theorem dX10_paste_145 : decode cX10_paste 145 = .ok (.lastore, 1) := by decide +kernel
theorem dX10_paste_146 : decode cX10_paste 146 = .ok (.iinc 6 1, 3) := by decide +kernel
theorem dX10_paste_149 : decode cX10_paste 149 = .ok (.goto (-31), 3) := by decide +kernel
theorem dX10_paste_152 : decode cX10_paste 152 = .ok (.iconst 0, 1) := by decide +kernel
theorem dX10_paste_153 : decode cX10_paste 153 = .ok (.istore 6, 2) := by decide +kernel
theorem dX10_paste_155 : decode cX10_paste 155 = .ok (.iload 6, 2) := by decide +kernel
theorem dX10_paste_157 : decode cX10_paste 157 = .ok (.iload 5, 2) := by decide +kernel
theorem dX10_paste_159 : decode cX10_paste 159 = .ok (.if_icmp .ge 31, 3) := by decide +kernel
theorem dX10_paste_162 : decode cX10_paste 162 = .ok (.aload_n 0, 1) := by decide +kernel
theorem dX10_paste_163 : decode cX10_paste 163 = .ok (.getfield 16, 3) := by decide +kernel
theorem dX10_paste_166 : decode cX10_paste 166 = .ok (.bipush 60, 2) := by decide +kernel
theorem dX10_paste_168 : decode cX10_paste 168 = .ok (.iload_n 3, 1) := by decide +kernel
theorem dX10_paste_169 : decode cX10_paste 169 = .ok (.imul, 1) := by decide +kernel
theorem dX10_paste_170 : decode cX10_paste 170 = .ok (.iload 4, 2) := by decide +kernel
theorem dX10_paste_172 : decode cX10_paste 172 = .ok (.iadd, 1) := by decide +kernel
theorem dX10_paste_173 : decode cX10_paste 173 = .ok (.iload 6, 2) := by decide +kernel
theorem dX10_paste_175 : decode cX10_paste 175 = .ok (.iadd, 1) := by decide +kernel
theorem dX10_paste_176 : decode cX10_paste 176 = .ok (.aload_n 0, 1) := by decide +kernel
theorem dX10_paste_177 : decode cX10_paste 177 = .ok (.getfield 20, 3) := by decide +kernel
theorem dX10_paste_180 : decode cX10_paste 180 = .ok (.iload 6, 2) := by decide +kernel
theorem dX10_paste_182 : decode cX10_paste 182 = .ok (.laload, 1) := by decide +kernel
theorem dX10_paste_183 : decode cX10_paste 183 = .ok (.lastore, 1) := by decide +kernel
theorem dX10_paste_184 : decode cX10_paste 184 = .ok (.iinc 6 1, 3) := by decide +kernel
theorem dX10_paste_187 : decode cX10_paste 187 = .ok (.goto (-32), 3) := by decide +kernel
theorem dX10_paste_190 : decode cX10_paste 190 = .ok (.iconst 0, 1) := by decide +kernel
theorem dX10_paste_191 : decode cX10_paste 191 = .ok (.ireturn, 1) := by decide +kernel
theorem dX10_feed_0 : decode cX10_feed 0 = .ok (.aload_n 0, 1) := by decide +kernel
theorem dX10_feed_1 : decode cX10_feed 1 = .ok (.iconst 0, 1) := by decide +kernel
theorem dX10_feed_2 : decode cX10_feed 2 = .ok (.putfield 95, 3) := by decide +kernel
theorem dX10_feed_5 : decode cX10_feed 5 = .ok (.aload_n 0, 1) := by decide +kernel
theorem dX10_feed_6 : decode cX10_feed 6 = .ok (.getfield 112, 3) := by decide +kernel
theorem dX10_feed_9 : decode cX10_feed 9 = .ok (.bipush 20, 2) := by decide +kernel
theorem dX10_feed_11 : decode cX10_feed 11 = .ok (.iadd, 1) := by decide +kernel
theorem dX10_feed_12 : decode cX10_feed 12 = .ok (.sipush 800, 3) := by decide +kernel
theorem dX10_feed_15 : decode cX10_feed 15 = .ok (.if_icmp .le 5, 3) := by decide +kernel
theorem dX10_feed_18 : decode cX10_feed 18 = .ok (.iconst (-1), 1) := by decide +kernel
theorem dX10_feed_19 : decode cX10_feed 19 = .ok (.ireturn, 1) := by decide +kernel
theorem dX10_feed_20 : decode cX10_feed 20 = .ok (.aload_n 0, 1) := by decide +kernel
theorem dX10_feed_21 : decode cX10_feed 21 = .ok (.iload_n 1, 1) := by decide +kernel
theorem dX10_feed_22 : decode cX10_feed 22 = .ok (.invokevirtual 115, 3) := by decide +kernel
theorem dX10_feed_25 : decode cX10_feed 25 = .ok (.aload_n 0, 1) := by decide +kernel
theorem dX10_feed_26 : decode cX10_feed 26 = .ok (.iload_n 2, 1) := by decide +kernel
theorem dX10_feed_27 : decode cX10_feed 27 = .ok (.invokevirtual 115, 3) := by decide +kernel
theorem dX10_feed_30 : decode cX10_feed 30 = .ok (.aload_n 0, 1) := by decide +kernel
theorem dX10_feed_31 : decode cX10_feed 31 = .ok (.iload_n 3, 1) := by decide +kernel
theorem dX10_feed_32 : decode cX10_feed 32 = .ok (.invokevirtual 115, 3) := by decide +kernel
theorem dX10_feed_35 : decode cX10_feed 35 = .ok (.aload_n 0, 1) := by decide +kernel
theorem dX10_feed_36 : decode cX10_feed 36 = .ok (.iload 4, 2) := by decide +kernel
theorem dX10_feed_38 : decode cX10_feed 38 = .ok (.invokevirtual 115, 3) := by decide +kernel
theorem dX10_feed_41 : decode cX10_feed 41 = .ok (.aload_n 0, 1) := by decide +kernel
theorem dX10_feed_42 : decode cX10_feed 42 = .ok (.iload 5, 2) := by decide +kernel
theorem dX10_feed_44 : decode cX10_feed 44 = .ok (.invokevirtual 115, 3) := by decide +kernel
theorem dX10_feed_47 : decode cX10_feed 47 = .ok (.aload_n 0, 1) := by decide +kernel
theorem dX10_feed_48 : decode cX10_feed 48 = .ok (.getfield 112, 3) := by decide +kernel
theorem dX10_feed_51 : decode cX10_feed 51 = .ok (.ireturn, 1) := by decide +kernel
theorem dX10_four_0 : decode cX10_four 0 = .ok (.bipush 24, 2) := by decide +kernel
theorem dX10_four_2 : decode cX10_four 2 = .ok (.istore_n 2, 1) := by decide +kernel
theorem dX10_four_3 : decode cX10_four 3 = .ok (.iload_n 2, 1) := by decide +kernel
theorem dX10_four_4 : decode cX10_four 4 = .ok (.ifCond .lt 32, 3) := by decide +kernel
theorem dX10_four_7 : decode cX10_four 7 = .ok (.aload_n 0, 1) := by decide +kernel
theorem dX10_four_8 : decode cX10_four 8 = .ok (.getfield 23, 3) := by decide +kernel
theorem dX10_four_11 : decode cX10_four 11 = .ok (.aload_n 0, 1) := by decide +kernel
theorem dX10_four_12 : decode cX10_four 12 = .ok (.getfield 112, 3) := by decide +kernel
theorem dX10_four_15 : decode cX10_four 15 = .ok (.iload_n 1, 1) := by decide +kernel
theorem dX10_four_16 : decode cX10_four 16 = .ok (.iload_n 2, 1) := by decide +kernel
theorem dX10_four_17 : decode cX10_four 17 = .ok (.ishr, 1) := by decide +kernel
theorem dX10_four_18 : decode cX10_four 18 = .ok (.i2b, 1) := by decide +kernel
theorem dX10_four_19 : decode cX10_four 19 = .ok (.bastore, 1) := by decide +kernel
theorem dX10_four_20 : decode cX10_four 20 = .ok (.aload_n 0, 1) := by decide +kernel
theorem dX10_four_21 : decode cX10_four 21 = .ok (.dup, 1) := by decide +kernel
theorem dX10_four_22 : decode cX10_four 22 = .ok (.getfield 112, 3) := by decide +kernel
theorem dX10_four_25 : decode cX10_four 25 = .ok (.iconst 1, 1) := by decide +kernel
theorem dX10_four_26 : decode cX10_four 26 = .ok (.iadd, 1) := by decide +kernel
theorem dX10_four_27 : decode cX10_four 27 = .ok (.putfield 112, 3) := by decide +kernel
theorem dX10_four_30 : decode cX10_four 30 = .ok (.iinc 2 (-8), 3) := by decide +kernel
theorem dX10_four_33 : decode cX10_four 33 = .ok (.goto (-30), 3) := by decide +kernel
theorem dX10_four_36 : decode cX10_four 36 = .ok (.return_, 1) := by decide +kernel
theorem dX10_end_0 : decode cX10_end 0 = .ok (.aload_n 0, 1) := by decide +kernel
theorem dX10_end_1 : decode cX10_end 1 = .ok (.iconst 0, 1) := by decide +kernel
theorem dX10_end_2 : decode cX10_end 2 = .ok (.putfield 95, 3) := by decide +kernel
theorem dX10_end_5 : decode cX10_end 5 = .ok (.iload_n 1, 1) := by decide +kernel
theorem dX10_end_6 : decode cX10_end 6 = .ok (.i2l, 1) := by decide +kernel
theorem dX10_end_7 : decode cX10_end 7 = .ok (.lconst 0, 1) := by decide +kernel
theorem dX10_end_8 : decode cX10_end 8 = .ok (.aload_n 0, 1) := by decide +kernel
theorem dX10_end_9 : decode cX10_end 9 = .ok (.getfield 112, 3) := by decide +kernel
theorem dX10_end_12 : decode cX10_end 12 = .ok (.i2l, 1) := by decide +kernel
theorem dX10_end_13 : decode cX10_end 13 = .ok (.invokestatic 100, 3) := by decide +kernel
theorem dX10_end_16 : decode cX10_end 16 = .ok (.ifCond .ne 5, 3) := by decide +kernel
theorem dX10_end_19 : decode cX10_end 19 = .ok (.iconst (-1), 1) := by decide +kernel
theorem dX10_end_20 : decode cX10_end 20 = .ok (.ireturn, 1) := by decide +kernel
theorem dX10_end_21 : decode cX10_end 21 = .ok (.aload_n 0, 1) := by decide +kernel
theorem dX10_end_22 : decode cX10_end 22 = .ok (.iload_n 1, 1) := by decide +kernel
theorem dX10_end_23 : decode cX10_end 23 = .ok (.putfield 112, 3) := by decide +kernel
theorem dX10_end_26 : decode cX10_end 26 = .ok (.iload_n 1, 1) := by decide +kernel
theorem dX10_end_27 : decode cX10_end 27 = .ok (.ireturn, 1) := by decide +kernel
theorem dX10_isByte_0 : decode cX10_isByte 0 = .ok (.iload_n 1, 1) := by decide +kernel
theorem dX10_isByte_1 : decode cX10_isByte 1 = .ok (.aload_n 0, 1) := by decide +kernel
theorem dX10_isByte_2 : decode cX10_isByte 2 = .ok (.getfield 112, 3) := by decide +kernel
theorem dX10_isByte_5 : decode cX10_isByte 5 = .ok (.if_icmp .ge 27, 3) := by decide +kernel
theorem dX10_isByte_8 : decode cX10_isByte 8 = .ok (.aload_n 0, 1) := by decide +kernel
theorem dX10_isByte_9 : decode cX10_isByte 9 = .ok (.getfield 23, 3) := by decide +kernel
theorem dX10_isByte_12 : decode cX10_isByte 12 = .ok (.iload_n 1, 1) := by decide +kernel
theorem dX10_isByte_13 : decode cX10_isByte 13 = .ok (.baload, 1) := by decide +kernel
theorem dX10_isByte_14 : decode cX10_isByte 14 = .ok (.iload_n 2, 1) := by decide +kernel
theorem dX10_isByte_15 : decode cX10_isByte 15 = .ok (.if_icmp .lt 17, 3) := by decide +kernel
theorem dX10_isByte_18 : decode cX10_isByte 18 = .ok (.aload_n 0, 1) := by decide +kernel
theorem dX10_isByte_19 : decode cX10_isByte 19 = .ok (.getfield 23, 3) := by decide +kernel
theorem dX10_isByte_22 : decode cX10_isByte 22 = .ok (.iload_n 1, 1) := by decide +kernel
theorem dX10_isByte_23 : decode cX10_isByte 23 = .ok (.baload, 1) := by decide +kernel
theorem dX10_isByte_24 : decode cX10_isByte 24 = .ok (.iload_n 3, 1) := by decide +kernel
theorem dX10_isByte_25 : decode cX10_isByte 25 = .ok (.if_icmp .gt 7, 3) := by decide +kernel
theorem dX10_isByte_28 : decode cX10_isByte 28 = .ok (.iconst 1, 1) := by decide +kernel
theorem dX10_isByte_29 : decode cX10_isByte 29 = .ok (.goto 4, 3) := by decide +kernel
theorem dX10_isByte_32 : decode cX10_isByte 32 = .ok (.iconst 0, 1) := by decide +kernel
theorem dX10_isByte_33 : decode cX10_isByte 33 = .ok (.ireturn, 1) := by decide +kernel
theorem dX10_next_0 : decode cX10_next 0 = .ok (.aload_n 0, 1) := by decide +kernel
theorem dX10_next_1 : decode cX10_next 1 = .ok (.aload_n 0, 1) := by decide +kernel
theorem dX10_next_2 : decode cX10_next 2 = .ok (.getfield 119, 3) := by decide +kernel
theorem dX10_next_5 : decode cX10_next 5 = .ok (.bipush 32, 2) := by decide +kernel
theorem dX10_next_7 : decode cX10_next 7 = .ok (.bipush 32, 2) := by decide +kernel
theorem dX10_next_9 : decode cX10_next 9 = .ok (.invokevirtual 122, 3) := by decide +kernel
theorem dX10_next_12 : decode cX10_next 12 = .ok (.ifCond .ne 18, 3) := by decide +kernel
theorem dX10_next_15 : decode cX10_next 15 = .ok (.aload_n 0, 1) := by decide +kernel
theorem dX10_next_16 : decode cX10_next 16 = .ok (.aload_n 0, 1) := by decide +kernel
theorem dX10_next_17 : decode cX10_next 17 = .ok (.getfield 119, 3) := by decide +kernel
theorem dX10_next_20 : decode cX10_next 20 = .ok (.bipush 10, 2) := by decide +kernel
theorem dX10_next_22 : decode cX10_next 22 = .ok (.bipush 10, 2) := by decide +kernel
theorem dX10_next_24 : decode cX10_next 24 = .ok (.invokevirtual 122, 3) := by decide +kernel
theorem dX10_next_27 : decode cX10_next 27 = .ok (.ifCond .eq 16, 3) := by decide +kernel
theorem dX10_next_30 : decode cX10_next 30 = .ok (.aload_n 0, 1) := by decide +kernel
theorem dX10_next_31 : decode cX10_next 31 = .ok (.dup, 1) := by decide +kernel
theorem dX10_next_32 : decode cX10_next 32 = .ok (.getfield 119, 3) := by decide +kernel
theorem dX10_next_35 : decode cX10_next 35 = .ok (.iconst 1, 1) := by decide +kernel
theorem dX10_next_36 : decode cX10_next 36 = .ok (.iadd, 1) := by decide +kernel
theorem dX10_next_37 : decode cX10_next 37 = .ok (.putfield 119, 3) := by decide +kernel
theorem dX10_next_40 : decode cX10_next 40 = .ok (.goto (-40), 3) := by decide +kernel
theorem dX10_next_43 : decode cX10_next 43 = .ok (.aload_n 0, 1) := by decide +kernel
theorem dX10_next_44 : decode cX10_next 44 = .ok (.aload_n 0, 1) := by decide +kernel
theorem dX10_next_45 : decode cX10_next 45 = .ok (.getfield 119, 3) := by decide +kernel
theorem dX10_next_48 : decode cX10_next 48 = .ok (.putfield 126, 3) := by decide +kernel
theorem dX10_next_51 : decode cX10_next 51 = .ok (.aload_n 0, 1) := by decide +kernel
theorem dX10_next_52 : decode cX10_next 52 = .ok (.iconst 0, 1) := by decide +kernel
theorem dX10_next_53 : decode cX10_next 53 = .ok (.putfield 129, 3) := by decide +kernel
theorem dX10_next_56 : decode cX10_next 56 = .ok (.aload_n 0, 1) := by decide +kernel
theorem dX10_next_57 : decode cX10_next 57 = .ok (.lconst 0, 1) := by decide +kernel
theorem dX10_next_58 : decode cX10_next 58 = .ok (.putfield 132, 3) := by decide +kernel
theorem dX10_next_61 : decode cX10_next 61 = .ok (.aload_n 0, 1) := by decide +kernel
theorem dX10_next_62 : decode cX10_next 62 = .ok (.getfield 119, 3) := by decide +kernel
theorem dX10_next_65 : decode cX10_next 65 = .ok (.aload_n 0, 1) := by decide +kernel
theorem dX10_next_66 : decode cX10_next 66 = .ok (.getfield 112, 3) := by decide +kernel
theorem dX10_next_69 : decode cX10_next 69 = .ok (.if_icmp .ne 11, 3) := by decide +kernel
theorem dX10_next_72 : decode cX10_next 72 = .ok (.aload_n 0, 1) := by decide +kernel
theorem dX10_next_73 : decode cX10_next 73 = .ok (.iconst 0, 1) := by decide +kernel
theorem dX10_next_74 : decode cX10_next 74 = .ok (.putfield 136, 3) := by decide +kernel
theorem dX10_next_77 : decode cX10_next 77 = .ok (.goto 230, 3) := by decide +kernel
theorem dX10_next_80 : decode cX10_next 80 = .ok (.aload_n 0, 1) := by decide +kernel
theorem dX10_next_81 : decode cX10_next 81 = .ok (.aload_n 0, 1) := by decide +kernel
theorem dX10_next_82 : decode cX10_next 82 = .ok (.getfield 119, 3) := by decide +kernel
theorem dX10_next_85 : decode cX10_next 85 = .ok (.bipush 97, 2) := by decide +kernel
theorem dX10_next_87 : decode cX10_next 87 = .ok (.bipush 122, 2) := by decide +kernel
theorem dX10_next_89 : decode cX10_next 89 = .ok (.invokevirtual 122, 3) := by decide +kernel
theorem dX10_next_92 : decode cX10_next 92 = .ok (.ifCond .eq 96, 3) := by decide +kernel
theorem dX10_next_95 : decode cX10_next 95 = .ok (.aload_n 0, 1) := by decide +kernel
theorem dX10_next_96 : decode cX10_next 96 = .ok (.iconst 1, 1) := by decide +kernel
theorem dX10_next_97 : decode cX10_next 97 = .ok (.putfield 136, 3) := by decide +kernel
theorem dX10_next_100 : decode cX10_next 100 = .ok (.iconst 0, 1) := by decide +kernel
theorem dX10_next_101 : decode cX10_next 101 = .ok (.istore_n 1, 1) := by decide +kernel
theorem dX10_next_102 : decode cX10_next 102 = .ok (.aload_n 0, 1) := by decide +kernel
theorem dX10_next_103 : decode cX10_next 103 = .ok (.aload_n 0, 1) := by decide +kernel
theorem dX10_next_104 : decode cX10_next 104 = .ok (.getfield 119, 3) := by decide +kernel
theorem dX10_next_107 : decode cX10_next 107 = .ok (.bipush 97, 2) := by decide +kernel
theorem dX10_next_109 : decode cX10_next 109 = .ok (.bipush 122, 2) := by decide +kernel
theorem dX10_next_111 : decode cX10_next 111 = .ok (.invokevirtual 122, 3) := by decide +kernel
theorem dX10_next_114 : decode cX10_next 114 = .ok (.ifCond .eq 71, 3) := by decide +kernel
theorem dX10_next_117 : decode cX10_next 117 = .ok (.aload_n 0, 1) := by decide +kernel
theorem dX10_next_118 : decode cX10_next 118 = .ok (.iload_n 1, 1) := by decide +kernel
theorem dX10_next_119 : decode cX10_next 119 = .ok (.bipush 11, 2) := by decide +kernel
theorem dX10_next_121 : decode cX10_next 121 = .ok (.if_icmp .le 9, 3) := by decide +kernel
theorem dX10_next_124 : decode cX10_next 124 = .ok (.ldc2_w 139, 3) := by decide +kernel
theorem dX10_next_127 : decode cX10_next 127 = .ok (.goto 26, 3) := by decide +kernel
theorem dX10_next_130 : decode cX10_next 130 = .ok (.ldc2_w 141, 3) := by decide +kernel
theorem dX10_next_133 : decode cX10_next 133 = .ok (.aload_n 0, 1) := by decide +kernel
theorem dX10_next_134 : decode cX10_next 134 = .ok (.getfield 132, 3) := by decide +kernel
theorem dX10_next_137 : decode cX10_next 137 = .ok (.lmul, 1) := by decide +kernel
theorem dX10_next_138 : decode cX10_next 138 = .ok (.aload_n 0, 1) := by decide +kernel
theorem dX10_next_139 : decode cX10_next 139 = .ok (.getfield 23, 3) := by decide +kernel
theorem dX10_next_142 : decode cX10_next 142 = .ok (.aload_n 0, 1) := by decide +kernel
theorem dX10_next_143 : decode cX10_next 143 = .ok (.getfield 119, 3) := by decide +kernel
theorem dX10_next_146 : decode cX10_next 146 = .ok (.baload, 1) := by decide +kernel
theorem dX10_next_147 : decode cX10_next 147 = .ok (.i2l, 1) := by decide +kernel
theorem dX10_next_148 : decode cX10_next 148 = .ok (.ladd, 1) := by decide +kernel
theorem dX10_next_149 : decode cX10_next 149 = .ok (.ldc2_w 143, 3) := by decide +kernel
theorem dX10_next_152 : decode cX10_next 152 = .ok (.lsub, 1) := by decide +kernel
theorem dX10_next_153 : decode cX10_next 153 = .ok (.putfield 132, 3) := by decide +kernel
theorem dX10_next_156 : decode cX10_next 156 = .ok (.iload_n 1, 1) := by decide +kernel
theorem dX10_next_157 : decode cX10_next 157 = .ok (.bipush 11, 2) := by decide +kernel
theorem dX10_next_159 : decode cX10_next 159 = .ok (.if_icmp .le 10, 3) := by decide +kernel
theorem dX10_next_162 : decode cX10_next 162 = .ok (.aload_n 0, 1) := by decide +kernel
theorem dX10_next_163 : decode cX10_next 163 = .ok (.ldc2_w 139, 3) := by decide +kernel
theorem dX10_next_166 : decode cX10_next 166 = .ok (.putfield 132, 3) := by decide +kernel
theorem dX10_next_169 : decode cX10_next 169 = .ok (.aload_n 0, 1) := by decide +kernel
theorem dX10_next_170 : decode cX10_next 170 = .ok (.dup, 1) := by decide +kernel
theorem dX10_next_171 : decode cX10_next 171 = .ok (.getfield 119, 3) := by decide +kernel
theorem dX10_next_174 : decode cX10_next 174 = .ok (.iconst 1, 1) := by decide +kernel
theorem dX10_next_175 : decode cX10_next 175 = .ok (.iadd, 1) := by decide +kernel
theorem dX10_next_176 : decode cX10_next 176 = .ok (.putfield 119, 3) := by decide +kernel
theorem dX10_next_179 : decode cX10_next 179 = .ok (.iinc 1 1, 3) := by decide +kernel
theorem dX10_next_182 : decode cX10_next 182 = .ok (.goto (-80), 3) := by decide +kernel
theorem dX10_next_185 : decode cX10_next 185 = .ok (.goto 122, 3) := by decide +kernel
theorem dX10_next_188 : decode cX10_next 188 = .ok (.aload_n 0, 1) := by decide +kernel
theorem dX10_next_189 : decode cX10_next 189 = .ok (.aload_n 0, 1) := by decide +kernel
theorem dX10_next_190 : decode cX10_next 190 = .ok (.getfield 119, 3) := by decide +kernel
theorem dX10_next_193 : decode cX10_next 193 = .ok (.bipush 48, 2) := by decide +kernel
theorem dX10_next_195 : decode cX10_next 195 = .ok (.bipush 57, 2) := by decide +kernel
theorem dX10_next_197 : decode cX10_next 197 = .ok (.invokevirtual 122, 3) := by decide +kernel
theorem dX10_next_200 : decode cX10_next 200 = .ok (.ifCond .eq 74, 3) := by decide +kernel
theorem dX10_next_203 : decode cX10_next 203 = .ok (.aload_n 0, 1) := by decide +kernel
theorem dX10_next_204 : decode cX10_next 204 = .ok (.iconst 2, 1) := by decide +kernel
theorem dX10_next_205 : decode cX10_next 205 = .ok (.putfield 136, 3) := by decide +kernel
theorem dX10_next_208 : decode cX10_next 208 = .ok (.aload_n 0, 1) := by decide +kernel
theorem dX10_next_209 : decode cX10_next 209 = .ok (.aload_n 0, 1) := by decide +kernel
theorem dX10_next_210 : decode cX10_next 210 = .ok (.getfield 119, 3) := by decide +kernel
theorem dX10_next_213 : decode cX10_next 213 = .ok (.bipush 48, 2) := by decide +kernel
theorem dX10_next_215 : decode cX10_next 215 = .ok (.bipush 57, 2) := by decide +kernel
theorem dX10_next_217 : decode cX10_next 217 = .ok (.invokevirtual 122, 3) := by decide +kernel
theorem dX10_next_220 : decode cX10_next 220 = .ok (.ifCond .eq 87, 3) := by decide +kernel
theorem dX10_next_223 : decode cX10_next 223 = .ok (.aload_n 0, 1) := by decide +kernel
theorem dX10_next_224 : decode cX10_next 224 = .ok (.aload_n 0, 1) := by decide +kernel
theorem dX10_next_225 : decode cX10_next 225 = .ok (.getfield 129, 3) := by decide +kernel
theorem dX10_next_228 : decode cX10_next 228 = .ok (.ldc 145, 2) := by decide +kernel
theorem dX10_next_230 : decode cX10_next 230 = .ok (.if_icmp .le 8, 3) := by decide +kernel
theorem dX10_next_233 : decode cX10_next 233 = .ok (.ldc 146, 2) := by decide +kernel
theorem dX10_next_235 : decode cX10_next 235 = .ok (.goto 23, 3) := by decide +kernel
theorem dX10_next_238 : decode cX10_next 238 = .ok (.bipush 10, 2) := by decide +kernel
theorem dX10_next_240 : decode cX10_next 240 = .ok (.aload_n 0, 1) := by decide +kernel
theorem dX10_next_241 : decode cX10_next 241 = .ok (.getfield 129, 3) := by decide +kernel
theorem dX10_next_244 : decode cX10_next 244 = .ok (.imul, 1) := by decide +kernel
theorem dX10_next_245 : decode cX10_next 245 = .ok (.aload_n 0, 1) := by decide +kernel
theorem dX10_next_246 : decode cX10_next 246 = .ok (.getfield 23, 3) := by decide +kernel
theorem dX10_next_249 : decode cX10_next 249 = .ok (.aload_n 0, 1) := by decide +kernel
theorem dX10_next_250 : decode cX10_next 250 = .ok (.getfield 119, 3) := by decide +kernel
theorem dX10_next_253 : decode cX10_next 253 = .ok (.baload, 1) := by decide +kernel
theorem dX10_next_254 : decode cX10_next 254 = .ok (.iadd, 1) := by decide +kernel
theorem dX10_next_255 : decode cX10_next 255 = .ok (.bipush 48, 2) := by decide +kernel
theorem dX10_next_257 : decode cX10_next 257 = .ok (.isub, 1) := by decide +kernel
theorem dX10_next_258 : decode cX10_next 258 = .ok (.putfield 129, 3) := by decide +kernel
theorem dX10_next_261 : decode cX10_next 261 = .ok (.aload_n 0, 1) := by decide +kernel
theorem dX10_next_262 : decode cX10_next 262 = .ok (.dup, 1) := by decide +kernel
theorem dX10_next_263 : decode cX10_next 263 = .ok (.getfield 119, 3) := by decide +kernel
theorem dX10_next_266 : decode cX10_next 266 = .ok (.iconst 1, 1) := by decide +kernel
theorem dX10_next_267 : decode cX10_next 267 = .ok (.iadd, 1) := by decide +kernel
theorem dX10_next_268 : decode cX10_next 268 = .ok (.putfield 119, 3) := by decide +kernel
theorem dX10_next_271 : decode cX10_next 271 = .ok (.goto (-63), 3) := by decide +kernel
theorem dX10_next_274 : decode cX10_next 274 = .ok (.aload_n 0, 1) := by decide +kernel
theorem dX10_next_275 : decode cX10_next 275 = .ok (.aload_n 0, 1) := by decide +kernel
theorem dX10_next_276 : decode cX10_next 276 = .ok (.getfield 23, 3) := by decide +kernel
theorem dX10_next_279 : decode cX10_next 279 = .ok (.aload_n 0, 1) := by decide +kernel
theorem dX10_next_280 : decode cX10_next 280 = .ok (.getfield 119, 3) := by decide +kernel
theorem dX10_next_283 : decode cX10_next 283 = .ok (.baload, 1) := by decide +kernel
theorem dX10_next_284 : decode cX10_next 284 = .ok (.bipush 59, 2) := by decide +kernel
theorem dX10_next_286 : decode cX10_next 286 = .ok (.if_icmp .ne 7, 3) := by decide +kernel
theorem dX10_next_289 : decode cX10_next 289 = .ok (.iconst 3, 1) := by decide +kernel
theorem dX10_next_290 : decode cX10_next 290 = .ok (.goto 4, 3) := by decide +kernel
theorem dX10_next_293 : decode cX10_next 293 = .ok (.iconst 4, 1) := by decide +kernel
theorem dX10_next_294 : decode cX10_next 294 = .ok (.putfield 136, 3) := by decide +kernel
theorem dX10_next_297 : decode cX10_next 297 = .ok (.aload_n 0, 1) := by decide +kernel
theorem dX10_next_298 : decode cX10_next 298 = .ok (.dup, 1) := by decide +kernel
theorem dX10_next_299 : decode cX10_next 299 = .ok (.getfield 119, 3) := by decide +kernel
theorem dX10_next_302 : decode cX10_next 302 = .ok (.iconst 1, 1) := by decide +kernel
theorem dX10_next_303 : decode cX10_next 303 = .ok (.iadd, 1) := by decide +kernel
theorem dX10_next_304 : decode cX10_next 304 = .ok (.putfield 119, 3) := by decide +kernel
theorem dX10_next_307 : decode cX10_next 307 = .ok (.return_, 1) := by decide +kernel
theorem dX10_isGood_0 : decode cX10_isGood 0 = .ok (.aload_n 0, 1) := by decide +kernel
theorem dX10_isGood_1 : decode cX10_isGood 1 = .ok (.getfield 147, 3) := by decide +kernel
theorem dX10_isGood_4 : decode cX10_isGood 4 = .ok (.ifCond .ne 7, 3) := by decide +kernel
theorem dX10_isGood_7 : decode cX10_isGood 7 = .ok (.iconst 1, 1) := by decide +kernel
theorem dX10_isGood_8 : decode cX10_isGood 8 = .ok (.goto 4, 3) := by decide +kernel
theorem dX10_isGood_11 : decode cX10_isGood 11 = .ok (.iconst 0, 1) := by decide +kernel
theorem dX10_isGood_12 : decode cX10_isGood 12 = .ok (.ireturn, 1) := by decide +kernel
theorem dX10_fails_0 : decode cX10_fails 0 = .ok (.aload_n 0, 1) := by decide +kernel
theorem dX10_fails_1 : decode cX10_fails 1 = .ok (.getfield 147, 3) := by decide +kernel
theorem dX10_fails_4 : decode cX10_fails 4 = .ok (.ifCond .eq 4, 3) := by decide +kernel
theorem dX10_fails_7 : decode cX10_fails 7 = .ok (.return_, 1) := by decide +kernel
theorem dX10_fails_8 : decode cX10_fails 8 = .ok (.aload_n 0, 1) := by decide +kernel
theorem dX10_fails_9 : decode cX10_fails 9 = .ok (.iload_n 1, 1) := by decide +kernel
theorem dX10_fails_10 : decode cX10_fails 10 = .ok (.putfield 147, 3) := by decide +kernel
theorem dX10_fails_13 : decode cX10_fails 13 = .ok (.aload_n 0, 1) := by decide +kernel
theorem dX10_fails_14 : decode cX10_fails 14 = .ok (.aload_n 0, 1) := by decide +kernel
theorem dX10_fails_15 : decode cX10_fails 15 = .ok (.getfield 126, 3) := by decide +kernel
theorem dX10_fails_18 : decode cX10_fails 18 = .ok (.putfield 150, 3) := by decide +kernel
theorem dX10_fails_21 : decode cX10_fails 21 = .ok (.return_, 1) := by decide +kernel
theorem dX10_is_0 : decode cX10_is 0 = .ok (.aload_n 0, 1) := by decide +kernel
theorem dX10_is_1 : decode cX10_is 1 = .ok (.getfield 147, 3) := by decide +kernel
theorem dX10_is_4 : decode cX10_is 4 = .ok (.ifCond .ne 24, 3) := by decide +kernel
theorem dX10_is_7 : decode cX10_is 7 = .ok (.aload_n 0, 1) := by decide +kernel
theorem dX10_is_8 : decode cX10_is 8 = .ok (.getfield 136, 3) := by decide +kernel
theorem dX10_is_11 : decode cX10_is 11 = .ok (.iconst 1, 1) := by decide +kernel
theorem dX10_is_12 : decode cX10_is 12 = .ok (.if_icmp .ne 16, 3) := by decide +kernel
theorem dX10_is_15 : decode cX10_is 15 = .ok (.aload_n 0, 1) := by decide +kernel
theorem dX10_is_16 : decode cX10_is 16 = .ok (.getfield 132, 3) := by decide +kernel
theorem dX10_is_19 : decode cX10_is 19 = .ok (.lload_n 1, 1) := by decide +kernel
theorem dX10_is_20 : decode cX10_is 20 = .ok (.lcmp, 1) := by decide +kernel
theorem dX10_is_21 : decode cX10_is 21 = .ok (.ifCond .ne 7, 3) := by decide +kernel
theorem dX10_is_24 : decode cX10_is 24 = .ok (.iconst 1, 1) := by decide +kernel
theorem dX10_is_25 : decode cX10_is 25 = .ok (.goto 4, 3) := by decide +kernel
theorem dX10_is_28 : decode cX10_is 28 = .ok (.iconst 0, 1) := by decide +kernel
theorem dX10_is_29 : decode cX10_is 29 = .ok (.ireturn, 1) := by decide +kernel
theorem dX10_takes_0 : decode cX10_takes 0 = .ok (.aload_n 0, 1) := by decide +kernel
theorem dX10_takes_1 : decode cX10_takes 1 = .ok (.lload_n 1, 1) := by decide +kernel
theorem dX10_takes_2 : decode cX10_takes 2 = .ok (.invokevirtual 153, 3) := by decide +kernel
theorem dX10_takes_5 : decode cX10_takes 5 = .ok (.ifCond .ne 5, 3) := by decide +kernel
theorem dX10_takes_8 : decode cX10_takes 8 = .ok (.iconst 0, 1) := by decide +kernel
theorem dX10_takes_9 : decode cX10_takes 9 = .ok (.ireturn, 1) := by decide +kernel
theorem dX10_takes_10 : decode cX10_takes 10 = .ok (.aload_n 0, 1) := by decide +kernel
theorem dX10_takes_11 : decode cX10_takes 11 = .ok (.invokevirtual 157, 3) := by decide +kernel
theorem dX10_takes_14 : decode cX10_takes 14 = .ok (.iconst 1, 1) := by decide +kernel
theorem dX10_takes_15 : decode cX10_takes 15 = .ok (.ireturn, 1) := by decide +kernel
theorem dX10_asks_0 : decode cX10_asks 0 = .ok (.aload_n 0, 1) := by decide +kernel
theorem dX10_asks_1 : decode cX10_asks 1 = .ok (.lload_n 1, 1) := by decide +kernel
theorem dX10_asks_2 : decode cX10_asks 2 = .ok (.invokevirtual 160, 3) := by decide +kernel
theorem dX10_asks_5 : decode cX10_asks 5 = .ok (.ifCond .ne 8, 3) := by decide +kernel
theorem dX10_asks_8 : decode cX10_asks 8 = .ok (.aload_n 0, 1) := by decide +kernel
theorem dX10_asks_9 : decode cX10_asks 9 = .ok (.iconst 1, 1) := by decide +kernel
theorem dX10_asks_10 : decode cX10_asks 10 = .ok (.invokevirtual 163, 3) := by decide +kernel
theorem dX10_asks_13 : decode cX10_asks 13 = .ok (.return_, 1) := by decide +kernel
theorem dX10_number_0 : decode cX10_number 0 = .ok (.aload_n 0, 1) := by decide +kernel
theorem dX10_number_1 : decode cX10_number 1 = .ok (.getfield 147, 3) := by decide +kernel
theorem dX10_number_4 : decode cX10_number 4 = .ok (.ifCond .eq 5, 3) := by decide +kernel
theorem dX10_number_7 : decode cX10_number 7 = .ok (.iload_n 1, 1) := by decide +kernel
theorem dX10_number_8 : decode cX10_number 8 = .ok (.ireturn, 1) := by decide +kernel
theorem dX10_number_9 : decode cX10_number 9 = .ok (.aload_n 0, 1) := by decide +kernel
theorem dX10_number_10 : decode cX10_number 10 = .ok (.getfield 136, 3) := by decide +kernel
theorem dX10_number_13 : decode cX10_number 13 = .ok (.iconst 2, 1) := by decide +kernel
theorem dX10_number_14 : decode cX10_number 14 = .ok (.if_icmp .eq 10, 3) := by decide +kernel
theorem dX10_number_17 : decode cX10_number 17 = .ok (.aload_n 0, 1) := by decide +kernel
theorem dX10_number_18 : decode cX10_number 18 = .ok (.iconst 1, 1) := by decide +kernel
theorem dX10_number_19 : decode cX10_number 19 = .ok (.invokevirtual 163, 3) := by decide +kernel
theorem dX10_number_22 : decode cX10_number 22 = .ok (.iload_n 1, 1) := by decide +kernel
theorem dX10_number_23 : decode cX10_number 23 = .ok (.ireturn, 1) := by decide +kernel
theorem dX10_number_24 : decode cX10_number 24 = .ok (.aload_n 0, 1) := by decide +kernel
theorem dX10_number_25 : decode cX10_number 25 = .ok (.getfield 129, 3) := by decide +kernel
theorem dX10_number_28 : decode cX10_number 28 = .ok (.i2l, 1) := by decide +kernel
theorem dX10_number_29 : decode cX10_number 29 = .ok (.iload_n 1, 1) := by decide +kernel
theorem dX10_number_30 : decode cX10_number 30 = .ok (.i2l, 1) := by decide +kernel
theorem dX10_number_31 : decode cX10_number 31 = .ok (.iload_n 2, 1) := by decide +kernel
theorem dX10_number_32 : decode cX10_number 32 = .ok (.i2l, 1) := by decide +kernel
theorem dX10_number_33 : decode cX10_number 33 = .ok (.invokestatic 100, 3) := by decide +kernel
theorem dX10_number_36 : decode cX10_number 36 = .ok (.ifCond .ne 10, 3) := by decide +kernel
theorem dX10_number_39 : decode cX10_number 39 = .ok (.aload_n 0, 1) := by decide +kernel
theorem dX10_number_40 : decode cX10_number 40 = .ok (.iconst 2, 1) := by decide +kernel
theorem dX10_number_41 : decode cX10_number 41 = .ok (.invokevirtual 163, 3) := by decide +kernel
theorem dX10_number_44 : decode cX10_number 44 = .ok (.iload_n 1, 1) := by decide +kernel
theorem dX10_number_45 : decode cX10_number 45 = .ok (.ireturn, 1) := by decide +kernel
theorem dX10_number_46 : decode cX10_number 46 = .ok (.aload_n 0, 1) := by decide +kernel
theorem dX10_number_47 : decode cX10_number 47 = .ok (.getfield 129, 3) := by decide +kernel
theorem dX10_number_50 : decode cX10_number 50 = .ok (.istore_n 3, 1) := by decide +kernel
theorem dX10_number_51 : decode cX10_number 51 = .ok (.aload_n 0, 1) := by decide +kernel
theorem dX10_number_52 : decode cX10_number 52 = .ok (.invokevirtual 157, 3) := by decide +kernel
theorem dX10_number_55 : decode cX10_number 55 = .ok (.iload_n 3, 1) := by decide +kernel
theorem dX10_number_56 : decode cX10_number 56 = .ok (.ireturn, 1) := by decide +kernel
theorem dX10_number__0 : decode cX10_number_ 0 = .ok (.aload_n 0, 1) := by decide +kernel
theorem dX10_number__1 : decode cX10_number_ 1 = .ok (.lload_n 1, 1) := by decide +kernel
theorem dX10_number__2 : decode cX10_number_ 2 = .ok (.invokevirtual 166, 3) := by decide +kernel
theorem dX10_number__5 : decode cX10_number_ 5 = .ok (.aload_n 0, 1) := by decide +kernel
theorem dX10_number__6 : decode cX10_number_ 6 = .ok (.iload_n 3, 1) := by decide +kernel
theorem dX10_number__7 : decode cX10_number_ 7 = .ok (.iload 4, 2) := by decide +kernel
theorem dX10_number__9 : decode cX10_number_ 9 = .ok (.invokevirtual 170, 3) := by decide +kernel
theorem dX10_number__12 : decode cX10_number_ 12 = .ok (.ireturn, 1) := by decide +kernel
theorem dX10_ends_0 : decode cX10_ends 0 = .ok (.aload_n 0, 1) := by decide +kernel
theorem dX10_ends_1 : decode cX10_ends 1 = .ok (.getfield 136, 3) := by decide +kernel
theorem dX10_ends_4 : decode cX10_ends 4 = .ok (.iconst 3, 1) := by decide +kernel
theorem dX10_ends_5 : decode cX10_ends 5 = .ok (.if_icmp .eq 8, 3) := by decide +kernel
theorem dX10_ends_8 : decode cX10_ends 8 = .ok (.aload_n 0, 1) := by decide +kernel
theorem dX10_ends_9 : decode cX10_ends 9 = .ok (.iconst 1, 1) := by decide +kernel
theorem dX10_ends_10 : decode cX10_ends 10 = .ok (.invokevirtual 163, 3) := by decide +kernel
theorem dX10_ends_13 : decode cX10_ends 13 = .ok (.aload_n 0, 1) := by decide +kernel
theorem dX10_ends_14 : decode cX10_ends 14 = .ok (.getfield 147, 3) := by decide +kernel
theorem dX10_ends_17 : decode cX10_ends 17 = .ok (.ifCond .ne 7, 3) := by decide +kernel
theorem dX10_ends_20 : decode cX10_ends 20 = .ok (.aload_n 0, 1) := by decide +kernel
theorem dX10_ends_21 : decode cX10_ends 21 = .ok (.invokevirtual 157, 3) := by decide +kernel
theorem dX10_ends_24 : decode cX10_ends 24 = .ok (.return_, 1) := by decide +kernel
theorem dX10_begins_0 : decode cX10_begins 0 = .ok (.aload_n 0, 1) := by decide +kernel
theorem dX10_begins_1 : decode cX10_begins 1 = .ok (.iconst 0, 1) := by decide +kernel
theorem dX10_begins_2 : decode cX10_begins 2 = .ok (.putfield 147, 3) := by decide +kernel
theorem dX10_begins_5 : decode cX10_begins 5 = .ok (.aload_n 0, 1) := by decide +kernel
theorem dX10_begins_6 : decode cX10_begins 6 = .ok (.iconst (-1), 1) := by decide +kernel
theorem dX10_begins_7 : decode cX10_begins 7 = .ok (.putfield 150, 3) := by decide +kernel
theorem dX10_begins_10 : decode cX10_begins 10 = .ok (.aload_n 0, 1) := by decide +kernel
theorem dX10_begins_11 : decode cX10_begins 11 = .ok (.iconst 0, 1) := by decide +kernel
theorem dX10_begins_12 : decode cX10_begins 12 = .ok (.putfield 119, 3) := by decide +kernel
theorem dX10_begins_15 : decode cX10_begins 15 = .ok (.aload_n 0, 1) := by decide +kernel
theorem dX10_begins_16 : decode cX10_begins 16 = .ok (.invokevirtual 157, 3) := by decide +kernel
theorem dX10_begins_19 : decode cX10_begins 19 = .ok (.return_, 1) := by decide +kernel
theorem dX10_isOver_0 : decode cX10_isOver 0 = .ok (.aload_n 0, 1) := by decide +kernel
theorem dX10_isOver_1 : decode cX10_isOver 1 = .ok (.iconst 0, 1) := by decide +kernel
theorem dX10_isOver_2 : decode cX10_isOver 2 = .ok (.putfield 112, 3) := by decide +kernel
theorem dX10_isOver_5 : decode cX10_isOver 5 = .ok (.aload_n 0, 1) := by decide +kernel
theorem dX10_isOver_6 : decode cX10_isOver 6 = .ok (.aload_n 0, 1) := by decide +kernel
theorem dX10_isOver_7 : decode cX10_isOver 7 = .ok (.getfield 147, 3) := by decide +kernel
theorem dX10_isOver_10 : decode cX10_isOver 10 = .ok (.putfield 174, 3) := by decide +kernel
theorem dX10_isOver_13 : decode cX10_isOver 13 = .ok (.aload_n 0, 1) := by decide +kernel
theorem dX10_isOver_14 : decode cX10_isOver 14 = .ok (.aload_n 0, 1) := by decide +kernel
theorem dX10_isOver_15 : decode cX10_isOver 15 = .ok (.getfield 147, 3) := by decide +kernel
theorem dX10_isOver_18 : decode cX10_isOver 18 = .ok (.ifCond .ne 7, 3) := by decide +kernel
theorem dX10_isOver_21 : decode cX10_isOver 21 = .ok (.iconst (-1), 1) := by decide +kernel
theorem dX10_isOver_22 : decode cX10_isOver 22 = .ok (.goto 7, 3) := by decide +kernel
theorem dX10_isOver_25 : decode cX10_isOver 25 = .ok (.aload_n 0, 1) := by decide +kernel
theorem dX10_isOver_26 : decode cX10_isOver 26 = .ok (.getfield 150, 3) := by decide +kernel
theorem dX10_isOver_29 : decode cX10_isOver 29 = .ok (.putfield 27, 3) := by decide +kernel
theorem dX10_isOver_32 : decode cX10_isOver 32 = .ok (.return_, 1) := by decide +kernel
theorem dX10_fault_0 : decode cX10_fault 0 = .ok (.aload_n 0, 1) := by decide +kernel
theorem dX10_fault_1 : decode cX10_fault 1 = .ok (.iconst 0, 1) := by decide +kernel
theorem dX10_fault_2 : decode cX10_fault 2 = .ok (.putfield 95, 3) := by decide +kernel
theorem dX10_fault_5 : decode cX10_fault 5 = .ok (.iload_n 1, 1) := by decide +kernel
theorem dX10_fault_6 : decode cX10_fault 6 = .ok (.ifCond .ne 10, 3) := by decide +kernel
theorem dX10_fault_9 : decode cX10_fault 9 = .ok (.aload_n 0, 1) := by decide +kernel
theorem dX10_fault_10 : decode cX10_fault 10 = .ok (.getfield 174, 3) := by decide +kernel
theorem dX10_fault_13 : decode cX10_fault 13 = .ok (.goto 16, 3) := by decide +kernel
theorem dX10_fault_16 : decode cX10_fault 16 = .ok (.iload_n 1, 1) := by decide +kernel
theorem dX10_fault_17 : decode cX10_fault 17 = .ok (.iconst 1, 1) := by decide +kernel
theorem dX10_fault_18 : decode cX10_fault 18 = .ok (.if_icmp .ne 10, 3) := by decide +kernel
theorem dX10_fault_21 : decode cX10_fault 21 = .ok (.aload_n 0, 1) := by decide +kernel
theorem dX10_fault_22 : decode cX10_fault 22 = .ok (.getfield 27, 3) := by decide +kernel
theorem dX10_fault_25 : decode cX10_fault 25 = .ok (.goto 4, 3) := by decide +kernel
theorem dX10_fault_28 : decode cX10_fault 28 = .ok (.iconst (-1), 1) := by decide +kernel
theorem dX10_fault_29 : decode cX10_fault 29 = .ok (.ireturn, 1) := by decide +kernel
theorem dX10_of_0 : decode cX10_of 0 = .ok (.aload_n 0, 1) := by decide +kernel
theorem dX10_of_1 : decode cX10_of 1 = .ok (.getfield 34, 3) := by decide +kernel
theorem dX10_of_4 : decode cX10_of 4 = .ok (.bipush 8, 2) := by decide +kernel
theorem dX10_of_6 : decode cX10_of 6 = .ok (.iload_n 1, 1) := by decide +kernel
theorem dX10_of_7 : decode cX10_of 7 = .ok (.imul, 1) := by decide +kernel
theorem dX10_of_8 : decode cX10_of 8 = .ok (.iload_n 2, 1) := by decide +kernel
theorem dX10_of_9 : decode cX10_of 9 = .ok (.iadd, 1) := by decide +kernel
theorem dX10_of_10 : decode cX10_of 10 = .ok (.iaload, 1) := by decide +kernel
theorem dX10_of_11 : decode cX10_of 11 = .ok (.ireturn, 1) := by decide +kernel
theorem dX10_numbersOf_0 : decode cX10_numbersOf 0 = .ok (.aload_n 0, 1) := by decide +kernel
theorem dX10_numbersOf_1 : decode cX10_numbersOf 1 = .ok (.iload_n 1, 1) := by decide +kernel
theorem dX10_numbersOf_2 : decode cX10_numbersOf 2 = .ok (.iconst 0, 1) := by decide +kernel
theorem dX10_numbersOf_3 : decode cX10_numbersOf 3 = .ok (.invokevirtual 177, 3) := by decide +kernel
theorem dX10_numbersOf_6 : decode cX10_numbersOf 6 = .ok (.aload_n 0, 1) := by decide +kernel
theorem dX10_numbersOf_7 : decode cX10_numbersOf 7 = .ok (.iload_n 1, 1) := by decide +kernel
theorem dX10_numbersOf_8 : decode cX10_numbersOf 8 = .ok (.iconst 1, 1) := by decide +kernel
theorem dX10_numbersOf_9 : decode cX10_numbersOf 9 = .ok (.invokevirtual 177, 3) := by decide +kernel
theorem dX10_numbersOf_12 : decode cX10_numbersOf 12 = .ok (.imul, 1) := by decide +kernel
theorem dX10_numbersOf_13 : decode cX10_numbersOf 13 = .ok (.aload_n 0, 1) := by decide +kernel
theorem dX10_numbersOf_14 : decode cX10_numbersOf 14 = .ok (.iload_n 1, 1) := by decide +kernel
theorem dX10_numbersOf_15 : decode cX10_numbersOf 15 = .ok (.iconst 2, 1) := by decide +kernel
theorem dX10_numbersOf_16 : decode cX10_numbersOf 16 = .ok (.invokevirtual 177, 3) := by decide +kernel
theorem dX10_numbersOf_19 : decode cX10_numbersOf 19 = .ok (.imul, 1) := by decide +kernel
theorem dX10_numbersOf_20 : decode cX10_numbersOf 20 = .ok (.ireturn, 1) := by decide +kernel
theorem dX10_first_0 : decode cX10_first 0 = .ok (.aload_n 0, 1) := by decide +kernel
theorem dX10_first_1 : decode cX10_first 1 = .ok (.ldc2_w 180, 3) := by decide +kernel
theorem dX10_first_4 : decode cX10_first 4 = .ok (.invokevirtual 166, 3) := by decide +kernel
theorem dX10_first_7 : decode cX10_first 7 = .ok (.aload_n 0, 1) := by decide +kernel
theorem dX10_first_8 : decode cX10_first 8 = .ok (.getfield 34, 3) := by decide +kernel
theorem dX10_first_11 : decode cX10_first 11 = .ok (.bipush 32, 2) := by decide +kernel
theorem dX10_first_13 : decode cX10_first 13 = .ok (.aload_n 0, 1) := by decide +kernel
theorem dX10_first_14 : decode cX10_first 14 = .ok (.ldc2_w 182, 3) := by decide +kernel
theorem dX10_first_17 : decode cX10_first 17 = .ok (.iconst 1, 1) := by decide +kernel
theorem dX10_first_18 : decode cX10_first 18 = .ok (.iconst 3, 1) := by decide +kernel
theorem dX10_first_19 : decode cX10_first 19 = .ok (.invokevirtual 184, 3) := by decide +kernel
theorem dX10_first_22 : decode cX10_first 22 = .ok (.iastore, 1) := by decide +kernel
theorem dX10_first_23 : decode cX10_first 23 = .ok (.aload_n 0, 1) := by decide +kernel
theorem dX10_first_24 : decode cX10_first 24 = .ok (.getfield 34, 3) := by decide +kernel
theorem dX10_first_27 : decode cX10_first 27 = .ok (.bipush 33, 2) := by decide +kernel
theorem dX10_first_29 : decode cX10_first 29 = .ok (.aload_n 0, 1) := by decide +kernel
theorem dX10_first_30 : decode cX10_first 30 = .ok (.ldc2_w 187, 3) := by decide +kernel
theorem dX10_first_33 : decode cX10_first 33 = .ok (.iconst 1, 1) := by decide +kernel
theorem dX10_first_34 : decode cX10_first 34 = .ok (.iconst 3, 1) := by decide +kernel
theorem dX10_first_35 : decode cX10_first 35 = .ok (.invokevirtual 184, 3) := by decide +kernel
theorem dX10_first_38 : decode cX10_first 38 = .ok (.iastore, 1) := by decide +kernel
theorem dX10_first_39 : decode cX10_first 39 = .ok (.aload_n 0, 1) := by decide +kernel
theorem dX10_first_40 : decode cX10_first 40 = .ok (.getfield 34, 3) := by decide +kernel
theorem dX10_first_43 : decode cX10_first 43 = .ok (.bipush 34, 2) := by decide +kernel
theorem dX10_first_45 : decode cX10_first 45 = .ok (.aload_n 0, 1) := by decide +kernel
theorem dX10_first_46 : decode cX10_first 46 = .ok (.ldc2_w 189, 3) := by decide +kernel
theorem dX10_first_49 : decode cX10_first 49 = .ok (.iconst 1, 1) := by decide +kernel
theorem dX10_first_50 : decode cX10_first 50 = .ok (.iconst 5, 1) := by decide +kernel
theorem dX10_first_51 : decode cX10_first 51 = .ok (.invokevirtual 184, 3) := by decide +kernel
theorem dX10_first_54 : decode cX10_first 54 = .ok (.iastore, 1) := by decide +kernel
theorem dX10_first_55 : decode cX10_first 55 = .ok (.aload_n 0, 1) := by decide +kernel
theorem dX10_first_56 : decode cX10_first 56 = .ok (.ldc2_w 191, 3) := by decide +kernel
theorem dX10_first_59 : decode cX10_first 59 = .ok (.invokevirtual 166, 3) := by decide +kernel
theorem dX10_first_62 : decode cX10_first 62 = .ok (.iconst 1, 1) := by decide +kernel
theorem dX10_first_63 : decode cX10_first 63 = .ok (.istore_n 1, 1) := by decide +kernel
theorem dX10_first_64 : decode cX10_first 64 = .ok (.aload_n 0, 1) := by decide +kernel
theorem dX10_first_65 : decode cX10_first 65 = .ok (.invokevirtual 193, 3) := by decide +kernel
theorem dX10_first_68 : decode cX10_first 68 = .ok (.ifCond .eq 96, 3) := by decide +kernel
theorem dX10_first_71 : decode cX10_first 71 = .ok (.iload_n 1, 1) := by decide +kernel
theorem dX10_first_72 : decode cX10_first 72 = .ok (.ifCond .eq 92, 3) := by decide +kernel
theorem dX10_first_75 : decode cX10_first 75 = .ok (.aload_n 0, 1) := by decide +kernel
theorem dX10_first_76 : decode cX10_first 76 = .ok (.iconst 4, 1) := by decide +kernel
theorem dX10_first_77 : decode cX10_first 77 = .ok (.iconst 3, 1) := by decide +kernel
theorem dX10_first_78 : decode cX10_first 78 = .ok (.invokevirtual 177, 3) := by decide +kernel
theorem dX10_first_81 : decode cX10_first 81 = .ok (.iconst 5, 1) := by decide +kernel
theorem dX10_first_82 : decode cX10_first 82 = .ok (.if_icmp .ne 23, 3) := by decide +kernel
theorem dX10_first_85 : decode cX10_first 85 = .ok (.aload_n 0, 1) := by decide +kernel
theorem dX10_first_86 : decode cX10_first 86 = .ok (.getfield 129, 3) := by decide +kernel
theorem dX10_first_89 : decode cX10_first 89 = .ok (.i2l, 1) := by decide +kernel
theorem dX10_first_90 : decode cX10_first 90 = .ok (.lconst 1, 1) := by decide +kernel
theorem dX10_first_91 : decode cX10_first 91 = .ok (.ldc2_w 197, 3) := by decide +kernel
theorem dX10_first_94 : decode cX10_first 94 = .ok (.invokestatic 100, 3) := by decide +kernel
theorem dX10_first_97 : decode cX10_first 97 = .ok (.ifCond .eq 8, 3) := by decide +kernel
theorem dX10_first_100 : decode cX10_first 100 = .ok (.aload_n 0, 1) := by decide +kernel
theorem dX10_first_101 : decode cX10_first 101 = .ok (.iconst 3, 1) := by decide +kernel
theorem dX10_first_102 : decode cX10_first 102 = .ok (.invokevirtual 163, 3) := by decide +kernel
theorem dX10_first_105 : decode cX10_first 105 = .ok (.aload_n 0, 1) := by decide +kernel
theorem dX10_first_106 : decode cX10_first 106 = .ok (.iconst 1, 1) := by decide +kernel
theorem dX10_first_107 : decode cX10_first 107 = .ok (.bipush 15, 2) := by decide +kernel
theorem dX10_first_109 : decode cX10_first 109 = .ok (.invokevirtual 170, 3) := by decide +kernel
theorem dX10_first_112 : decode cX10_first 112 = .ok (.istore_n 2, 1) := by decide +kernel
theorem dX10_first_113 : decode cX10_first 113 = .ok (.aload_n 0, 1) := by decide +kernel
theorem dX10_first_114 : decode cX10_first 114 = .ok (.getfield 147, 3) := by decide +kernel
theorem dX10_first_117 : decode cX10_first 117 = .ok (.ifCond .eq 4, 3) := by decide +kernel
theorem dX10_first_120 : decode cX10_first 120 = .ok (.return_, 1) := by decide +kernel
theorem dX10_first_121 : decode cX10_first 121 = .ok (.aload_n 0, 1) := by decide +kernel
theorem dX10_first_122 : decode cX10_first 122 = .ok (.getfield 37, 3) := by decide +kernel
theorem dX10_first_125 : decode cX10_first 125 = .ok (.bipush 20, 2) := by decide +kernel
theorem dX10_first_127 : decode cX10_first 127 = .ok (.aload_n 0, 1) := by decide +kernel
theorem dX10_first_128 : decode cX10_first 128 = .ok (.iconst 4, 1) := by decide +kernel
theorem dX10_first_129 : decode cX10_first 129 = .ok (.iconst 3, 1) := by decide +kernel
theorem dX10_first_130 : decode cX10_first 130 = .ok (.invokevirtual 177, 3) := by decide +kernel
theorem dX10_first_133 : decode cX10_first 133 = .ok (.iadd, 1) := by decide +kernel
theorem dX10_first_134 : decode cX10_first 134 = .ok (.iload_n 2, 1) := by decide +kernel
theorem dX10_first_135 : decode cX10_first 135 = .ok (.iastore, 1) := by decide +kernel
theorem dX10_first_136 : decode cX10_first 136 = .ok (.aload_n 0, 1) := by decide +kernel
theorem dX10_first_137 : decode cX10_first 137 = .ok (.getfield 34, 3) := by decide +kernel
theorem dX10_first_140 : decode cX10_first 140 = .ok (.bipush 35, 2) := by decide +kernel
theorem dX10_first_142 : decode cX10_first 142 = .ok (.dup2, 1) := by decide +kernel
theorem dX10_first_143 : decode cX10_first 143 = .ok (.iaload, 1) := by decide +kernel
theorem dX10_first_144 : decode cX10_first 144 = .ok (.iconst 1, 1) := by decide +kernel
theorem dX10_first_145 : decode cX10_first 145 = .ok (.iadd, 1) := by decide +kernel
theorem dX10_first_146 : decode cX10_first 146 = .ok (.iastore, 1) := by decide +kernel
theorem dX10_first_147 : decode cX10_first 147 = .ok (.aload_n 0, 1) := by decide +kernel
theorem dX10_first_148 : decode cX10_first 148 = .ok (.getfield 136, 3) := by decide +kernel
theorem dX10_first_151 : decode cX10_first 151 = .ok (.iconst 2, 1) := by decide +kernel
theorem dX10_first_152 : decode cX10_first 152 = .ok (.if_icmp .ne 7, 3) := by decide +kernel
theorem dX10_first_155 : decode cX10_first 155 = .ok (.iconst 1, 1) := by decide +kernel
theorem dX10_first_156 : decode cX10_first 156 = .ok (.goto 4, 3) := by decide +kernel
theorem dX10_first_159 : decode cX10_first 159 = .ok (.iconst 0, 1) := by decide +kernel
theorem dX10_first_160 : decode cX10_first 160 = .ok (.istore_n 1, 1) := by decide +kernel
theorem dX10_first_161 : decode cX10_first 161 = .ok (.goto (-97), 3) := by decide +kernel
theorem dX10_first_164 : decode cX10_first 164 = .ok (.aload_n 0, 1) := by decide +kernel
theorem dX10_first_165 : decode cX10_first 165 = .ok (.invokevirtual 193, 3) := by decide +kernel
theorem dX10_first_168 : decode cX10_first 168 = .ok (.ifCond .eq 23, 3) := by decide +kernel
theorem dX10_first_171 : decode cX10_first 171 = .ok (.aload_n 0, 1) := by decide +kernel
theorem dX10_first_172 : decode cX10_first 172 = .ok (.getfield 136, 3) := by decide +kernel
theorem dX10_first_175 : decode cX10_first 175 = .ok (.iconst 3, 1) := by decide +kernel
theorem dX10_first_176 : decode cX10_first 176 = .ok (.if_icmp .ne 15, 3) := by decide +kernel
theorem dX10_first_179 : decode cX10_first 179 = .ok (.aload_n 0, 1) := by decide +kernel
theorem dX10_first_180 : decode cX10_first 180 = .ok (.invokevirtual 199, 3) := by decide +kernel
theorem dX10_first_183 : decode cX10_first 183 = .ok (.ifCond .ne 8, 3) := by decide +kernel
theorem dX10_first_186 : decode cX10_first 186 = .ok (.aload_n 0, 1) := by decide +kernel
theorem dX10_first_187 : decode cX10_first 187 = .ok (.iconst 2, 1) := by decide +kernel
theorem dX10_first_188 : decode cX10_first 188 = .ok (.invokevirtual 163, 3) := by decide +kernel
theorem dX10_first_191 : decode cX10_first 191 = .ok (.return_, 1) := by decide +kernel
theorem dX10_isAsSaid_0 : decode cX10_isAsSaid 0 = .ok (.iconst 0, 1) := by decide +kernel
theorem dX10_isAsSaid_1 : decode cX10_isAsSaid 1 = .ok (.istore_n 1, 1) := by decide +kernel
theorem dX10_isAsSaid_2 : decode cX10_isAsSaid 2 = .ok (.iconst 0, 1) := by decide +kernel
theorem dX10_isAsSaid_3 : decode cX10_isAsSaid 3 = .ok (.istore_n 2, 1) := by decide +kernel
theorem dX10_isAsSaid_4 : decode cX10_isAsSaid 4 = .ok (.iload_n 2, 1) := by decide +kernel
theorem dX10_isAsSaid_5 : decode cX10_isAsSaid 5 = .ok (.aload_n 0, 1) := by decide +kernel
theorem dX10_isAsSaid_6 : decode cX10_isAsSaid 6 = .ok (.iconst 4, 1) := by decide +kernel
theorem dX10_isAsSaid_7 : decode cX10_isAsSaid 7 = .ok (.iconst 3, 1) := by decide +kernel
theorem dX10_isAsSaid_8 : decode cX10_isAsSaid 8 = .ok (.invokevirtual 177, 3) := by decide +kernel
theorem dX10_isAsSaid_11 : decode cX10_isAsSaid 11 = .ok (.if_icmp .ge 21, 3) := by decide +kernel
theorem dX10_isAsSaid_14 : decode cX10_isAsSaid 14 = .ok (.iload_n 1, 1) := by decide +kernel
theorem dX10_isAsSaid_15 : decode cX10_isAsSaid 15 = .ok (.aload_n 0, 1) := by decide +kernel
theorem dX10_isAsSaid_16 : decode cX10_isAsSaid 16 = .ok (.getfield 37, 3) := by decide +kernel
theorem dX10_isAsSaid_19 : decode cX10_isAsSaid 19 = .ok (.bipush 20, 2) := by decide +kernel
theorem dX10_isAsSaid_21 : decode cX10_isAsSaid 21 = .ok (.iload_n 2, 1) := by decide +kernel
theorem dX10_isAsSaid_22 : decode cX10_isAsSaid 22 = .ok (.iadd, 1) := by decide +kernel
theorem dX10_isAsSaid_23 : decode cX10_isAsSaid 23 = .ok (.iaload, 1) := by decide +kernel
theorem dX10_isAsSaid_24 : decode cX10_isAsSaid 24 = .ok (.iadd, 1) := by decide +kernel
theorem dX10_isAsSaid_25 : decode cX10_isAsSaid 25 = .ok (.istore_n 1, 1) := by decide +kernel
theorem dX10_isAsSaid_26 : decode cX10_isAsSaid 26 = .ok (.iinc 2 1, 3) := by decide +kernel
theorem dX10_isAsSaid_29 : decode cX10_isAsSaid 29 = .ok (.goto (-25), 3) := by decide +kernel
theorem dX10_isAsSaid_32 : decode cX10_isAsSaid 32 = .ok (.aload_n 0, 1) := by decide +kernel
theorem dX10_isAsSaid_33 : decode cX10_isAsSaid 33 = .ok (.iconst 4, 1) := by decide +kernel
theorem dX10_isAsSaid_34 : decode cX10_isAsSaid 34 = .ok (.iconst 3, 1) := by decide +kernel
theorem dX10_isAsSaid_35 : decode cX10_isAsSaid 35 = .ok (.invokevirtual 177, 3) := by decide +kernel
theorem dX10_isAsSaid_38 : decode cX10_isAsSaid 38 = .ok (.iconst 2, 1) := by decide +kernel
theorem dX10_isAsSaid_39 : decode cX10_isAsSaid 39 = .ok (.if_icmp .lt 27, 3) := by decide +kernel
theorem dX10_isAsSaid_42 : decode cX10_isAsSaid 42 = .ok (.aload_n 0, 1) := by decide +kernel
theorem dX10_isAsSaid_43 : decode cX10_isAsSaid 43 = .ok (.iconst 4, 1) := by decide +kernel
theorem dX10_isAsSaid_44 : decode cX10_isAsSaid 44 = .ok (.iconst 3, 1) := by decide +kernel
theorem dX10_isAsSaid_45 : decode cX10_isAsSaid 45 = .ok (.invokevirtual 177, 3) := by decide +kernel
theorem dX10_isAsSaid_48 : decode cX10_isAsSaid 48 = .ok (.aload_n 0, 1) := by decide +kernel
theorem dX10_isAsSaid_49 : decode cX10_isAsSaid 49 = .ok (.iconst 4, 1) := by decide +kernel
theorem dX10_isAsSaid_50 : decode cX10_isAsSaid 50 = .ok (.iconst 2, 1) := by decide +kernel
theorem dX10_isAsSaid_51 : decode cX10_isAsSaid 51 = .ok (.invokevirtual 177, 3) := by decide +kernel
theorem dX10_isAsSaid_54 : decode cX10_isAsSaid 54 = .ok (.if_icmp .lt 12, 3) := by decide +kernel
theorem dX10_isAsSaid_57 : decode cX10_isAsSaid 57 = .ok (.iload_n 1, 1) := by decide +kernel
theorem dX10_isAsSaid_58 : decode cX10_isAsSaid 58 = .ok (.aload_n 0, 1) := by decide +kernel
theorem dX10_isAsSaid_59 : decode cX10_isAsSaid 59 = .ok (.iconst 4, 1) := by decide +kernel
theorem dX10_isAsSaid_60 : decode cX10_isAsSaid 60 = .ok (.invokevirtual 202, 3) := by decide +kernel
theorem dX10_isAsSaid_63 : decode cX10_isAsSaid 63 = .ok (.if_icmp .eq 5, 3) := by decide +kernel
theorem dX10_isAsSaid_66 : decode cX10_isAsSaid 66 = .ok (.iconst 0, 1) := by decide +kernel
theorem dX10_isAsSaid_67 : decode cX10_isAsSaid 67 = .ok (.ireturn, 1) := by decide +kernel
theorem dX10_isAsSaid_68 : decode cX10_isAsSaid 68 = .ok (.aload_n 0, 1) := by decide +kernel
theorem dX10_isAsSaid_69 : decode cX10_isAsSaid 69 = .ok (.iconst 4, 1) := by decide +kernel
theorem dX10_isAsSaid_70 : decode cX10_isAsSaid 70 = .ok (.iconst (-1), 1) := by decide +kernel
theorem dX10_isAsSaid_71 : decode cX10_isAsSaid 71 = .ok (.invokevirtual 206, 3) := by decide +kernel
theorem dX10_isAsSaid_74 : decode cX10_isAsSaid 74 = .ok (.aload_n 0, 1) := by decide +kernel
theorem dX10_isAsSaid_75 : decode cX10_isAsSaid 75 = .ok (.getfield 210, 3) := by decide +kernel
theorem dX10_isAsSaid_78 : decode cX10_isAsSaid 78 = .ok (.ifCond .le 7, 3) := by decide +kernel
theorem dX10_isAsSaid_81 : decode cX10_isAsSaid 81 = .ok (.iconst 1, 1) := by decide +kernel
theorem dX10_isAsSaid_82 : decode cX10_isAsSaid 82 = .ok (.goto 4, 3) := by decide +kernel
theorem dX10_isAsSaid_85 : decode cX10_isAsSaid 85 = .ok (.iconst 0, 1) := by decide +kernel
theorem dX10_isAsSaid_86 : decode cX10_isAsSaid 86 = .ok (.ireturn, 1) := by decide +kernel
theorem dX10_line_0 : decode cX10_line 0 = .ok (.aload_n 0, 1) := by decide +kernel
theorem dX10_line_1 : decode cX10_line 1 = .ok (.ldc2_w 213, 3) := by decide +kernel
theorem dX10_line_4 : decode cX10_line 4 = .ok (.invokevirtual 153, 3) := by decide +kernel
theorem dX10_line_7 : decode cX10_line 7 = .ok (.istore_n 1, 1) := by decide +kernel
theorem dX10_line_8 : decode cX10_line 8 = .ok (.iload_n 1, 1) := by decide +kernel
theorem dX10_line_9 : decode cX10_line 9 = .ok (.ifCond .eq 19, 3) := by decide +kernel
theorem dX10_line_12 : decode cX10_line 12 = .ok (.aload_n 0, 1) := by decide +kernel
theorem dX10_line_13 : decode cX10_line 13 = .ok (.iconst 4, 1) := by decide +kernel
theorem dX10_line_14 : decode cX10_line 14 = .ok (.iconst 4, 1) := by decide +kernel
theorem dX10_line_15 : decode cX10_line 15 = .ok (.invokevirtual 177, 3) := by decide +kernel
theorem dX10_line_18 : decode cX10_line 18 = .ok (.bipush 8, 2) := by decide +kernel
theorem dX10_line_20 : decode cX10_line 20 = .ok (.if_icmp .ne 8, 3) := by decide +kernel
theorem dX10_line_23 : decode cX10_line 23 = .ok (.aload_n 0, 1) := by decide +kernel
theorem dX10_line_24 : decode cX10_line 24 = .ok (.iconst 3, 1) := by decide +kernel
theorem dX10_line_25 : decode cX10_line 25 = .ok (.invokevirtual 163, 3) := by decide +kernel
theorem dX10_line_28 : decode cX10_line 28 = .ok (.aload_n 0, 1) := by decide +kernel
theorem dX10_line_29 : decode cX10_line 29 = .ok (.getfield 147, 3) := by decide +kernel
theorem dX10_line_32 : decode cX10_line 32 = .ok (.ifCond .eq 4, 3) := by decide +kernel
theorem dX10_line_35 : decode cX10_line 35 = .ok (.return_, 1) := by decide +kernel
theorem dX10_line_36 : decode cX10_line 36 = .ok (.iload_n 1, 1) := by decide +kernel
theorem dX10_line_37 : decode cX10_line 37 = .ok (.ifCond .eq 88, 3) := by decide +kernel
theorem dX10_line_40 : decode cX10_line 40 = .ok (.aload_n 0, 1) := by decide +kernel
theorem dX10_line_41 : decode cX10_line 41 = .ok (.invokevirtual 157, 3) := by decide +kernel
theorem dX10_line_44 : decode cX10_line 44 = .ok (.aload_n 0, 1) := by decide +kernel
theorem dX10_line_45 : decode cX10_line 45 = .ok (.getfield 136, 3) := by decide +kernel
theorem dX10_line_48 : decode cX10_line 48 = .ok (.iconst 2, 1) := by decide +kernel
theorem dX10_line_49 : decode cX10_line 49 = .ok (.if_icmp .ne 30, 3) := by decide +kernel
theorem dX10_line_52 : decode cX10_line 52 = .ok (.aload_n 0, 1) := by decide +kernel
theorem dX10_line_53 : decode cX10_line 53 = .ok (.getfield 129, 3) := by decide +kernel
theorem dX10_line_56 : decode cX10_line 56 = .ok (.sipush 9999, 3) := by decide +kernel
theorem dX10_line_59 : decode cX10_line 59 = .ok (.if_icmp .gt 20, 3) := by decide +kernel
theorem dX10_line_62 : decode cX10_line 62 = .ok (.aload_n 0, 1) := by decide +kernel
theorem dX10_line_63 : decode cX10_line 63 = .ok (.iconst 4, 1) := by decide +kernel
theorem dX10_line_64 : decode cX10_line 64 = .ok (.aload_n 0, 1) := by decide +kernel
theorem dX10_line_65 : decode cX10_line 65 = .ok (.getfield 129, 3) := by decide +kernel
theorem dX10_line_68 : decode cX10_line 68 = .ok (.invokevirtual 215, 3) := by decide +kernel
theorem dX10_line_71 : decode cX10_line 71 = .ok (.ifCond .eq 8, 3) := by decide +kernel
theorem dX10_line_74 : decode cX10_line 74 = .ok (.aload_n 0, 1) := by decide +kernel
theorem dX10_line_75 : decode cX10_line 75 = .ok (.iconst 2, 1) := by decide +kernel
theorem dX10_line_76 : decode cX10_line 76 = .ok (.invokevirtual 163, 3) := by decide +kernel
theorem dX10_line_79 : decode cX10_line 79 = .ok (.aload_n 0, 1) := by decide +kernel
theorem dX10_line_80 : decode cX10_line 80 = .ok (.iconst 0, 1) := by decide +kernel
theorem dX10_line_81 : decode cX10_line 81 = .ok (.sipush 9999, 3) := by decide +kernel
theorem dX10_line_84 : decode cX10_line 84 = .ok (.invokevirtual 170, 3) := by decide +kernel
theorem dX10_line_87 : decode cX10_line 87 = .ok (.istore_n 2, 1) := by decide +kernel
theorem dX10_line_88 : decode cX10_line 88 = .ok (.aload_n 0, 1) := by decide +kernel
theorem dX10_line_89 : decode cX10_line 89 = .ok (.getfield 147, 3) := by decide +kernel
theorem dX10_line_92 : decode cX10_line 92 = .ok (.ifCond .eq 4, 3) := by decide +kernel
theorem dX10_line_95 : decode cX10_line 95 = .ok (.return_, 1) := by decide +kernel
theorem dX10_line_96 : decode cX10_line 96 = .ok (.aload_n 0, 1) := by decide +kernel
theorem dX10_line_97 : decode cX10_line 97 = .ok (.getfield 43, 3) := by decide +kernel
theorem dX10_line_100 : decode cX10_line 100 = .ok (.bipush 32, 2) := by decide +kernel
theorem dX10_line_102 : decode cX10_line 102 = .ok (.aload_n 0, 1) := by decide +kernel
theorem dX10_line_103 : decode cX10_line 103 = .ok (.iconst 4, 1) := by decide +kernel
theorem dX10_line_104 : decode cX10_line 104 = .ok (.iconst 4, 1) := by decide +kernel
theorem dX10_line_105 : decode cX10_line 105 = .ok (.invokevirtual 177, 3) := by decide +kernel
theorem dX10_line_108 : decode cX10_line 108 = .ok (.iadd, 1) := by decide +kernel
theorem dX10_line_109 : decode cX10_line 109 = .ok (.iload_n 2, 1) := by decide +kernel
theorem dX10_line_110 : decode cX10_line 110 = .ok (.iastore, 1) := by decide +kernel
theorem dX10_line_111 : decode cX10_line 111 = .ok (.aload_n 0, 1) := by decide +kernel
theorem dX10_line_112 : decode cX10_line 112 = .ok (.getfield 34, 3) := by decide +kernel
theorem dX10_line_115 : decode cX10_line 115 = .ok (.bipush 36, 2) := by decide +kernel
theorem dX10_line_117 : decode cX10_line 117 = .ok (.dup2, 1) := by decide +kernel
theorem dX10_line_118 : decode cX10_line 118 = .ok (.iaload, 1) := by decide +kernel
theorem dX10_line_119 : decode cX10_line 119 = .ok (.iconst 1, 1) := by decide +kernel
theorem dX10_line_120 : decode cX10_line 120 = .ok (.iadd, 1) := by decide +kernel
theorem dX10_line_121 : decode cX10_line 121 = .ok (.iastore, 1) := by decide +kernel
theorem dX10_line_122 : decode cX10_line 122 = .ok (.goto 172, 3) := by decide +kernel
theorem dX10_line_125 : decode cX10_line 125 = .ok (.aload_n 0, 1) := by decide +kernel
theorem dX10_line_126 : decode cX10_line 126 = .ok (.ldc2_w 219, 3) := by decide +kernel
theorem dX10_line_129 : decode cX10_line 129 = .ok (.invokevirtual 160, 3) := by decide +kernel
theorem dX10_line_132 : decode cX10_line 132 = .ok (.ifCond .eq 89, 3) := by decide +kernel
theorem dX10_line_135 : decode cX10_line 135 = .ok (.aload_n 0, 1) := by decide +kernel
theorem dX10_line_136 : decode cX10_line 136 = .ok (.ldc2_w 221, 3) := by decide +kernel
theorem dX10_line_139 : decode cX10_line 139 = .ok (.invokevirtual 153, 3) := by decide +kernel
theorem dX10_line_142 : decode cX10_line 142 = .ok (.ifCond .eq 7, 3) := by decide +kernel
theorem dX10_line_145 : decode cX10_line 145 = .ok (.iconst 0, 1) := by decide +kernel
theorem dX10_line_146 : decode cX10_line 146 = .ok (.goto 32, 3) := by decide +kernel
theorem dX10_line_149 : decode cX10_line 149 = .ok (.aload_n 0, 1) := by decide +kernel
theorem dX10_line_150 : decode cX10_line 150 = .ok (.ldc2_w 223, 3) := by decide +kernel
theorem dX10_line_153 : decode cX10_line 153 = .ok (.invokevirtual 153, 3) := by decide +kernel
theorem dX10_line_156 : decode cX10_line 156 = .ok (.ifCond .eq 7, 3) := by decide +kernel
theorem dX10_line_159 : decode cX10_line 159 = .ok (.iconst 1, 1) := by decide +kernel
theorem dX10_line_160 : decode cX10_line 160 = .ok (.goto 18, 3) := by decide +kernel
theorem dX10_line_163 : decode cX10_line 163 = .ok (.aload_n 0, 1) := by decide +kernel
theorem dX10_line_164 : decode cX10_line 164 = .ok (.ldc2_w 225, 3) := by decide +kernel
theorem dX10_line_167 : decode cX10_line 167 = .ok (.invokevirtual 153, 3) := by decide +kernel
theorem dX10_line_170 : decode cX10_line 170 = .ok (.ifCond .eq 7, 3) := by decide +kernel
theorem dX10_line_173 : decode cX10_line 173 = .ok (.iconst 2, 1) := by decide +kernel
theorem dX10_line_174 : decode cX10_line 174 = .ok (.goto 4, 3) := by decide +kernel
theorem dX10_line_177 : decode cX10_line 177 = .ok (.iconst (-1), 1) := by decide +kernel
theorem dX10_line_178 : decode cX10_line 178 = .ok (.istore_n 2, 1) := by decide +kernel
theorem dX10_line_179 : decode cX10_line 179 = .ok (.iload_n 2, 1) := by decide +kernel
theorem dX10_line_180 : decode cX10_line 180 = .ok (.iconst (-1), 1) := by decide +kernel
theorem dX10_line_181 : decode cX10_line 181 = .ok (.if_icmp .ne 8, 3) := by decide +kernel
theorem dX10_line_184 : decode cX10_line 184 = .ok (.aload_n 0, 1) := by decide +kernel
theorem dX10_line_185 : decode cX10_line 185 = .ok (.iconst 1, 1) := by decide +kernel
theorem dX10_line_186 : decode cX10_line 186 = .ok (.invokevirtual 163, 3) := by decide +kernel
theorem dX10_line_189 : decode cX10_line 189 = .ok (.aload_n 0, 1) := by decide +kernel
theorem dX10_line_190 : decode cX10_line 190 = .ok (.getfield 147, 3) := by decide +kernel
theorem dX10_line_193 : decode cX10_line 193 = .ok (.ifCond .eq 4, 3) := by decide +kernel
theorem dX10_line_196 : decode cX10_line 196 = .ok (.return_, 1) := by decide +kernel
theorem dX10_line_197 : decode cX10_line 197 = .ok (.aload_n 0, 1) := by decide +kernel
theorem dX10_line_198 : decode cX10_line 198 = .ok (.invokevirtual 157, 3) := by decide +kernel
theorem dX10_line_201 : decode cX10_line 201 = .ok (.aload_n 0, 1) := by decide +kernel
theorem dX10_line_202 : decode cX10_line 202 = .ok (.getfield 40, 3) := by decide +kernel
theorem dX10_line_205 : decode cX10_line 205 = .ok (.bipush 12, 2) := by decide +kernel
theorem dX10_line_207 : decode cX10_line 207 = .ok (.iload_n 2, 1) := by decide +kernel
theorem dX10_line_208 : decode cX10_line 208 = .ok (.iadd, 1) := by decide +kernel
theorem dX10_line_209 : decode cX10_line 209 = .ok (.aload_n 0, 1) := by decide +kernel
theorem dX10_line_210 : decode cX10_line 210 = .ok (.iconst 0, 1) := by decide +kernel
theorem dX10_line_211 : decode cX10_line 211 = .ok (.sipush 9999, 3) := by decide +kernel
theorem dX10_line_214 : decode cX10_line 214 = .ok (.invokevirtual 170, 3) := by decide +kernel
theorem dX10_line_217 : decode cX10_line 217 = .ok (.iastore, 1) := by decide +kernel
theorem dX10_line_218 : decode cX10_line 218 = .ok (.goto 76, 3) := by decide +kernel
theorem dX10_line_221 : decode cX10_line 221 = .ok (.aload_n 0, 1) := by decide +kernel
theorem dX10_line_222 : decode cX10_line 222 = .ok (.ldc2_w 227, 3) := by decide +kernel
theorem dX10_line_225 : decode cX10_line 225 = .ok (.invokevirtual 160, 3) := by decide +kernel
theorem dX10_line_228 : decode cX10_line 228 = .ok (.ifCond .eq 45, 3) := by decide +kernel
theorem dX10_line_231 : decode cX10_line 231 = .ok (.aload_n 0, 1) := by decide +kernel
theorem dX10_line_232 : decode cX10_line 232 = .ok (.iconst 0, 1) := by decide +kernel
theorem dX10_line_233 : decode cX10_line 233 = .ok (.sipush 9999, 3) := by decide +kernel
theorem dX10_line_236 : decode cX10_line 236 = .ok (.invokevirtual 170, 3) := by decide +kernel
theorem dX10_line_239 : decode cX10_line 239 = .ok (.istore_n 2, 1) := by decide +kernel
theorem dX10_line_240 : decode cX10_line 240 = .ok (.aload_n 0, 1) := by decide +kernel
theorem dX10_line_241 : decode cX10_line 241 = .ok (.ldc2_w 229, 3) := by decide +kernel
theorem dX10_line_244 : decode cX10_line 244 = .ok (.iconst 1, 1) := by decide +kernel
theorem dX10_line_245 : decode cX10_line 245 = .ok (.aload_n 0, 1) := by decide +kernel
theorem dX10_line_246 : decode cX10_line 246 = .ok (.iconst 4, 1) := by decide +kernel
theorem dX10_line_247 : decode cX10_line 247 = .ok (.invokevirtual 202, 3) := by decide +kernel
theorem dX10_line_250 : decode cX10_line 250 = .ok (.invokevirtual 184, 3) := by decide +kernel
theorem dX10_line_253 : decode cX10_line 253 = .ok (.istore_n 3, 1) := by decide +kernel
theorem dX10_line_254 : decode cX10_line 254 = .ok (.aload_n 0, 1) := by decide +kernel
theorem dX10_line_255 : decode cX10_line 255 = .ok (.getfield 34, 3) := by decide +kernel
theorem dX10_line_258 : decode cX10_line 258 = .ok (.bipush 37, 2) := by decide +kernel
theorem dX10_line_260 : decode cX10_line 260 = .ok (.iload_n 2, 1) := by decide +kernel
theorem dX10_line_261 : decode cX10_line 261 = .ok (.iastore, 1) := by decide +kernel
theorem dX10_line_262 : decode cX10_line 262 = .ok (.aload_n 0, 1) := by decide +kernel
theorem dX10_line_263 : decode cX10_line 263 = .ok (.getfield 34, 3) := by decide +kernel
theorem dX10_line_266 : decode cX10_line 266 = .ok (.bipush 38, 2) := by decide +kernel
theorem dX10_line_268 : decode cX10_line 268 = .ok (.iload_n 3, 1) := by decide +kernel
theorem dX10_line_269 : decode cX10_line 269 = .ok (.iastore, 1) := by decide +kernel
theorem dX10_line_270 : decode cX10_line 270 = .ok (.goto 24, 3) := by decide +kernel
theorem dX10_line_273 : decode cX10_line 273 = .ok (.aload_n 0, 1) := by decide +kernel
theorem dX10_line_274 : decode cX10_line 274 = .ok (.ldc2_w 231, 3) := by decide +kernel
theorem dX10_line_277 : decode cX10_line 277 = .ok (.invokevirtual 166, 3) := by decide +kernel
theorem dX10_line_280 : decode cX10_line 280 = .ok (.aload_n 0, 1) := by decide +kernel
theorem dX10_line_281 : decode cX10_line 281 = .ok (.getfield 34, 3) := by decide +kernel
theorem dX10_line_284 : decode cX10_line 284 = .ok (.bipush 39, 2) := by decide +kernel
theorem dX10_line_286 : decode cX10_line 286 = .ok (.aload_n 0, 1) := by decide +kernel
theorem dX10_line_287 : decode cX10_line 287 = .ok (.iconst 0, 1) := by decide +kernel
theorem dX10_line_288 : decode cX10_line 288 = .ok (.ldc 233, 2) := by decide +kernel
theorem dX10_line_290 : decode cX10_line 290 = .ok (.invokevirtual 170, 3) := by decide +kernel
theorem dX10_line_293 : decode cX10_line 293 = .ok (.iastore, 1) := by decide +kernel
theorem dX10_line_294 : decode cX10_line 294 = .ok (.return_, 1) := by decide +kernel
theorem dX10_clears_0 : decode cX10_clears 0 = .ok (.aload_n 0, 1) := by decide +kernel
theorem dX10_clears_1 : decode cX10_clears 1 = .ok (.getfield 31, 3) := by decide +kernel
theorem dX10_clears_4 : decode cX10_clears 4 = .ok (.iconst 4, 1) := by decide +kernel
theorem dX10_clears_5 : decode cX10_clears 5 = .ok (.iconst 0, 1) := by decide +kernel
theorem dX10_clears_6 : decode cX10_clears 6 = .ok (.iastore, 1) := by decide +kernel
theorem dX10_clears_7 : decode cX10_clears 7 = .ok (.iconst 0, 1) := by decide +kernel
theorem dX10_clears_8 : decode cX10_clears 8 = .ok (.istore_n 1, 1) := by decide +kernel
theorem dX10_clears_9 : decode cX10_clears 9 = .ok (.iload_n 1, 1) := by decide +kernel
theorem dX10_clears_10 : decode cX10_clears 10 = .ok (.bipush 8, 2) := by decide +kernel
theorem dX10_clears_12 : decode cX10_clears 12 = .ok (.if_icmp .ge 29, 3) := by decide +kernel
theorem dX10_clears_15 : decode cX10_clears 15 = .ok (.aload_n 0, 1) := by decide +kernel
theorem dX10_clears_16 : decode cX10_clears 16 = .ok (.getfield 34, 3) := by decide +kernel
theorem dX10_clears_19 : decode cX10_clears 19 = .ok (.bipush 32, 2) := by decide +kernel
theorem dX10_clears_21 : decode cX10_clears 21 = .ok (.iload_n 1, 1) := by decide +kernel
theorem dX10_clears_22 : decode cX10_clears 22 = .ok (.iadd, 1) := by decide +kernel
theorem dX10_clears_23 : decode cX10_clears 23 = .ok (.iload_n 1, 1) := by decide +kernel
theorem dX10_clears_24 : decode cX10_clears 24 = .ok (.bipush 7, 2) := by decide +kernel
theorem dX10_clears_26 : decode cX10_clears 26 = .ok (.if_icmp .ne 7, 3) := by decide +kernel
theorem dX10_clears_29 : decode cX10_clears 29 = .ok (.iconst 1, 1) := by decide +kernel
theorem dX10_clears_30 : decode cX10_clears 30 = .ok (.goto 4, 3) := by decide +kernel
theorem dX10_clears_33 : decode cX10_clears 33 = .ok (.iconst 0, 1) := by decide +kernel
theorem dX10_clears_34 : decode cX10_clears 34 = .ok (.iastore, 1) := by decide +kernel
theorem dX10_clears_35 : decode cX10_clears 35 = .ok (.iinc 1 1, 3) := by decide +kernel
theorem dX10_clears_38 : decode cX10_clears 38 = .ok (.goto (-29), 3) := by decide +kernel
theorem dX10_clears_41 : decode cX10_clears 41 = .ok (.iconst 0, 1) := by decide +kernel
theorem dX10_clears_42 : decode cX10_clears 42 = .ok (.istore_n 1, 1) := by decide +kernel
theorem dX10_clears_43 : decode cX10_clears 43 = .ok (.iload_n 1, 1) := by decide +kernel
theorem dX10_clears_44 : decode cX10_clears 44 = .ok (.iconst 3, 1) := by decide +kernel
theorem dX10_clears_45 : decode cX10_clears 45 = .ok (.if_icmp .ge 19, 3) := by decide +kernel
theorem dX10_clears_48 : decode cX10_clears 48 = .ok (.aload_n 0, 1) := by decide +kernel
theorem dX10_clears_49 : decode cX10_clears 49 = .ok (.getfield 40, 3) := by decide +kernel
theorem dX10_clears_52 : decode cX10_clears 52 = .ok (.bipush 12, 2) := by decide +kernel
theorem dX10_clears_54 : decode cX10_clears 54 = .ok (.iload_n 1, 1) := by decide +kernel
theorem dX10_clears_55 : decode cX10_clears 55 = .ok (.iadd, 1) := by decide +kernel
theorem dX10_clears_56 : decode cX10_clears 56 = .ok (.iconst 0, 1) := by decide +kernel
theorem dX10_clears_57 : decode cX10_clears 57 = .ok (.iastore, 1) := by decide +kernel
theorem dX10_clears_58 : decode cX10_clears 58 = .ok (.iinc 1 1, 3) := by decide +kernel
theorem dX10_clears_61 : decode cX10_clears 61 = .ok (.goto (-18), 3) := by decide +kernel
theorem dX10_clears_64 : decode cX10_clears 64 = .ok (.return_, 1) := by decide +kernel
theorem dX10_hall_0 : decode cX10_hall 0 = .ok (.aload_n 0, 1) := by decide +kernel
theorem dX10_hall_1 : decode cX10_hall 1 = .ok (.iconst 0, 1) := by decide +kernel
theorem dX10_hall_2 : decode cX10_hall 2 = .ok (.putfield 95, 3) := by decide +kernel
theorem dX10_hall_5 : decode cX10_hall 5 = .ok (.aload_n 0, 1) := by decide +kernel
theorem dX10_hall_6 : decode cX10_hall 6 = .ok (.invokevirtual 234, 3) := by decide +kernel
theorem dX10_hall_9 : decode cX10_hall 9 = .ok (.aload_n 0, 1) := by decide +kernel
theorem dX10_hall_10 : decode cX10_hall 10 = .ok (.invokevirtual 237, 3) := by decide +kernel
theorem dX10_hall_13 : decode cX10_hall 13 = .ok (.aload_n 0, 1) := by decide +kernel
theorem dX10_hall_14 : decode cX10_hall 14 = .ok (.invokevirtual 193, 3) := by decide +kernel
theorem dX10_hall_17 : decode cX10_hall 17 = .ok (.ifCond .eq 54, 3) := by decide +kernel
theorem dX10_hall_20 : decode cX10_hall 20 = .ok (.aload_n 0, 1) := by decide +kernel
theorem dX10_hall_21 : decode cX10_hall 21 = .ok (.getfield 136, 3) := by decide +kernel
theorem dX10_hall_24 : decode cX10_hall 24 = .ok (.ifCond .eq 47, 3) := by decide +kernel
theorem dX10_hall_27 : decode cX10_hall 27 = .ok (.aload_n 0, 1) := by decide +kernel
theorem dX10_hall_28 : decode cX10_hall 28 = .ok (.getfield 31, 3) := by decide +kernel
theorem dX10_hall_31 : decode cX10_hall 31 = .ok (.iconst 4, 1) := by decide +kernel
theorem dX10_hall_32 : decode cX10_hall 32 = .ok (.iaload, 1) := by decide +kernel
theorem dX10_hall_33 : decode cX10_hall 33 = .ok (.ifCond .ne 10, 3) := by decide +kernel
theorem dX10_hall_36 : decode cX10_hall 36 = .ok (.aload_n 0, 1) := by decide +kernel
theorem dX10_hall_37 : decode cX10_hall 37 = .ok (.invokevirtual 240, 3) := by decide +kernel
theorem dX10_hall_40 : decode cX10_hall 40 = .ok (.goto 7, 3) := by decide +kernel
theorem dX10_hall_43 : decode cX10_hall 43 = .ok (.aload_n 0, 1) := by decide +kernel
theorem dX10_hall_44 : decode cX10_hall 44 = .ok (.invokevirtual 243, 3) := by decide +kernel
theorem dX10_hall_47 : decode cX10_hall 47 = .ok (.aload_n 0, 1) := by decide +kernel
theorem dX10_hall_48 : decode cX10_hall 48 = .ok (.invokevirtual 193, 3) := by decide +kernel
theorem dX10_hall_51 : decode cX10_hall 51 = .ok (.ifCond .eq 7, 3) := by decide +kernel
theorem dX10_hall_54 : decode cX10_hall 54 = .ok (.aload_n 0, 1) := by decide +kernel
theorem dX10_hall_55 : decode cX10_hall 55 = .ok (.invokevirtual 246, 3) := by decide +kernel
theorem dX10_hall_58 : decode cX10_hall 58 = .ok (.aload_n 0, 1) := by decide +kernel
theorem dX10_hall_59 : decode cX10_hall 59 = .ok (.getfield 31, 3) := by decide +kernel
theorem dX10_hall_62 : decode cX10_hall 62 = .ok (.iconst 4, 1) := by decide +kernel
theorem dX10_hall_63 : decode cX10_hall 63 = .ok (.dup2, 1) := by decide +kernel
theorem dX10_hall_64 : decode cX10_hall 64 = .ok (.iaload, 1) := by decide +kernel
theorem dX10_hall_65 : decode cX10_hall 65 = .ok (.iconst 1, 1) := by decide +kernel
theorem dX10_hall_66 : decode cX10_hall 66 = .ok (.iadd, 1) := by decide +kernel
theorem dX10_hall_67 : decode cX10_hall 67 = .ok (.iastore, 1) := by decide +kernel
theorem dX10_hall_68 : decode cX10_hall 68 = .ok (.goto (-55), 3) := by decide +kernel
theorem dX10_hall_71 : decode cX10_hall 71 = .ok (.aload_n 0, 1) := by decide +kernel
theorem dX10_hall_72 : decode cX10_hall 72 = .ok (.invokevirtual 249, 3) := by decide +kernel
theorem dX10_hall_75 : decode cX10_hall 75 = .ok (.aload_n 0, 1) := by decide +kernel
theorem dX10_hall_76 : decode cX10_hall 76 = .ok (.getfield 147, 3) := by decide +kernel
theorem dX10_hall_79 : decode cX10_hall 79 = .ok (.ifCond .eq 6, 3) := by decide +kernel
theorem dX10_hall_82 : decode cX10_hall 82 = .ok (.bipush (-4), 2) := by decide +kernel
theorem dX10_hall_84 : decode cX10_hall 84 = .ok (.ireturn, 1) := by decide +kernel
theorem dX10_hall_85 : decode cX10_hall 85 = .ok (.aload_n 0, 1) := by decide +kernel
theorem dX10_hall_86 : decode cX10_hall 86 = .ok (.getfield 31, 3) := by decide +kernel
theorem dX10_hall_89 : decode cX10_hall 89 = .ok (.iconst 4, 1) := by decide +kernel
theorem dX10_hall_90 : decode cX10_hall 90 = .ok (.iaload, 1) := by decide +kernel
theorem dX10_hall_91 : decode cX10_hall 91 = .ok (.ifCond .le 16, 3) := by decide +kernel
theorem dX10_hall_94 : decode cX10_hall 94 = .ok (.aload_n 0, 1) := by decide +kernel
theorem dX10_hall_95 : decode cX10_hall 95 = .ok (.iconst 4, 1) := by decide +kernel
theorem dX10_hall_96 : decode cX10_hall 96 = .ok (.aload_n 0, 1) := by decide +kernel
theorem dX10_hall_97 : decode cX10_hall 97 = .ok (.iconst 4, 1) := by decide +kernel
theorem dX10_hall_98 : decode cX10_hall 98 = .ok (.bipush 7, 2) := by decide +kernel
theorem dX10_hall_100 : decode cX10_hall 100 = .ok (.invokevirtual 177, 3) := by decide +kernel
theorem dX10_hall_103 : decode cX10_hall 103 = .ok (.i2l, 1) := by decide +kernel
theorem dX10_hall_104 : decode cX10_hall 104 = .ok (.invokevirtual 252, 3) := by decide +kernel
theorem dX10_hall_107 : decode cX10_hall 107 = .ok (.aload_n 0, 1) := by decide +kernel
theorem dX10_hall_108 : decode cX10_hall 108 = .ok (.iconst 4, 1) := by decide +kernel
theorem dX10_hall_109 : decode cX10_hall 109 = .ok (.iconst 0, 1) := by decide +kernel
theorem dX10_hall_110 : decode cX10_hall 110 = .ok (.invokevirtual 256, 3) := by decide +kernel
theorem dX10_hall_113 : decode cX10_hall 113 = .ok (.aload_n 0, 1) := by decide +kernel
theorem dX10_hall_114 : decode cX10_hall 114 = .ok (.getfield 31, 3) := by decide +kernel
theorem dX10_hall_117 : decode cX10_hall 117 = .ok (.iconst 0, 1) := by decide +kernel
theorem dX10_hall_118 : decode cX10_hall 118 = .ok (.iaload, 1) := by decide +kernel
theorem dX10_hall_119 : decode cX10_hall 119 = .ok (.ireturn, 1) := by decide +kernel
theorem dX10_copyRow_0 : decode cX10_copyRow 0 = .ok (.iconst 0, 1) := by decide +kernel
theorem dX10_copyRow_1 : decode cX10_copyRow 1 = .ok (.istore 4, 2) := by decide +kernel
theorem dX10_copyRow_3 : decode cX10_copyRow 3 = .ok (.iload 4, 2) := by decide +kernel
theorem dX10_copyRow_5 : decode cX10_copyRow 5 = .ok (.iload_n 1, 1) := by decide +kernel
theorem dX10_copyRow_6 : decode cX10_copyRow 6 = .ok (.if_icmp .ge 25, 3) := by decide +kernel
theorem dX10_copyRow_9 : decode cX10_copyRow 9 = .ok (.aload_n 0, 1) := by decide +kernel
theorem dX10_copyRow_10 : decode cX10_copyRow 10 = .ok (.iload_n 1, 1) := by decide +kernel
theorem dX10_copyRow_11 : decode cX10_copyRow 11 = .ok (.iload_n 3, 1) := by decide +kernel
theorem dX10_copyRow_12 : decode cX10_copyRow 12 = .ok (.imul, 1) := by decide +kernel
theorem dX10_copyRow_13 : decode cX10_copyRow 13 = .ok (.iload 4, 2) := by decide +kernel
theorem dX10_copyRow_15 : decode cX10_copyRow 15 = .ok (.iadd, 1) := by decide +kernel
theorem dX10_copyRow_16 : decode cX10_copyRow 16 = .ok (.aload_n 0, 1) := by decide +kernel
theorem dX10_copyRow_17 : decode cX10_copyRow 17 = .ok (.iload_n 1, 1) := by decide +kernel
theorem dX10_copyRow_18 : decode cX10_copyRow 18 = .ok (.iload_n 2, 1) := by decide +kernel
theorem dX10_copyRow_19 : decode cX10_copyRow 19 = .ok (.imul, 1) := by decide +kernel
theorem dX10_copyRow_20 : decode cX10_copyRow 20 = .ok (.iload 4, 2) := by decide +kernel
theorem dX10_copyRow_22 : decode cX10_copyRow 22 = .ok (.iadd, 1) := by decide +kernel
theorem dX10_copyRow_23 : decode cX10_copyRow 23 = .ok (.iaload, 1) := by decide +kernel
theorem dX10_copyRow_24 : decode cX10_copyRow 24 = .ok (.iastore, 1) := by decide +kernel
theorem dX10_copyRow_25 : decode cX10_copyRow 25 = .ok (.iinc 4 1, 3) := by decide +kernel
theorem dX10_copyRow_28 : decode cX10_copyRow 28 = .ok (.goto (-25), 3) := by decide +kernel
theorem dX10_copyRow_31 : decode cX10_copyRow 31 = .ok (.return_, 1) := by decide +kernel
theorem dX10_copyHall_0 : decode cX10_copyHall 0 = .ok (.aload_n 0, 1) := by decide +kernel
theorem dX10_copyHall_1 : decode cX10_copyHall 1 = .ok (.getfield 31, 3) := by decide +kernel
theorem dX10_copyHall_4 : decode cX10_copyHall 4 = .ok (.iconst 1, 1) := by decide +kernel
theorem dX10_copyHall_5 : decode cX10_copyHall 5 = .ok (.iload_n 1, 1) := by decide +kernel
theorem dX10_copyHall_6 : decode cX10_copyHall 6 = .ok (.iload_n 2, 1) := by decide +kernel
theorem dX10_copyHall_7 : decode cX10_copyHall 7 = .ok (.invokestatic 259, 3) := by decide +kernel
theorem dX10_copyHall_10 : decode cX10_copyHall 10 = .ok (.aload_n 0, 1) := by decide +kernel
theorem dX10_copyHall_11 : decode cX10_copyHall 11 = .ok (.getfield 34, 3) := by decide +kernel
theorem dX10_copyHall_14 : decode cX10_copyHall 14 = .ok (.bipush 8, 2) := by decide +kernel
theorem dX10_copyHall_16 : decode cX10_copyHall 16 = .ok (.iload_n 1, 1) := by decide +kernel
theorem dX10_copyHall_17 : decode cX10_copyHall 17 = .ok (.iload_n 2, 1) := by decide +kernel
theorem dX10_copyHall_18 : decode cX10_copyHall 18 = .ok (.invokestatic 259, 3) := by decide +kernel
theorem dX10_copyHall_21 : decode cX10_copyHall 21 = .ok (.aload_n 0, 1) := by decide +kernel
theorem dX10_copyHall_22 : decode cX10_copyHall 22 = .ok (.getfield 37, 3) := by decide +kernel
theorem dX10_copyHall_25 : decode cX10_copyHall 25 = .ok (.iconst 5, 1) := by decide +kernel
theorem dX10_copyHall_26 : decode cX10_copyHall 26 = .ok (.iload_n 1, 1) := by decide +kernel
theorem dX10_copyHall_27 : decode cX10_copyHall 27 = .ok (.iload_n 2, 1) := by decide +kernel
theorem dX10_copyHall_28 : decode cX10_copyHall 28 = .ok (.invokestatic 259, 3) := by decide +kernel
theorem dX10_copyHall_31 : decode cX10_copyHall 31 = .ok (.aload_n 0, 1) := by decide +kernel
theorem dX10_copyHall_32 : decode cX10_copyHall 32 = .ok (.getfield 40, 3) := by decide +kernel
theorem dX10_copyHall_35 : decode cX10_copyHall 35 = .ok (.iconst 3, 1) := by decide +kernel
theorem dX10_copyHall_36 : decode cX10_copyHall 36 = .ok (.iload_n 1, 1) := by decide +kernel
theorem dX10_copyHall_37 : decode cX10_copyHall 37 = .ok (.iload_n 2, 1) := by decide +kernel
theorem dX10_copyHall_38 : decode cX10_copyHall 38 = .ok (.invokestatic 259, 3) := by decide +kernel
theorem dX10_copyHall_41 : decode cX10_copyHall 41 = .ok (.aload_n 0, 1) := by decide +kernel
theorem dX10_copyHall_42 : decode cX10_copyHall 42 = .ok (.getfield 43, 3) := by decide +kernel
theorem dX10_copyHall_45 : decode cX10_copyHall 45 = .ok (.bipush 8, 2) := by decide +kernel
theorem dX10_copyHall_47 : decode cX10_copyHall 47 = .ok (.iload_n 1, 1) := by decide +kernel
theorem dX10_copyHall_48 : decode cX10_copyHall 48 = .ok (.iload_n 2, 1) := by decide +kernel
theorem dX10_copyHall_49 : decode cX10_copyHall 49 = .ok (.invokestatic 259, 3) := by decide +kernel
theorem dX10_copyHall_52 : decode cX10_copyHall 52 = .ok (.aload_n 0, 1) := by decide +kernel
theorem dX10_copyHall_53 : decode cX10_copyHall 53 = .ok (.getfield 46, 3) := by decide +kernel
theorem dX10_copyHall_56 : decode cX10_copyHall 56 = .ok (.bipush 45, 2) := by decide +kernel
theorem dX10_copyHall_58 : decode cX10_copyHall 58 = .ok (.iload_n 1, 1) := by decide +kernel
theorem dX10_copyHall_59 : decode cX10_copyHall 59 = .ok (.iload_n 2, 1) := by decide +kernel
theorem dX10_copyHall_60 : decode cX10_copyHall 60 = .ok (.invokestatic 259, 3) := by decide +kernel
theorem dX10_copyHall_63 : decode cX10_copyHall 63 = .ok (.return_, 1) := by decide +kernel
theorem dX10_isHall_0 : decode cX10_isHall 0 = .ok (.aload_n 0, 1) := by decide +kernel
theorem dX10_isHall_1 : decode cX10_isHall 1 = .ok (.getfield 31, 3) := by decide +kernel
theorem dX10_isHall_4 : decode cX10_isHall 4 = .ok (.iconst 0, 1) := by decide +kernel
theorem dX10_isHall_5 : decode cX10_isHall 5 = .ok (.iaload, 1) := by decide +kernel
theorem dX10_isHall_6 : decode cX10_isHall 6 = .ok (.ifCond .le 7, 3) := by decide +kernel
theorem dX10_isHall_9 : decode cX10_isHall 9 = .ok (.iconst 1, 1) := by decide +kernel
theorem dX10_isHall_10 : decode cX10_isHall 10 = .ok (.goto 4, 3) := by decide +kernel
theorem dX10_isHall_13 : decode cX10_isHall 13 = .ok (.iconst 0, 1) := by decide +kernel
theorem dX10_isHall_14 : decode cX10_isHall 14 = .ok (.ireturn, 1) := by decide +kernel
theorem dX10_all_0 : decode cX10_all 0 = .ok (.aload_n 0, 1) := by decide +kernel
theorem dX10_all_1 : decode cX10_all 1 = .ok (.iconst 0, 1) := by decide +kernel
theorem dX10_all_2 : decode cX10_all 2 = .ok (.invokevirtual 202, 3) := by decide +kernel
theorem dX10_all_5 : decode cX10_all 5 = .ok (.ireturn, 1) := by decide +kernel
theorem dX10_planOf_0 : decode cX10_planOf 0 = .ok (.aload_n 0, 1) := by decide +kernel
theorem dX10_planOf_1 : decode cX10_planOf 1 = .ok (.iconst 0, 1) := by decide +kernel
theorem dX10_planOf_2 : decode cX10_planOf 2 = .ok (.putfield 210, 3) := by decide +kernel
theorem dX10_planOf_5 : decode cX10_planOf 5 = .ok (.aload_n 0, 1) := by decide +kernel
theorem dX10_planOf_6 : decode cX10_planOf 6 = .ok (.iload_n 2, 1) := by decide +kernel
theorem dX10_planOf_7 : decode cX10_planOf 7 = .ok (.putfield 263, 3) := by decide +kernel
theorem dX10_planOf_10 : decode cX10_planOf 10 = .ok (.iconst 0, 1) := by decide +kernel
theorem dX10_planOf_11 : decode cX10_planOf 11 = .ok (.istore_n 3, 1) := by decide +kernel
theorem dX10_planOf_12 : decode cX10_planOf 12 = .ok (.iload_n 3, 1) := by decide +kernel
theorem dX10_planOf_13 : decode cX10_planOf 13 = .ok (.iconst 5, 1) := by decide +kernel
theorem dX10_planOf_14 : decode cX10_planOf 14 = .ok (.if_icmp .ge 25, 3) := by decide +kernel
theorem dX10_planOf_17 : decode cX10_planOf 17 = .ok (.aload_n 0, 1) := by decide +kernel
theorem dX10_planOf_18 : decode cX10_planOf 18 = .ok (.getfield 59, 3) := by decide +kernel
theorem dX10_planOf_21 : decode cX10_planOf 21 = .ok (.iload_n 3, 1) := by decide +kernel
theorem dX10_planOf_22 : decode cX10_planOf 22 = .ok (.aload_n 0, 1) := by decide +kernel
theorem dX10_planOf_23 : decode cX10_planOf 23 = .ok (.getfield 37, 3) := by decide +kernel
theorem dX10_planOf_26 : decode cX10_planOf 26 = .ok (.iconst 5, 1) := by decide +kernel
theorem dX10_planOf_27 : decode cX10_planOf 27 = .ok (.iload_n 1, 1) := by decide +kernel
theorem dX10_planOf_28 : decode cX10_planOf 28 = .ok (.imul, 1) := by decide +kernel
theorem dX10_planOf_29 : decode cX10_planOf 29 = .ok (.iload_n 3, 1) := by decide +kernel
theorem dX10_planOf_30 : decode cX10_planOf 30 = .ok (.iadd, 1) := by decide +kernel
theorem dX10_planOf_31 : decode cX10_planOf 31 = .ok (.iaload, 1) := by decide +kernel
theorem dX10_planOf_32 : decode cX10_planOf 32 = .ok (.iastore, 1) := by decide +kernel
theorem dX10_planOf_33 : decode cX10_planOf 33 = .ok (.iinc 3 1, 3) := by decide +kernel
theorem dX10_planOf_36 : decode cX10_planOf 36 = .ok (.goto (-24), 3) := by decide +kernel
theorem dX10_planOf_39 : decode cX10_planOf 39 = .ok (.aload_n 0, 1) := by decide +kernel
theorem dX10_planOf_40 : decode cX10_planOf 40 = .ok (.iload_n 1, 1) := by decide +kernel
theorem dX10_planOf_41 : decode cX10_planOf 41 = .ok (.iconst 0, 1) := by decide +kernel
theorem dX10_planOf_42 : decode cX10_planOf 42 = .ok (.iconst 0, 1) := by decide +kernel
theorem dX10_planOf_43 : decode cX10_planOf 43 = .ok (.iconst 0, 1) := by decide +kernel
theorem dX10_planOf_44 : decode cX10_planOf 44 = .ok (.invokevirtual 266, 3) := by decide +kernel
theorem dX10_planOf_47 : decode cX10_planOf 47 = .ok (.return_, 1) := by decide +kernel
theorem dX10_plans_0 : decode cX10_plans 0 = .ok (.iload_n 2, 1) := by decide +kernel
theorem dX10_plans_1 : decode cX10_plans 1 = .ok (.aload_n 0, 1) := by decide +kernel
theorem dX10_plans_2 : decode cX10_plans 2 = .ok (.iload_n 1, 1) := by decide +kernel
theorem dX10_plans_3 : decode cX10_plans 3 = .ok (.iconst 0, 1) := by decide +kernel
theorem dX10_plans_4 : decode cX10_plans 4 = .ok (.invokevirtual 177, 3) := by decide +kernel
theorem dX10_plans_7 : decode cX10_plans 7 = .ok (.if_icmp .ne 86, 3) := by decide +kernel
theorem dX10_plans_10 : decode cX10_plans 10 = .ok (.iconst 0, 1) := by decide +kernel
theorem dX10_plans_11 : decode cX10_plans 11 = .ok (.istore 5, 2) := by decide +kernel
theorem dX10_plans_13 : decode cX10_plans 13 = .ok (.iload 5, 2) := by decide +kernel
theorem dX10_plans_15 : decode cX10_plans 15 = .ok (.aload_n 0, 1) := by decide +kernel
theorem dX10_plans_16 : decode cX10_plans 16 = .ok (.iload_n 1, 1) := by decide +kernel
theorem dX10_plans_17 : decode cX10_plans 17 = .ok (.iconst 3, 1) := by decide +kernel
theorem dX10_plans_18 : decode cX10_plans 18 = .ok (.invokevirtual 177, 3) := by decide +kernel
theorem dX10_plans_21 : decode cX10_plans 21 = .ok (.if_icmp .ge 20, 3) := by decide +kernel
theorem dX10_plans_24 : decode cX10_plans 24 = .ok (.aload_n 0, 1) := by decide +kernel
theorem dX10_plans_25 : decode cX10_plans 25 = .ok (.getfield 59, 3) := by decide +kernel
theorem dX10_plans_28 : decode cX10_plans 28 = .ok (.iload 5, 2) := by decide +kernel
theorem dX10_plans_30 : decode cX10_plans 30 = .ok (.iaload, 1) := by decide +kernel
theorem dX10_plans_31 : decode cX10_plans 31 = .ok (.ifCond .eq 4, 3) := by decide +kernel
theorem dX10_plans_34 : decode cX10_plans 34 = .ok (.return_, 1) := by decide +kernel
theorem dX10_plans_35 : decode cX10_plans 35 = .ok (.iinc 5 1, 3) := by decide +kernel
theorem dX10_plans_38 : decode cX10_plans 38 = .ok (.goto (-25), 3) := by decide +kernel
theorem dX10_plans_41 : decode cX10_plans 41 = .ok (.aload_n 0, 1) := by decide +kernel
theorem dX10_plans_42 : decode cX10_plans 42 = .ok (.getfield 210, 3) := by decide +kernel
theorem dX10_plans_45 : decode cX10_plans 45 = .ok (.aload_n 0, 1) := by decide +kernel
theorem dX10_plans_46 : decode cX10_plans 46 = .ok (.getfield 263, 3) := by decide +kernel
theorem dX10_plans_49 : decode cX10_plans 49 = .ok (.if_icmp .ne 33, 3) := by decide +kernel
theorem dX10_plans_52 : decode cX10_plans 52 = .ok (.iconst 0, 1) := by decide +kernel
theorem dX10_plans_53 : decode cX10_plans 53 = .ok (.istore 5, 2) := by decide +kernel
theorem dX10_plans_55 : decode cX10_plans 55 = .ok (.iload 5, 2) := by decide +kernel
theorem dX10_plans_57 : decode cX10_plans 57 = .ok (.bipush 15, 2) := by decide +kernel
theorem dX10_plans_59 : decode cX10_plans 59 = .ok (.if_icmp .ge 23, 3) := by decide +kernel
theorem dX10_plans_62 : decode cX10_plans 62 = .ok (.aload_n 0, 1) := by decide +kernel
theorem dX10_plans_63 : decode cX10_plans 63 = .ok (.getfield 56, 3) := by decide +kernel
theorem dX10_plans_66 : decode cX10_plans 66 = .ok (.iload 5, 2) := by decide +kernel
theorem dX10_plans_68 : decode cX10_plans 68 = .ok (.aload_n 0, 1) := by decide +kernel
theorem dX10_plans_69 : decode cX10_plans 69 = .ok (.getfield 53, 3) := by decide +kernel
theorem dX10_plans_72 : decode cX10_plans 72 = .ok (.iload 5, 2) := by decide +kernel
theorem dX10_plans_74 : decode cX10_plans 74 = .ok (.iaload, 1) := by decide +kernel
theorem dX10_plans_75 : decode cX10_plans 75 = .ok (.iastore, 1) := by decide +kernel
theorem dX10_plans_76 : decode cX10_plans 76 = .ok (.iinc 5 1, 3) := by decide +kernel
theorem dX10_plans_79 : decode cX10_plans 79 = .ok (.goto (-24), 3) := by decide +kernel
theorem dX10_plans_82 : decode cX10_plans 82 = .ok (.aload_n 0, 1) := by decide +kernel
theorem dX10_plans_83 : decode cX10_plans 83 = .ok (.dup, 1) := by decide +kernel
theorem dX10_plans_84 : decode cX10_plans 84 = .ok (.getfield 210, 3) := by decide +kernel
theorem dX10_plans_87 : decode cX10_plans 87 = .ok (.iconst 1, 1) := by decide +kernel
theorem dX10_plans_88 : decode cX10_plans 88 = .ok (.iadd, 1) := by decide +kernel
theorem dX10_plans_89 : decode cX10_plans 89 = .ok (.putfield 210, 3) := by decide +kernel
theorem dX10_plans_92 : decode cX10_plans 92 = .ok (.return_, 1) := by decide +kernel
theorem dX10_plans_93 : decode cX10_plans 93 = .ok (.iload_n 3, 1) := by decide +kernel
theorem dX10_plans_94 : decode cX10_plans 94 = .ok (.aload_n 0, 1) := by decide +kernel
theorem dX10_plans_95 : decode cX10_plans 95 = .ok (.iload_n 1, 1) := by decide +kernel
theorem dX10_plans_96 : decode cX10_plans 96 = .ok (.iconst 3, 1) := by decide +kernel
theorem dX10_plans_97 : decode cX10_plans 97 = .ok (.invokevirtual 177, 3) := by decide +kernel
theorem dX10_plans_100 : decode cX10_plans 100 = .ok (.if_icmp .ne 32, 3) := by decide +kernel
theorem dX10_plans_103 : decode cX10_plans 103 = .ok (.iload 4, 2) := by decide +kernel
theorem dX10_plans_105 : decode cX10_plans 105 = .ok (.aload_n 0, 1) := by decide +kernel
theorem dX10_plans_106 : decode cX10_plans 106 = .ok (.iload_n 1, 1) := by decide +kernel
theorem dX10_plans_107 : decode cX10_plans 107 = .ok (.iconst 1, 1) := by decide +kernel
theorem dX10_plans_108 : decode cX10_plans 108 = .ok (.invokevirtual 177, 3) := by decide +kernel
theorem dX10_plans_111 : decode cX10_plans 111 = .ok (.aload_n 0, 1) := by decide +kernel
theorem dX10_plans_112 : decode cX10_plans 112 = .ok (.iload_n 1, 1) := by decide +kernel
theorem dX10_plans_113 : decode cX10_plans 113 = .ok (.iconst 2, 1) := by decide +kernel
theorem dX10_plans_114 : decode cX10_plans 114 = .ok (.invokevirtual 177, 3) := by decide +kernel
theorem dX10_plans_117 : decode cX10_plans 117 = .ok (.imul, 1) := by decide +kernel
theorem dX10_plans_118 : decode cX10_plans 118 = .ok (.if_icmp .ne 13, 3) := by decide +kernel
theorem dX10_plans_121 : decode cX10_plans 121 = .ok (.aload_n 0, 1) := by decide +kernel
theorem dX10_plans_122 : decode cX10_plans 122 = .ok (.iload_n 1, 1) := by decide +kernel
theorem dX10_plans_123 : decode cX10_plans 123 = .ok (.iload_n 2, 1) := by decide +kernel
theorem dX10_plans_124 : decode cX10_plans 124 = .ok (.iconst 1, 1) := by decide +kernel
theorem dX10_plans_125 : decode cX10_plans 125 = .ok (.iadd, 1) := by decide +kernel
theorem dX10_plans_126 : decode cX10_plans 126 = .ok (.iconst 0, 1) := by decide +kernel
theorem dX10_plans_127 : decode cX10_plans 127 = .ok (.iconst 0, 1) := by decide +kernel
theorem dX10_plans_128 : decode cX10_plans 128 = .ok (.invokevirtual 266, 3) := by decide +kernel
theorem dX10_plans_131 : decode cX10_plans 131 = .ok (.return_, 1) := by decide +kernel
theorem dX10_plans_132 : decode cX10_plans 132 = .ok (.iconst 1, 1) := by decide +kernel
theorem dX10_plans_133 : decode cX10_plans 133 = .ok (.istore 5, 2) := by decide +kernel
theorem dX10_plans_135 : decode cX10_plans 135 = .ok (.iload 5, 2) := by decide +kernel
theorem dX10_plans_137 : decode cX10_plans 137 = .ok (.aload_n 0, 1) := by decide +kernel
theorem dX10_plans_138 : decode cX10_plans 138 = .ok (.iload_n 1, 1) := by decide +kernel
theorem dX10_plans_139 : decode cX10_plans 139 = .ok (.iconst 1, 1) := by decide +kernel
theorem dX10_plans_140 : decode cX10_plans 140 = .ok (.invokevirtual 177, 3) := by decide +kernel
theorem dX10_plans_143 : decode cX10_plans 143 = .ok (.if_icmp .gt 89, 3) := by decide +kernel
theorem dX10_plans_146 : decode cX10_plans 146 = .ok (.iload 5, 2) := by decide +kernel
theorem dX10_plans_148 : decode cX10_plans 148 = .ok (.aload_n 0, 1) := by decide +kernel
theorem dX10_plans_149 : decode cX10_plans 149 = .ok (.getfield 59, 3) := by decide +kernel
theorem dX10_plans_152 : decode cX10_plans 152 = .ok (.iload_n 3, 1) := by decide +kernel
theorem dX10_plans_153 : decode cX10_plans 153 = .ok (.iaload, 1) := by decide +kernel
theorem dX10_plans_154 : decode cX10_plans 154 = .ok (.if_icmp .gt 78, 3) := by decide +kernel
theorem dX10_plans_157 : decode cX10_plans 157 = .ok (.iload 4, 2) := by decide +kernel
theorem dX10_plans_159 : decode cX10_plans 159 = .ok (.iload 5, 2) := by decide +kernel
theorem dX10_plans_161 : decode cX10_plans 161 = .ok (.iadd, 1) := by decide +kernel
theorem dX10_plans_162 : decode cX10_plans 162 = .ok (.aload_n 0, 1) := by decide +kernel
theorem dX10_plans_163 : decode cX10_plans 163 = .ok (.iload_n 1, 1) := by decide +kernel
theorem dX10_plans_164 : decode cX10_plans 164 = .ok (.iconst 1, 1) := by decide +kernel
theorem dX10_plans_165 : decode cX10_plans 165 = .ok (.invokevirtual 177, 3) := by decide +kernel
theorem dX10_plans_168 : decode cX10_plans 168 = .ok (.aload_n 0, 1) := by decide +kernel
theorem dX10_plans_169 : decode cX10_plans 169 = .ok (.iload_n 1, 1) := by decide +kernel
theorem dX10_plans_170 : decode cX10_plans 170 = .ok (.iconst 2, 1) := by decide +kernel
theorem dX10_plans_171 : decode cX10_plans 171 = .ok (.invokevirtual 177, 3) := by decide +kernel
theorem dX10_plans_174 : decode cX10_plans 174 = .ok (.imul, 1) := by decide +kernel
theorem dX10_plans_175 : decode cX10_plans 175 = .ok (.if_icmp .gt 57, 3) := by decide +kernel
theorem dX10_plans_178 : decode cX10_plans 178 = .ok (.aload_n 0, 1) := by decide +kernel
theorem dX10_plans_179 : decode cX10_plans 179 = .ok (.getfield 53, 3) := by decide +kernel
theorem dX10_plans_182 : decode cX10_plans 182 = .ok (.iconst 5, 1) := by decide +kernel
theorem dX10_plans_183 : decode cX10_plans 183 = .ok (.iload_n 2, 1) := by decide +kernel
theorem dX10_plans_184 : decode cX10_plans 184 = .ok (.imul, 1) := by decide +kernel
theorem dX10_plans_185 : decode cX10_plans 185 = .ok (.iload_n 3, 1) := by decide +kernel
theorem dX10_plans_186 : decode cX10_plans 186 = .ok (.iadd, 1) := by decide +kernel
theorem dX10_plans_187 : decode cX10_plans 187 = .ok (.iload 5, 2) := by decide +kernel
theorem dX10_plans_189 : decode cX10_plans 189 = .ok (.iastore, 1) := by decide +kernel
theorem dX10_plans_190 : decode cX10_plans 190 = .ok (.aload_n 0, 1) := by decide +kernel
theorem dX10_plans_191 : decode cX10_plans 191 = .ok (.getfield 59, 3) := by decide +kernel
theorem dX10_plans_194 : decode cX10_plans 194 = .ok (.iload_n 3, 1) := by decide +kernel
theorem dX10_plans_195 : decode cX10_plans 195 = .ok (.dup2, 1) := by decide +kernel
theorem dX10_plans_196 : decode cX10_plans 196 = .ok (.iaload, 1) := by decide +kernel
theorem dX10_plans_197 : decode cX10_plans 197 = .ok (.iload 5, 2) := by decide +kernel
theorem dX10_plans_199 : decode cX10_plans 199 = .ok (.isub, 1) := by decide +kernel
theorem dX10_plans_200 : decode cX10_plans 200 = .ok (.iastore, 1) := by decide +kernel
theorem dX10_plans_201 : decode cX10_plans 201 = .ok (.aload_n 0, 1) := by decide +kernel
theorem dX10_plans_202 : decode cX10_plans 202 = .ok (.iload_n 1, 1) := by decide +kernel
theorem dX10_plans_203 : decode cX10_plans 203 = .ok (.iload_n 2, 1) := by decide +kernel
theorem dX10_plans_204 : decode cX10_plans 204 = .ok (.iload_n 3, 1) := by decide +kernel
theorem dX10_plans_205 : decode cX10_plans 205 = .ok (.iconst 1, 1) := by decide +kernel
theorem dX10_plans_206 : decode cX10_plans 206 = .ok (.iadd, 1) := by decide +kernel
theorem dX10_plans_207 : decode cX10_plans 207 = .ok (.iload 4, 2) := by decide +kernel
theorem dX10_plans_209 : decode cX10_plans 209 = .ok (.iload 5, 2) := by decide +kernel
theorem dX10_plans_211 : decode cX10_plans 211 = .ok (.iadd, 1) := by decide +kernel
theorem dX10_plans_212 : decode cX10_plans 212 = .ok (.invokevirtual 266, 3) := by decide +kernel
theorem dX10_plans_215 : decode cX10_plans 215 = .ok (.aload_n 0, 1) := by decide +kernel
theorem dX10_plans_216 : decode cX10_plans 216 = .ok (.getfield 59, 3) := by decide +kernel
theorem dX10_plans_219 : decode cX10_plans 219 = .ok (.iload_n 3, 1) := by decide +kernel
theorem dX10_plans_220 : decode cX10_plans 220 = .ok (.dup2, 1) := by decide +kernel
theorem dX10_plans_221 : decode cX10_plans 221 = .ok (.iaload, 1) := by decide +kernel
theorem dX10_plans_222 : decode cX10_plans 222 = .ok (.iload 5, 2) := by decide +kernel
theorem dX10_plans_224 : decode cX10_plans 224 = .ok (.iadd, 1) := by decide +kernel
theorem dX10_plans_225 : decode cX10_plans 225 = .ok (.iastore, 1) := by decide +kernel
theorem dX10_plans_226 : decode cX10_plans 226 = .ok (.iinc 5 1, 3) := by decide +kernel
theorem dX10_plans_229 : decode cX10_plans 229 = .ok (.goto (-94), 3) := by decide +kernel
theorem dX10_plans_232 : decode cX10_plans 232 = .ok (.return_, 1) := by decide +kernel
theorem dX10_sizeOf_0 : decode cX10_sizeOf 0 = .ok (.iconst 0, 1) := by decide +kernel
theorem dX10_sizeOf_1 : decode cX10_sizeOf 1 = .ok (.istore_n 1, 1) := by decide +kernel
theorem dX10_sizeOf_2 : decode cX10_sizeOf 2 = .ok (.iload_n 0, 1) := by decide +kernel
theorem dX10_sizeOf_3 : decode cX10_sizeOf 3 = .ok (.istore_n 2, 1) := by decide +kernel
theorem dX10_sizeOf_4 : decode cX10_sizeOf 4 = .ok (.iload_n 2, 1) := by decide +kernel
theorem dX10_sizeOf_5 : decode cX10_sizeOf 5 = .ok (.ifCond .eq 15, 3) := by decide +kernel
theorem dX10_sizeOf_8 : decode cX10_sizeOf 8 = .ok (.iinc 1 1, 3) := by decide +kernel
theorem dX10_sizeOf_11 : decode cX10_sizeOf 11 = .ok (.iload_n 2, 1) := by decide +kernel
theorem dX10_sizeOf_12 : decode cX10_sizeOf 12 = .ok (.iload_n 2, 1) := by decide +kernel
theorem dX10_sizeOf_13 : decode cX10_sizeOf 13 = .ok (.iconst 1, 1) := by decide +kernel
theorem dX10_sizeOf_14 : decode cX10_sizeOf 14 = .ok (.isub, 1) := by decide +kernel
theorem dX10_sizeOf_15 : decode cX10_sizeOf 15 = .ok (.iand, 1) := by decide +kernel
theorem dX10_sizeOf_16 : decode cX10_sizeOf 16 = .ok (.istore_n 2, 1) := by decide +kernel
theorem dX10_sizeOf_17 : decode cX10_sizeOf 17 = .ok (.goto (-13), 3) := by decide +kernel
theorem dX10_sizeOf_20 : decode cX10_sizeOf 20 = .ok (.iload_n 1, 1) := by decide +kernel
theorem dX10_sizeOf_21 : decode cX10_sizeOf 21 = .ok (.ireturn, 1) := by decide +kernel
theorem dX10_layoutOf_0 : decode cX10_layoutOf 0 = .ok (.aload_n 0, 1) := by decide +kernel
theorem dX10_layoutOf_1 : decode cX10_layoutOf 1 = .ok (.iconst 0, 1) := by decide +kernel
theorem dX10_layoutOf_2 : decode cX10_layoutOf 2 = .ok (.putfield 270, 3) := by decide +kernel
theorem dX10_layoutOf_5 : decode cX10_layoutOf 5 = .ok (.aload_n 0, 1) := by decide +kernel
theorem dX10_layoutOf_6 : decode cX10_layoutOf 6 = .ok (.iload_n 2, 1) := by decide +kernel
theorem dX10_layoutOf_7 : decode cX10_layoutOf 7 = .ok (.putfield 273, 3) := by decide +kernel
theorem dX10_layoutOf_10 : decode cX10_layoutOf 10 = .ok (.aload_n 0, 1) := by decide +kernel
theorem dX10_layoutOf_11 : decode cX10_layoutOf 11 = .ok (.iload_n 1, 1) := by decide +kernel
theorem dX10_layoutOf_12 : decode cX10_layoutOf 12 = .ok (.iconst 0, 1) := by decide +kernel
theorem dX10_layoutOf_13 : decode cX10_layoutOf 13 = .ok (.invokevirtual 276, 3) := by decide +kernel
theorem dX10_layoutOf_16 : decode cX10_layoutOf 16 = .ok (.return_, 1) := by decide +kernel
theorem dX10_layouts_0 : decode cX10_layouts 0 = .ok (.iload_n 2, 1) := by decide +kernel
theorem dX10_layouts_1 : decode cX10_layouts 1 = .ok (.aload_n 0, 1) := by decide +kernel
theorem dX10_layouts_2 : decode cX10_layouts 2 = .ok (.iload_n 1, 1) := by decide +kernel
theorem dX10_layouts_3 : decode cX10_layouts 3 = .ok (.iconst 1, 1) := by decide +kernel
theorem dX10_layouts_4 : decode cX10_layouts 4 = .ok (.invokevirtual 177, 3) := by decide +kernel
theorem dX10_layouts_7 : decode cX10_layouts 7 = .ok (.if_icmp .ne 78, 3) := by decide +kernel
theorem dX10_layouts_10 : decode cX10_layouts 10 = .ok (.iconst 0, 1) := by decide +kernel
theorem dX10_layouts_11 : decode cX10_layouts 11 = .ok (.istore_n 3, 1) := by decide +kernel
theorem dX10_layouts_12 : decode cX10_layouts 12 = .ok (.iload_n 3, 1) := by decide +kernel
theorem dX10_layouts_13 : decode cX10_layouts 13 = .ok (.aload_n 0, 1) := by decide +kernel
theorem dX10_layouts_14 : decode cX10_layouts 14 = .ok (.iload_n 1, 1) := by decide +kernel
theorem dX10_layouts_15 : decode cX10_layouts 15 = .ok (.iconst 3, 1) := by decide +kernel
theorem dX10_layouts_16 : decode cX10_layouts 16 = .ok (.invokevirtual 177, 3) := by decide +kernel
theorem dX10_layouts_19 : decode cX10_layouts 19 = .ok (.if_icmp .ge 19, 3) := by decide +kernel
theorem dX10_layouts_22 : decode cX10_layouts 22 = .ok (.aload_n 0, 1) := by decide +kernel
theorem dX10_layouts_23 : decode cX10_layouts 23 = .ok (.getfield 62, 3) := by decide +kernel
theorem dX10_layouts_26 : decode cX10_layouts 26 = .ok (.iload_n 3, 1) := by decide +kernel
theorem dX10_layouts_27 : decode cX10_layouts 27 = .ok (.iaload, 1) := by decide +kernel
theorem dX10_layouts_28 : decode cX10_layouts 28 = .ok (.ifCond .eq 4, 3) := by decide +kernel
theorem dX10_layouts_31 : decode cX10_layouts 31 = .ok (.return_, 1) := by decide +kernel
theorem dX10_layouts_32 : decode cX10_layouts 32 = .ok (.iinc 3 1, 3) := by decide +kernel
theorem dX10_layouts_35 : decode cX10_layouts 35 = .ok (.goto (-23), 3) := by decide +kernel
theorem dX10_layouts_38 : decode cX10_layouts 38 = .ok (.aload_n 0, 1) := by decide +kernel
theorem dX10_layouts_39 : decode cX10_layouts 39 = .ok (.getfield 270, 3) := by decide +kernel
theorem dX10_layouts_42 : decode cX10_layouts 42 = .ok (.aload_n 0, 1) := by decide +kernel
theorem dX10_layouts_43 : decode cX10_layouts 43 = .ok (.getfield 273, 3) := by decide +kernel
theorem dX10_layouts_46 : decode cX10_layouts 46 = .ok (.if_icmp .ne 28, 3) := by decide +kernel
theorem dX10_layouts_49 : decode cX10_layouts 49 = .ok (.iconst 0, 1) := by decide +kernel
theorem dX10_layouts_50 : decode cX10_layouts 50 = .ok (.istore_n 3, 1) := by decide +kernel
theorem dX10_layouts_51 : decode cX10_layouts 51 = .ok (.iload_n 3, 1) := by decide +kernel
theorem dX10_layouts_52 : decode cX10_layouts 52 = .ok (.iconst 3, 1) := by decide +kernel
theorem dX10_layouts_53 : decode cX10_layouts 53 = .ok (.if_icmp .ge 21, 3) := by decide +kernel
theorem dX10_layouts_56 : decode cX10_layouts 56 = .ok (.aload_n 0, 1) := by decide +kernel
theorem dX10_layouts_57 : decode cX10_layouts 57 = .ok (.getfield 68, 3) := by decide +kernel
theorem dX10_layouts_60 : decode cX10_layouts 60 = .ok (.iload_n 3, 1) := by decide +kernel
theorem dX10_layouts_61 : decode cX10_layouts 61 = .ok (.aload_n 0, 1) := by decide +kernel
theorem dX10_layouts_62 : decode cX10_layouts 62 = .ok (.getfield 65, 3) := by decide +kernel
theorem dX10_layouts_65 : decode cX10_layouts 65 = .ok (.iload_n 3, 1) := by decide +kernel
theorem dX10_layouts_66 : decode cX10_layouts 66 = .ok (.iaload, 1) := by decide +kernel
theorem dX10_layouts_67 : decode cX10_layouts 67 = .ok (.iastore, 1) := by decide +kernel
theorem dX10_layouts_68 : decode cX10_layouts 68 = .ok (.iinc 3 1, 3) := by decide +kernel
theorem dX10_layouts_71 : decode cX10_layouts 71 = .ok (.goto (-20), 3) := by decide +kernel
theorem dX10_layouts_74 : decode cX10_layouts 74 = .ok (.aload_n 0, 1) := by decide +kernel
theorem dX10_layouts_75 : decode cX10_layouts 75 = .ok (.dup, 1) := by decide +kernel
theorem dX10_layouts_76 : decode cX10_layouts 76 = .ok (.getfield 270, 3) := by decide +kernel
theorem dX10_layouts_79 : decode cX10_layouts 79 = .ok (.iconst 1, 1) := by decide +kernel
theorem dX10_layouts_80 : decode cX10_layouts 80 = .ok (.iadd, 1) := by decide +kernel
theorem dX10_layouts_81 : decode cX10_layouts 81 = .ok (.putfield 270, 3) := by decide +kernel
theorem dX10_layouts_84 : decode cX10_layouts 84 = .ok (.return_, 1) := by decide +kernel
theorem dX10_layouts_85 : decode cX10_layouts 85 = .ok (.iconst 0, 1) := by decide +kernel
theorem dX10_layouts_86 : decode cX10_layouts 86 = .ok (.istore_n 3, 1) := by decide +kernel
theorem dX10_layouts_87 : decode cX10_layouts 87 = .ok (.iload_n 3, 1) := by decide +kernel
theorem dX10_layouts_88 : decode cX10_layouts 88 = .ok (.iconst 1, 1) := by decide +kernel
theorem dX10_layouts_89 : decode cX10_layouts 89 = .ok (.aload_n 0, 1) := by decide +kernel
theorem dX10_layouts_90 : decode cX10_layouts 90 = .ok (.iload_n 1, 1) := by decide +kernel
theorem dX10_layouts_91 : decode cX10_layouts 91 = .ok (.iconst 3, 1) := by decide +kernel
theorem dX10_layouts_92 : decode cX10_layouts 92 = .ok (.invokevirtual 177, 3) := by decide +kernel
theorem dX10_layouts_95 : decode cX10_layouts 95 = .ok (.ishl, 1) := by decide +kernel
theorem dX10_layouts_96 : decode cX10_layouts 96 = .ok (.if_icmp .ge 112, 3) := by decide +kernel
theorem dX10_layouts_99 : decode cX10_layouts 99 = .ok (.iload_n 3, 1) := by decide +kernel
theorem dX10_layouts_100 : decode cX10_layouts 100 = .ok (.invokestatic 279, 3) := by decide +kernel
theorem dX10_layouts_103 : decode cX10_layouts 103 = .ok (.aload_n 0, 1) := by decide +kernel
theorem dX10_layouts_104 : decode cX10_layouts 104 = .ok (.iload_n 1, 1) := by decide +kernel
theorem dX10_layouts_105 : decode cX10_layouts 105 = .ok (.iconst 2, 1) := by decide +kernel
theorem dX10_layouts_106 : decode cX10_layouts 106 = .ok (.invokevirtual 177, 3) := by decide +kernel
theorem dX10_layouts_109 : decode cX10_layouts 109 = .ok (.if_icmp .eq 6, 3) := by decide +kernel
theorem dX10_layouts_112 : decode cX10_layouts 112 = .ok (.goto 90, 3) := by decide +kernel
theorem dX10_layouts_115 : decode cX10_layouts 115 = .ok (.aload_n 0, 1) := by decide +kernel
theorem dX10_layouts_116 : decode cX10_layouts 116 = .ok (.getfield 65, 3) := by decide +kernel
theorem dX10_layouts_119 : decode cX10_layouts 119 = .ok (.iload_n 2, 1) := by decide +kernel
theorem dX10_layouts_120 : decode cX10_layouts 120 = .ok (.iload_n 3, 1) := by decide +kernel
theorem dX10_layouts_121 : decode cX10_layouts 121 = .ok (.iastore, 1) := by decide +kernel
theorem dX10_layouts_122 : decode cX10_layouts 122 = .ok (.iconst 0, 1) := by decide +kernel
theorem dX10_layouts_123 : decode cX10_layouts 123 = .ok (.istore 4, 2) := by decide +kernel
theorem dX10_layouts_125 : decode cX10_layouts 125 = .ok (.iload 4, 2) := by decide +kernel
theorem dX10_layouts_127 : decode cX10_layouts 127 = .ok (.aload_n 0, 1) := by decide +kernel
theorem dX10_layouts_128 : decode cX10_layouts 128 = .ok (.iload_n 1, 1) := by decide +kernel
theorem dX10_layouts_129 : decode cX10_layouts 129 = .ok (.iconst 3, 1) := by decide +kernel
theorem dX10_layouts_130 : decode cX10_layouts 130 = .ok (.invokevirtual 177, 3) := by decide +kernel
theorem dX10_layouts_133 : decode cX10_layouts 133 = .ok (.if_icmp .ge 25, 3) := by decide +kernel
theorem dX10_layouts_136 : decode cX10_layouts 136 = .ok (.aload_n 0, 1) := by decide +kernel
theorem dX10_layouts_137 : decode cX10_layouts 137 = .ok (.getfield 62, 3) := by decide +kernel
theorem dX10_layouts_140 : decode cX10_layouts 140 = .ok (.iload 4, 2) := by decide +kernel
theorem dX10_layouts_142 : decode cX10_layouts 142 = .ok (.dup2, 1) := by decide +kernel
theorem dX10_layouts_143 : decode cX10_layouts 143 = .ok (.iaload, 1) := by decide +kernel
theorem dX10_layouts_144 : decode cX10_layouts 144 = .ok (.iload_n 3, 1) := by decide +kernel
theorem dX10_layouts_145 : decode cX10_layouts 145 = .ok (.iload 4, 2) := by decide +kernel
theorem dX10_layouts_147 : decode cX10_layouts 147 = .ok (.ishr, 1) := by decide +kernel
theorem dX10_layouts_148 : decode cX10_layouts 148 = .ok (.iconst 1, 1) := by decide +kernel
theorem dX10_layouts_149 : decode cX10_layouts 149 = .ok (.iand, 1) := by decide +kernel
theorem dX10_layouts_150 : decode cX10_layouts 150 = .ok (.isub, 1) := by decide +kernel
theorem dX10_layouts_151 : decode cX10_layouts 151 = .ok (.iastore, 1) := by decide +kernel
theorem dX10_layouts_152 : decode cX10_layouts 152 = .ok (.iinc 4 1, 3) := by decide +kernel
theorem dX10_layouts_155 : decode cX10_layouts 155 = .ok (.goto (-30), 3) := by decide +kernel
theorem dX10_layouts_158 : decode cX10_layouts 158 = .ok (.aload_n 0, 1) := by decide +kernel
theorem dX10_layouts_159 : decode cX10_layouts 159 = .ok (.iload_n 1, 1) := by decide +kernel
theorem dX10_layouts_160 : decode cX10_layouts 160 = .ok (.iload_n 2, 1) := by decide +kernel
theorem dX10_layouts_161 : decode cX10_layouts 161 = .ok (.iconst 1, 1) := by decide +kernel
theorem dX10_layouts_162 : decode cX10_layouts 162 = .ok (.iadd, 1) := by decide +kernel
theorem dX10_layouts_163 : decode cX10_layouts 163 = .ok (.invokevirtual 276, 3) := by decide +kernel
theorem dX10_layouts_166 : decode cX10_layouts 166 = .ok (.iconst 0, 1) := by decide +kernel
theorem dX10_layouts_167 : decode cX10_layouts 167 = .ok (.istore 4, 2) := by decide +kernel
theorem dX10_layouts_169 : decode cX10_layouts 169 = .ok (.iload 4, 2) := by decide +kernel
theorem dX10_layouts_171 : decode cX10_layouts 171 = .ok (.aload_n 0, 1) := by decide +kernel
theorem dX10_layouts_172 : decode cX10_layouts 172 = .ok (.iload_n 1, 1) := by decide +kernel
theorem dX10_layouts_173 : decode cX10_layouts 173 = .ok (.iconst 3, 1) := by decide +kernel
theorem dX10_layouts_174 : decode cX10_layouts 174 = .ok (.invokevirtual 177, 3) := by decide +kernel
theorem dX10_layouts_177 : decode cX10_layouts 177 = .ok (.if_icmp .ge 25, 3) := by decide +kernel
theorem dX10_layouts_180 : decode cX10_layouts 180 = .ok (.aload_n 0, 1) := by decide +kernel
theorem dX10_layouts_181 : decode cX10_layouts 181 = .ok (.getfield 62, 3) := by decide +kernel
theorem dX10_layouts_184 : decode cX10_layouts 184 = .ok (.iload 4, 2) := by decide +kernel
theorem dX10_layouts_186 : decode cX10_layouts 186 = .ok (.dup2, 1) := by decide +kernel
theorem dX10_layouts_187 : decode cX10_layouts 187 = .ok (.iaload, 1) := by decide +kernel
theorem dX10_layouts_188 : decode cX10_layouts 188 = .ok (.iload_n 3, 1) := by decide +kernel
theorem dX10_layouts_189 : decode cX10_layouts 189 = .ok (.iload 4, 2) := by decide +kernel
theorem dX10_layouts_191 : decode cX10_layouts 191 = .ok (.ishr, 1) := by decide +kernel
theorem dX10_layouts_192 : decode cX10_layouts 192 = .ok (.iconst 1, 1) := by decide +kernel
theorem dX10_layouts_193 : decode cX10_layouts 193 = .ok (.iand, 1) := by decide +kernel
theorem dX10_layouts_194 : decode cX10_layouts 194 = .ok (.iadd, 1) := by decide +kernel
theorem dX10_layouts_195 : decode cX10_layouts 195 = .ok (.iastore, 1) := by decide +kernel
theorem dX10_layouts_196 : decode cX10_layouts 196 = .ok (.iinc 4 1, 3) := by decide +kernel
theorem dX10_layouts_199 : decode cX10_layouts 199 = .ok (.goto (-30), 3) := by decide +kernel
theorem dX10_layouts_202 : decode cX10_layouts 202 = .ok (.iinc 3 1, 3) := by decide +kernel
theorem dX10_layouts_205 : decode cX10_layouts 205 = .ok (.goto (-118), 3) := by decide +kernel
theorem dX10_layouts_208 : decode cX10_layouts 208 = .ok (.return_, 1) := by decide +kernel
theorem dX10_drawn_0 : decode cX10_drawn 0 = .ok (.aload_n 0, 1) := by decide +kernel
theorem dX10_drawn_1 : decode cX10_drawn 1 = .ok (.ldc2_w 282, 3) := by decide +kernel
theorem dX10_drawn_4 : decode cX10_drawn 4 = .ok (.aload_n 0, 1) := by decide +kernel
theorem dX10_drawn_5 : decode cX10_drawn 5 = .ok (.getfield 284, 3) := by decide +kernel
theorem dX10_drawn_8 : decode cX10_drawn 8 = .ok (.lmul, 1) := by decide +kernel
theorem dX10_drawn_9 : decode cX10_drawn 9 = .ok (.ldc2_w 287, 3) := by decide +kernel
theorem dX10_drawn_12 : decode cX10_drawn 12 = .ok (.ladd, 1) := by decide +kernel
theorem dX10_drawn_13 : decode cX10_drawn 13 = .ok (.ldc2_w 289, 3) := by decide +kernel
theorem dX10_drawn_16 : decode cX10_drawn 16 = .ok (.lrem, 1) := by decide +kernel
theorem dX10_drawn_17 : decode cX10_drawn 17 = .ok (.putfield 284, 3) := by decide +kernel
theorem dX10_drawn_20 : decode cX10_drawn 20 = .ok (.aload_n 0, 1) := by decide +kernel
theorem dX10_drawn_21 : decode cX10_drawn 21 = .ok (.getfield 284, 3) := by decide +kernel
theorem dX10_drawn_24 : decode cX10_drawn 24 = .ok (.ldc2_w 291, 3) := by decide +kernel
theorem dX10_drawn_27 : decode cX10_drawn 27 = .ok (.ldiv, 1) := by decide +kernel
theorem dX10_drawn_28 : decode cX10_drawn 28 = .ok (.lstore_n 2, 1) := by decide +kernel
theorem dX10_drawn_29 : decode cX10_drawn 29 = .ok (.aload_n 0, 1) := by decide +kernel
theorem dX10_drawn_30 : decode cX10_drawn 30 = .ok (.ldc2_w 282, 3) := by decide +kernel
theorem dX10_drawn_33 : decode cX10_drawn 33 = .ok (.aload_n 0, 1) := by decide +kernel
theorem dX10_drawn_34 : decode cX10_drawn 34 = .ok (.getfield 284, 3) := by decide +kernel
theorem dX10_drawn_37 : decode cX10_drawn 37 = .ok (.lmul, 1) := by decide +kernel
theorem dX10_drawn_38 : decode cX10_drawn 38 = .ok (.ldc2_w 287, 3) := by decide +kernel
theorem dX10_drawn_41 : decode cX10_drawn 41 = .ok (.ladd, 1) := by decide +kernel
theorem dX10_drawn_42 : decode cX10_drawn 42 = .ok (.ldc2_w 289, 3) := by decide +kernel
theorem dX10_drawn_45 : decode cX10_drawn 45 = .ok (.lrem, 1) := by decide +kernel
theorem dX10_drawn_46 : decode cX10_drawn 46 = .ok (.putfield 284, 3) := by decide +kernel
theorem dX10_drawn_49 : decode cX10_drawn 49 = .ok (.ldc2_w 293, 3) := by decide +kernel
theorem dX10_drawn_52 : decode cX10_drawn 52 = .ok (.lload_n 2, 1) := by decide +kernel
theorem dX10_drawn_53 : decode cX10_drawn 53 = .ok (.lmul, 1) := by decide +kernel
theorem dX10_drawn_54 : decode cX10_drawn 54 = .ok (.aload_n 0, 1) := by decide +kernel
theorem dX10_drawn_55 : decode cX10_drawn 55 = .ok (.getfield 284, 3) := by decide +kernel
theorem dX10_drawn_58 : decode cX10_drawn 58 = .ok (.ldc2_w 291, 3) := by decide +kernel
theorem dX10_drawn_61 : decode cX10_drawn 61 = .ok (.ldiv, 1) := by decide +kernel
theorem dX10_drawn_62 : decode cX10_drawn 62 = .ok (.ladd, 1) := by decide +kernel
theorem dX10_drawn_63 : decode cX10_drawn 63 = .ok (.iload_n 1, 1) := by decide +kernel
theorem dX10_drawn_64 : decode cX10_drawn 64 = .ok (.i2l, 1) := by decide +kernel
theorem dX10_drawn_65 : decode cX10_drawn 65 = .ok (.lrem, 1) := by decide +kernel
theorem dX10_drawn_66 : decode cX10_drawn 66 = .ok (.l2i, 1) := by decide +kernel
theorem dX10_drawn_67 : decode cX10_drawn 67 = .ok (.ireturn, 1) := by decide +kernel
theorem dX10_mixes_0 : decode cX10_mixes 0 = .ok (.iconst 0, 1) := by decide +kernel
theorem dX10_mixes_1 : decode cX10_mixes 1 = .ok (.istore_n 3, 1) := by decide +kernel
theorem dX10_mixes_2 : decode cX10_mixes 2 = .ok (.iload_n 3, 1) := by decide +kernel
theorem dX10_mixes_3 : decode cX10_mixes 3 = .ok (.iload_n 2, 1) := by decide +kernel
theorem dX10_mixes_4 : decode cX10_mixes 4 = .ok (.if_icmp .ge 18, 3) := by decide +kernel
theorem dX10_mixes_7 : decode cX10_mixes 7 = .ok (.aload_n 0, 1) := by decide +kernel
theorem dX10_mixes_8 : decode cX10_mixes 8 = .ok (.getfield 71, 3) := by decide +kernel
theorem dX10_mixes_11 : decode cX10_mixes 11 = .ok (.iload_n 3, 1) := by decide +kernel
theorem dX10_mixes_12 : decode cX10_mixes 12 = .ok (.iload_n 1, 1) := by decide +kernel
theorem dX10_mixes_13 : decode cX10_mixes 13 = .ok (.iload_n 3, 1) := by decide +kernel
theorem dX10_mixes_14 : decode cX10_mixes 14 = .ok (.iadd, 1) := by decide +kernel
theorem dX10_mixes_15 : decode cX10_mixes 15 = .ok (.iastore, 1) := by decide +kernel
theorem dX10_mixes_16 : decode cX10_mixes 16 = .ok (.iinc 3 1, 3) := by decide +kernel
theorem dX10_mixes_19 : decode cX10_mixes 19 = .ok (.goto (-17), 3) := by decide +kernel
theorem dX10_mixes_22 : decode cX10_mixes 22 = .ok (.iload_n 2, 1) := by decide +kernel
theorem dX10_mixes_23 : decode cX10_mixes 23 = .ok (.iconst 1, 1) := by decide +kernel
theorem dX10_mixes_24 : decode cX10_mixes 24 = .ok (.isub, 1) := by decide +kernel
theorem dX10_mixes_25 : decode cX10_mixes 25 = .ok (.istore_n 3, 1) := by decide +kernel
theorem dX10_mixes_26 : decode cX10_mixes 26 = .ok (.iload_n 3, 1) := by decide +kernel
theorem dX10_mixes_27 : decode cX10_mixes 27 = .ok (.ifCond .le 48, 3) := by decide +kernel
theorem dX10_mixes_30 : decode cX10_mixes 30 = .ok (.aload_n 0, 1) := by decide +kernel
theorem dX10_mixes_31 : decode cX10_mixes 31 = .ok (.iload_n 3, 1) := by decide +kernel
theorem dX10_mixes_32 : decode cX10_mixes 32 = .ok (.iconst 1, 1) := by decide +kernel
theorem dX10_mixes_33 : decode cX10_mixes 33 = .ok (.iadd, 1) := by decide +kernel
theorem dX10_mixes_34 : decode cX10_mixes 34 = .ok (.invokevirtual 295, 3) := by decide +kernel
theorem dX10_mixes_37 : decode cX10_mixes 37 = .ok (.istore 4, 2) := by decide +kernel
theorem dX10_mixes_39 : decode cX10_mixes 39 = .ok (.aload_n 0, 1) := by decide +kernel
theorem dX10_mixes_40 : decode cX10_mixes 40 = .ok (.getfield 71, 3) := by decide +kernel
theorem dX10_mixes_43 : decode cX10_mixes 43 = .ok (.iload_n 3, 1) := by decide +kernel
theorem dX10_mixes_44 : decode cX10_mixes 44 = .ok (.iaload, 1) := by decide +kernel
theorem dX10_mixes_45 : decode cX10_mixes 45 = .ok (.istore 5, 2) := by decide +kernel
theorem dX10_mixes_47 : decode cX10_mixes 47 = .ok (.aload_n 0, 1) := by decide +kernel
theorem dX10_mixes_48 : decode cX10_mixes 48 = .ok (.getfield 71, 3) := by decide +kernel
theorem dX10_mixes_51 : decode cX10_mixes 51 = .ok (.iload_n 3, 1) := by decide +kernel
theorem dX10_mixes_52 : decode cX10_mixes 52 = .ok (.aload_n 0, 1) := by decide +kernel
theorem dX10_mixes_53 : decode cX10_mixes 53 = .ok (.getfield 71, 3) := by decide +kernel
theorem dX10_mixes_56 : decode cX10_mixes 56 = .ok (.iload 4, 2) := by decide +kernel
theorem dX10_mixes_58 : decode cX10_mixes 58 = .ok (.iaload, 1) := by decide +kernel
theorem dX10_mixes_59 : decode cX10_mixes 59 = .ok (.iastore, 1) := by decide +kernel
theorem dX10_mixes_60 : decode cX10_mixes 60 = .ok (.aload_n 0, 1) := by decide +kernel
theorem dX10_mixes_61 : decode cX10_mixes 61 = .ok (.getfield 71, 3) := by decide +kernel
theorem dX10_mixes_64 : decode cX10_mixes 64 = .ok (.iload 4, 2) := by decide +kernel
theorem dX10_mixes_66 : decode cX10_mixes 66 = .ok (.iload 5, 2) := by decide +kernel
theorem dX10_mixes_68 : decode cX10_mixes 68 = .ok (.iastore, 1) := by decide +kernel
theorem dX10_mixes_69 : decode cX10_mixes 69 = .ok (.iinc 3 (-1), 3) := by decide +kernel
theorem dX10_mixes_72 : decode cX10_mixes 72 = .ok (.goto (-46), 3) := by decide +kernel
theorem dX10_mixes_75 : decode cX10_mixes 75 = .ok (.return_, 1) := by decide +kernel
theorem dX10_callsBy_0 : decode cX10_callsBy 0 = .ok (.aload_n 0, 1) := by decide +kernel
theorem dX10_callsBy_1 : decode cX10_callsBy 1 = .ok (.lload_n 2, 1) := by decide +kernel
theorem dX10_callsBy_2 : decode cX10_callsBy 2 = .ok (.putfield 284, 3) := by decide +kernel
theorem dX10_callsBy_5 : decode cX10_callsBy 5 = .ok (.aload_n 0, 1) := by decide +kernel
theorem dX10_callsBy_6 : decode cX10_callsBy 6 = .ok (.iconst 1, 1) := by decide +kernel
theorem dX10_callsBy_7 : decode cX10_callsBy 7 = .ok (.aload_n 0, 1) := by decide +kernel
theorem dX10_callsBy_8 : decode cX10_callsBy 8 = .ok (.iload_n 1, 1) := by decide +kernel
theorem dX10_callsBy_9 : decode cX10_callsBy 9 = .ok (.invokevirtual 202, 3) := by decide +kernel
theorem dX10_callsBy_12 : decode cX10_callsBy 12 = .ok (.invokevirtual 298, 3) := by decide +kernel
theorem dX10_callsBy_15 : decode cX10_callsBy 15 = .ok (.iconst 0, 1) := by decide +kernel
theorem dX10_callsBy_16 : decode cX10_callsBy 16 = .ok (.istore 4, 2) := by decide +kernel
theorem dX10_callsBy_18 : decode cX10_callsBy 18 = .ok (.iload 4, 2) := by decide +kernel
theorem dX10_callsBy_20 : decode cX10_callsBy 20 = .ok (.aload_n 0, 1) := by decide +kernel
theorem dX10_callsBy_21 : decode cX10_callsBy 21 = .ok (.iload_n 1, 1) := by decide +kernel
theorem dX10_callsBy_22 : decode cX10_callsBy 22 = .ok (.invokevirtual 202, 3) := by decide +kernel
theorem dX10_callsBy_25 : decode cX10_callsBy 25 = .ok (.if_icmp .ge 28, 3) := by decide +kernel
theorem dX10_callsBy_28 : decode cX10_callsBy 28 = .ok (.aload_n 0, 1) := by decide +kernel
theorem dX10_callsBy_29 : decode cX10_callsBy 29 = .ok (.getfield 46, 3) := by decide +kernel
theorem dX10_callsBy_32 : decode cX10_callsBy 32 = .ok (.bipush 45, 2) := by decide +kernel
theorem dX10_callsBy_34 : decode cX10_callsBy 34 = .ok (.iload_n 1, 1) := by decide +kernel
theorem dX10_callsBy_35 : decode cX10_callsBy 35 = .ok (.imul, 1) := by decide +kernel
theorem dX10_callsBy_36 : decode cX10_callsBy 36 = .ok (.iload 4, 2) := by decide +kernel
theorem dX10_callsBy_38 : decode cX10_callsBy 38 = .ok (.iadd, 1) := by decide +kernel
theorem dX10_callsBy_39 : decode cX10_callsBy 39 = .ok (.aload_n 0, 1) := by decide +kernel
theorem dX10_callsBy_40 : decode cX10_callsBy 40 = .ok (.getfield 71, 3) := by decide +kernel
theorem dX10_callsBy_43 : decode cX10_callsBy 43 = .ok (.iload 4, 2) := by decide +kernel
theorem dX10_callsBy_45 : decode cX10_callsBy 45 = .ok (.iaload, 1) := by decide +kernel
theorem dX10_callsBy_46 : decode cX10_callsBy 46 = .ok (.iastore, 1) := by decide +kernel
theorem dX10_callsBy_47 : decode cX10_callsBy 47 = .ok (.iinc 4 1, 3) := by decide +kernel
theorem dX10_callsBy_50 : decode cX10_callsBy 50 = .ok (.goto (-32), 3) := by decide +kernel
theorem dX10_callsBy_53 : decode cX10_callsBy 53 = .ok (.return_, 1) := by decide +kernel
theorem dX10_firstOf_0 : decode cX10_firstOf 0 = .ok (.iconst 1, 1) := by decide +kernel
theorem dX10_firstOf_1 : decode cX10_firstOf 1 = .ok (.istore_n 3, 1) := by decide +kernel
theorem dX10_firstOf_2 : decode cX10_firstOf 2 = .ok (.iconst 0, 1) := by decide +kernel
theorem dX10_firstOf_3 : decode cX10_firstOf 3 = .ok (.istore 4, 2) := by decide +kernel
theorem dX10_firstOf_5 : decode cX10_firstOf 5 = .ok (.iload 4, 2) := by decide +kernel
theorem dX10_firstOf_7 : decode cX10_firstOf 7 = .ok (.iload_n 2, 1) := by decide +kernel
theorem dX10_firstOf_8 : decode cX10_firstOf 8 = .ok (.if_icmp .ge 23, 3) := by decide +kernel
theorem dX10_firstOf_11 : decode cX10_firstOf 11 = .ok (.iload_n 3, 1) := by decide +kernel
theorem dX10_firstOf_12 : decode cX10_firstOf 12 = .ok (.aload_n 0, 1) := by decide +kernel
theorem dX10_firstOf_13 : decode cX10_firstOf 13 = .ok (.getfield 37, 3) := by decide +kernel
theorem dX10_firstOf_16 : decode cX10_firstOf 16 = .ok (.iconst 5, 1) := by decide +kernel
theorem dX10_firstOf_17 : decode cX10_firstOf 17 = .ok (.iload_n 1, 1) := by decide +kernel
theorem dX10_firstOf_18 : decode cX10_firstOf 18 = .ok (.imul, 1) := by decide +kernel
theorem dX10_firstOf_19 : decode cX10_firstOf 19 = .ok (.iload 4, 2) := by decide +kernel
theorem dX10_firstOf_21 : decode cX10_firstOf 21 = .ok (.iadd, 1) := by decide +kernel
theorem dX10_firstOf_22 : decode cX10_firstOf 22 = .ok (.iaload, 1) := by decide +kernel
theorem dX10_firstOf_23 : decode cX10_firstOf 23 = .ok (.iadd, 1) := by decide +kernel
theorem dX10_firstOf_24 : decode cX10_firstOf 24 = .ok (.istore_n 3, 1) := by decide +kernel
theorem dX10_firstOf_25 : decode cX10_firstOf 25 = .ok (.iinc 4 1, 3) := by decide +kernel
theorem dX10_firstOf_28 : decode cX10_firstOf 28 = .ok (.goto (-23), 3) := by decide +kernel
theorem dX10_firstOf_31 : decode cX10_firstOf 31 = .ok (.iload_n 3, 1) := by decide +kernel
theorem dX10_firstOf_32 : decode cX10_firstOf 32 = .ok (.ireturn, 1) := by decide +kernel
theorem dX10_at_0 : decode cX10_at 0 = .ok (.bipush 45, 2) := by decide +kernel
theorem dX10_at_2 : decode cX10_at 2 = .ok (.iload_n 1, 1) := by decide +kernel
theorem dX10_at_3 : decode cX10_at 3 = .ok (.imul, 1) := by decide +kernel
theorem dX10_at_4 : decode cX10_at 4 = .ok (.bipush 15, 2) := by decide +kernel
theorem dX10_at_6 : decode cX10_at 6 = .ok (.iload_n 2, 1) := by decide +kernel
theorem dX10_at_7 : decode cX10_at 7 = .ok (.imul, 1) := by decide +kernel
theorem dX10_at_8 : decode cX10_at 8 = .ok (.iadd, 1) := by decide +kernel
theorem dX10_at_9 : decode cX10_at 9 = .ok (.iconst 5, 1) := by decide +kernel
theorem dX10_at_10 : decode cX10_at 10 = .ok (.iload_n 3, 1) := by decide +kernel
theorem dX10_at_11 : decode cX10_at 11 = .ok (.imul, 1) := by decide +kernel
theorem dX10_at_12 : decode cX10_at 12 = .ok (.iadd, 1) := by decide +kernel
theorem dX10_at_13 : decode cX10_at 13 = .ok (.iload 4, 2) := by decide +kernel
theorem dX10_at_15 : decode cX10_at 15 = .ok (.iadd, 1) := by decide +kernel
theorem dX10_at_16 : decode cX10_at 16 = .ok (.ireturn, 1) := by decide +kernel
theorem dX10_makes_0 : decode cX10_makes 0 = .ok (.aload_n 0, 1) := by decide +kernel
theorem dX10_makes_1 : decode cX10_makes 1 = .ok (.iload_n 2, 1) := by decide +kernel
theorem dX10_makes_2 : decode cX10_makes 2 = .ok (.i2l, 1) := by decide +kernel
theorem dX10_makes_3 : decode cX10_makes 3 = .ok (.putfield 284, 3) := by decide +kernel
theorem dX10_makes_6 : decode cX10_makes 6 = .ok (.aload_n 0, 1) := by decide +kernel
theorem dX10_makes_7 : decode cX10_makes 7 = .ok (.iload_n 1, 1) := by decide +kernel
theorem dX10_makes_8 : decode cX10_makes 8 = .ok (.iconst (-1), 1) := by decide +kernel
theorem dX10_makes_9 : decode cX10_makes 9 = .ok (.invokevirtual 206, 3) := by decide +kernel
theorem dX10_makes_12 : decode cX10_makes 12 = .ok (.aload_n 0, 1) := by decide +kernel
theorem dX10_makes_13 : decode cX10_makes 13 = .ok (.aload_n 0, 1) := by decide +kernel
theorem dX10_makes_14 : decode cX10_makes 14 = .ok (.aload_n 0, 1) := by decide +kernel
theorem dX10_makes_15 : decode cX10_makes 15 = .ok (.getfield 210, 3) := by decide +kernel
theorem dX10_makes_18 : decode cX10_makes 18 = .ok (.invokevirtual 295, 3) := by decide +kernel
theorem dX10_makes_21 : decode cX10_makes 21 = .ok (.putfield 301, 3) := by decide +kernel
theorem dX10_makes_24 : decode cX10_makes 24 = .ok (.aload_n 0, 1) := by decide +kernel
theorem dX10_makes_25 : decode cX10_makes 25 = .ok (.iload_n 1, 1) := by decide +kernel
theorem dX10_makes_26 : decode cX10_makes 26 = .ok (.aload_n 0, 1) := by decide +kernel
theorem dX10_makes_27 : decode cX10_makes 27 = .ok (.getfield 301, 3) := by decide +kernel
theorem dX10_makes_30 : decode cX10_makes 30 = .ok (.invokevirtual 206, 3) := by decide +kernel
theorem dX10_makes_33 : decode cX10_makes 33 = .ok (.iconst 0, 1) := by decide +kernel
theorem dX10_makes_34 : decode cX10_makes 34 = .ok (.istore 4, 2) := by decide +kernel
theorem dX10_makes_36 : decode cX10_makes 36 = .ok (.iload 4, 2) := by decide +kernel
theorem dX10_makes_38 : decode cX10_makes 38 = .ok (.aload_n 0, 1) := by decide +kernel
theorem dX10_makes_39 : decode cX10_makes 39 = .ok (.iload_n 1, 1) := by decide +kernel
theorem dX10_makes_40 : decode cX10_makes 40 = .ok (.iconst 0, 1) := by decide +kernel
theorem dX10_makes_41 : decode cX10_makes 41 = .ok (.invokevirtual 177, 3) := by decide +kernel
theorem dX10_makes_44 : decode cX10_makes 44 = .ok (.if_icmp .ge 111, 3) := by decide +kernel
theorem dX10_makes_47 : decode cX10_makes 47 = .ok (.iconst 0, 1) := by decide +kernel
theorem dX10_makes_48 : decode cX10_makes 48 = .ok (.istore 5, 2) := by decide +kernel
theorem dX10_makes_50 : decode cX10_makes 50 = .ok (.iload 5, 2) := by decide +kernel
theorem dX10_makes_52 : decode cX10_makes 52 = .ok (.iconst 5, 1) := by decide +kernel
theorem dX10_makes_53 : decode cX10_makes 53 = .ok (.if_icmp .ge 43, 3) := by decide +kernel
theorem dX10_makes_56 : decode cX10_makes 56 = .ok (.aload_n 0, 1) := by decide +kernel
theorem dX10_makes_57 : decode cX10_makes 57 = .ok (.getfield 62, 3) := by decide +kernel
theorem dX10_makes_60 : decode cX10_makes 60 = .ok (.iload 5, 2) := by decide +kernel
theorem dX10_makes_62 : decode cX10_makes 62 = .ok (.iload 5, 2) := by decide +kernel
theorem dX10_makes_64 : decode cX10_makes 64 = .ok (.aload_n 0, 1) := by decide +kernel
theorem dX10_makes_65 : decode cX10_makes 65 = .ok (.iload_n 1, 1) := by decide +kernel
theorem dX10_makes_66 : decode cX10_makes 66 = .ok (.iconst 3, 1) := by decide +kernel
theorem dX10_makes_67 : decode cX10_makes 67 = .ok (.invokevirtual 177, 3) := by decide +kernel
theorem dX10_makes_70 : decode cX10_makes 70 = .ok (.if_icmp .ge 18, 3) := by decide +kernel
theorem dX10_makes_73 : decode cX10_makes 73 = .ok (.aload_n 0, 1) := by decide +kernel
theorem dX10_makes_74 : decode cX10_makes 74 = .ok (.getfield 56, 3) := by decide +kernel
theorem dX10_makes_77 : decode cX10_makes 77 = .ok (.iconst 5, 1) := by decide +kernel
theorem dX10_makes_78 : decode cX10_makes 78 = .ok (.iload 4, 2) := by decide +kernel
theorem dX10_makes_80 : decode cX10_makes 80 = .ok (.imul, 1) := by decide +kernel
theorem dX10_makes_81 : decode cX10_makes 81 = .ok (.iload 5, 2) := by decide +kernel
theorem dX10_makes_83 : decode cX10_makes 83 = .ok (.iadd, 1) := by decide +kernel
theorem dX10_makes_84 : decode cX10_makes 84 = .ok (.iaload, 1) := by decide +kernel
theorem dX10_makes_85 : decode cX10_makes 85 = .ok (.goto 4, 3) := by decide +kernel
theorem dX10_makes_88 : decode cX10_makes 88 = .ok (.iconst 0, 1) := by decide +kernel
theorem dX10_makes_89 : decode cX10_makes 89 = .ok (.iastore, 1) := by decide +kernel
theorem dX10_makes_90 : decode cX10_makes 90 = .ok (.iinc 5 1, 3) := by decide +kernel
theorem dX10_makes_93 : decode cX10_makes 93 = .ok (.goto (-43), 3) := by decide +kernel
theorem dX10_makes_96 : decode cX10_makes 96 = .ok (.aload_n 0, 1) := by decide +kernel
theorem dX10_makes_97 : decode cX10_makes 97 = .ok (.iload_n 1, 1) := by decide +kernel
theorem dX10_makes_98 : decode cX10_makes 98 = .ok (.iconst (-1), 1) := by decide +kernel
theorem dX10_makes_99 : decode cX10_makes 99 = .ok (.invokevirtual 304, 3) := by decide +kernel
theorem dX10_makes_102 : decode cX10_makes 102 = .ok (.aload_n 0, 1) := by decide +kernel
theorem dX10_makes_103 : decode cX10_makes 103 = .ok (.iload_n 1, 1) := by decide +kernel
theorem dX10_makes_104 : decode cX10_makes 104 = .ok (.aload_n 0, 1) := by decide +kernel
theorem dX10_makes_105 : decode cX10_makes 105 = .ok (.aload_n 0, 1) := by decide +kernel
theorem dX10_makes_106 : decode cX10_makes 106 = .ok (.getfield 270, 3) := by decide +kernel
theorem dX10_makes_109 : decode cX10_makes 109 = .ok (.invokevirtual 295, 3) := by decide +kernel
theorem dX10_makes_112 : decode cX10_makes 112 = .ok (.invokevirtual 304, 3) := by decide +kernel
theorem dX10_makes_115 : decode cX10_makes 115 = .ok (.iconst 0, 1) := by decide +kernel
theorem dX10_makes_116 : decode cX10_makes 116 = .ok (.istore 5, 2) := by decide +kernel
theorem dX10_makes_118 : decode cX10_makes 118 = .ok (.iload 5, 2) := by decide +kernel
theorem dX10_makes_120 : decode cX10_makes 120 = .ok (.iconst 3, 1) := by decide +kernel
theorem dX10_makes_121 : decode cX10_makes 121 = .ok (.if_icmp .ge 28, 3) := by decide +kernel
theorem dX10_makes_124 : decode cX10_makes 124 = .ok (.aload_n 0, 1) := by decide +kernel
theorem dX10_makes_125 : decode cX10_makes 125 = .ok (.getfield 77, 3) := by decide +kernel
theorem dX10_makes_128 : decode cX10_makes 128 = .ok (.iconst 3, 1) := by decide +kernel
theorem dX10_makes_129 : decode cX10_makes 129 = .ok (.iload 4, 2) := by decide +kernel
theorem dX10_makes_131 : decode cX10_makes 131 = .ok (.imul, 1) := by decide +kernel
theorem dX10_makes_132 : decode cX10_makes 132 = .ok (.iload 5, 2) := by decide +kernel
theorem dX10_makes_134 : decode cX10_makes 134 = .ok (.iadd, 1) := by decide +kernel
theorem dX10_makes_135 : decode cX10_makes 135 = .ok (.aload_n 0, 1) := by decide +kernel
theorem dX10_makes_136 : decode cX10_makes 136 = .ok (.getfield 68, 3) := by decide +kernel
theorem dX10_makes_139 : decode cX10_makes 139 = .ok (.iload 5, 2) := by decide +kernel
theorem dX10_makes_141 : decode cX10_makes 141 = .ok (.iaload, 1) := by decide +kernel
theorem dX10_makes_142 : decode cX10_makes 142 = .ok (.iastore, 1) := by decide +kernel
theorem dX10_makes_143 : decode cX10_makes 143 = .ok (.iinc 5 1, 3) := by decide +kernel
theorem dX10_makes_146 : decode cX10_makes 146 = .ok (.goto (-28), 3) := by decide +kernel
theorem dX10_makes_149 : decode cX10_makes 149 = .ok (.iinc 4 1, 3) := by decide +kernel
theorem dX10_makes_152 : decode cX10_makes 152 = .ok (.goto (-116), 3) := by decide +kernel
theorem dX10_makes_155 : decode cX10_makes 155 = .ok (.iconst 0, 1) := by decide +kernel
theorem dX10_makes_156 : decode cX10_makes 156 = .ok (.istore 4, 2) := by decide +kernel
theorem dX10_makes_158 : decode cX10_makes 158 = .ok (.iload 4, 2) := by decide +kernel
theorem dX10_makes_160 : decode cX10_makes 160 = .ok (.bipush 45, 2) := by decide +kernel
theorem dX10_makes_162 : decode cX10_makes 162 = .ok (.if_icmp .ge 22, 3) := by decide +kernel
theorem dX10_makes_165 : decode cX10_makes 165 = .ok (.aload_n 0, 1) := by decide +kernel
theorem dX10_makes_166 : decode cX10_makes 166 = .ok (.getfield 74, 3) := by decide +kernel
theorem dX10_makes_169 : decode cX10_makes 169 = .ok (.bipush 45, 2) := by decide +kernel
theorem dX10_makes_171 : decode cX10_makes 171 = .ok (.iload_n 3, 1) := by decide +kernel
theorem dX10_makes_172 : decode cX10_makes 172 = .ok (.imul, 1) := by decide +kernel
theorem dX10_makes_173 : decode cX10_makes 173 = .ok (.iload 4, 2) := by decide +kernel
theorem dX10_makes_175 : decode cX10_makes 175 = .ok (.iadd, 1) := by decide +kernel
theorem dX10_makes_176 : decode cX10_makes 176 = .ok (.iconst 0, 1) := by decide +kernel
theorem dX10_makes_177 : decode cX10_makes 177 = .ok (.iastore, 1) := by decide +kernel
theorem dX10_makes_178 : decode cX10_makes 178 = .ok (.iinc 4 1, 3) := by decide +kernel
theorem dX10_makes_181 : decode cX10_makes 181 = .ok (.goto (-23), 3) := by decide +kernel
theorem dX10_makes_184 : decode cX10_makes 184 = .ok (.iconst 0, 1) := by decide +kernel
theorem dX10_makes_185 : decode cX10_makes 185 = .ok (.istore 4, 2) := by decide +kernel
theorem dX10_makes_187 : decode cX10_makes 187 = .ok (.iload 4, 2) := by decide +kernel
theorem dX10_makes_189 : decode cX10_makes 189 = .ok (.aload_n 0, 1) := by decide +kernel
theorem dX10_makes_190 : decode cX10_makes 190 = .ok (.iload_n 1, 1) := by decide +kernel
theorem dX10_makes_191 : decode cX10_makes 191 = .ok (.iconst 3, 1) := by decide +kernel
theorem dX10_makes_192 : decode cX10_makes 192 = .ok (.invokevirtual 177, 3) := by decide +kernel
theorem dX10_makes_195 : decode cX10_makes 195 = .ok (.if_icmp .ge 94, 3) := by decide +kernel
theorem dX10_makes_198 : decode cX10_makes 198 = .ok (.aload_n 0, 1) := by decide +kernel
theorem dX10_makes_199 : decode cX10_makes 199 = .ok (.aload_n 0, 1) := by decide +kernel
theorem dX10_makes_200 : decode cX10_makes 200 = .ok (.iload_n 1, 1) := by decide +kernel
theorem dX10_makes_201 : decode cX10_makes 201 = .ok (.iload 4, 2) := by decide +kernel
theorem dX10_makes_203 : decode cX10_makes 203 = .ok (.invokevirtual 307, 3) := by decide +kernel
theorem dX10_makes_206 : decode cX10_makes 206 = .ok (.aload_n 0, 1) := by decide +kernel
theorem dX10_makes_207 : decode cX10_makes 207 = .ok (.getfield 37, 3) := by decide +kernel
theorem dX10_makes_210 : decode cX10_makes 210 = .ok (.iconst 5, 1) := by decide +kernel
theorem dX10_makes_211 : decode cX10_makes 211 = .ok (.iload_n 1, 1) := by decide +kernel
theorem dX10_makes_212 : decode cX10_makes 212 = .ok (.imul, 1) := by decide +kernel
theorem dX10_makes_213 : decode cX10_makes 213 = .ok (.iload 4, 2) := by decide +kernel
theorem dX10_makes_215 : decode cX10_makes 215 = .ok (.iadd, 1) := by decide +kernel
theorem dX10_makes_216 : decode cX10_makes 216 = .ok (.iaload, 1) := by decide +kernel
theorem dX10_makes_217 : decode cX10_makes 217 = .ok (.invokevirtual 298, 3) := by decide +kernel
theorem dX10_makes_220 : decode cX10_makes 220 = .ok (.iconst 0, 1) := by decide +kernel
theorem dX10_makes_221 : decode cX10_makes 221 = .ok (.istore 5, 2) := by decide +kernel
theorem dX10_makes_223 : decode cX10_makes 223 = .ok (.iconst 0, 1) := by decide +kernel
theorem dX10_makes_224 : decode cX10_makes 224 = .ok (.istore 6, 2) := by decide +kernel
theorem dX10_makes_226 : decode cX10_makes 226 = .ok (.iload 6, 2) := by decide +kernel
theorem dX10_makes_228 : decode cX10_makes 228 = .ok (.aload_n 0, 1) := by decide +kernel
theorem dX10_makes_229 : decode cX10_makes 229 = .ok (.iload_n 1, 1) := by decide +kernel
theorem dX10_makes_230 : decode cX10_makes 230 = .ok (.iconst 0, 1) := by decide +kernel
theorem dX10_makes_231 : decode cX10_makes 231 = .ok (.invokevirtual 177, 3) := by decide +kernel
theorem dX10_makes_234 : decode cX10_makes 234 = .ok (.if_icmp .ge 49, 3) := by decide +kernel
theorem dX10_makes_237 : decode cX10_makes 237 = .ok (.aload_n 0, 1) := by decide +kernel
theorem dX10_makes_238 : decode cX10_makes 238 = .ok (.getfield 56, 3) := by decide +kernel
theorem dX10_makes_241 : decode cX10_makes 241 = .ok (.iconst 5, 1) := by decide +kernel
theorem dX10_makes_242 : decode cX10_makes 242 = .ok (.iload 6, 2) := by decide +kernel
theorem dX10_makes_244 : decode cX10_makes 244 = .ok (.imul, 1) := by decide +kernel
theorem dX10_makes_245 : decode cX10_makes 245 = .ok (.iload 4, 2) := by decide +kernel
theorem dX10_makes_247 : decode cX10_makes 247 = .ok (.iadd, 1) := by decide +kernel
theorem dX10_makes_248 : decode cX10_makes 248 = .ok (.iaload, 1) := by decide +kernel
theorem dX10_makes_249 : decode cX10_makes 249 = .ok (.istore 7, 2) := by decide +kernel
theorem dX10_makes_251 : decode cX10_makes 251 = .ok (.aload_n 0, 1) := by decide +kernel
theorem dX10_makes_252 : decode cX10_makes 252 = .ok (.iload_n 3, 1) := by decide +kernel
theorem dX10_makes_253 : decode cX10_makes 253 = .ok (.iload 6, 2) := by decide +kernel
theorem dX10_makes_255 : decode cX10_makes 255 = .ok (.iload 4, 2) := by decide +kernel
theorem dX10_makes_257 : decode cX10_makes 257 = .ok (.iload 5, 2) := by decide +kernel
theorem dX10_makes_259 : decode cX10_makes 259 = .ok (.iload 7, 2) := by decide +kernel
theorem dX10_makes_261 : decode cX10_makes 261 = .ok (.aload_n 0, 1) := by decide +kernel
theorem dX10_makes_262 : decode cX10_makes 262 = .ok (.iload_n 1, 1) := by decide +kernel
theorem dX10_makes_263 : decode cX10_makes 263 = .ok (.iconst 1, 1) := by decide +kernel
theorem dX10_makes_264 : decode cX10_makes 264 = .ok (.invokevirtual 177, 3) := by decide +kernel
theorem dX10_makes_267 : decode cX10_makes 267 = .ok (.invokevirtual 310, 3) := by decide +kernel
theorem dX10_makes_270 : decode cX10_makes 270 = .ok (.iload 5, 2) := by decide +kernel
theorem dX10_makes_272 : decode cX10_makes 272 = .ok (.iload 7, 2) := by decide +kernel
theorem dX10_makes_274 : decode cX10_makes 274 = .ok (.iadd, 1) := by decide +kernel
theorem dX10_makes_275 : decode cX10_makes 275 = .ok (.istore 5, 2) := by decide +kernel
theorem dX10_makes_277 : decode cX10_makes 277 = .ok (.iinc 6 1, 3) := by decide +kernel
theorem dX10_makes_280 : decode cX10_makes 280 = .ok (.goto (-54), 3) := by decide +kernel
theorem dX10_makes_283 : decode cX10_makes 283 = .ok (.iinc 4 1, 3) := by decide +kernel
theorem dX10_makes_286 : decode cX10_makes 286 = .ok (.goto (-99), 3) := by decide +kernel
theorem dX10_makes_289 : decode cX10_makes 289 = .ok (.return_, 1) := by decide +kernel
theorem dX10_lays_0 : decode cX10_lays 0 = .ok (.iconst 0, 1) := by decide +kernel
theorem dX10_lays_1 : decode cX10_lays 1 = .ok (.istore 7, 2) := by decide +kernel
theorem dX10_lays_3 : decode cX10_lays 3 = .ok (.iconst 0, 1) := by decide +kernel
theorem dX10_lays_4 : decode cX10_lays 4 = .ok (.istore 8, 2) := by decide +kernel
theorem dX10_lays_6 : decode cX10_lays 6 = .ok (.iload 8, 2) := by decide +kernel
theorem dX10_lays_8 : decode cX10_lays 8 = .ok (.iload 6, 2) := by decide +kernel
theorem dX10_lays_10 : decode cX10_lays 10 = .ok (.if_icmp .ge 111, 3) := by decide +kernel
theorem dX10_lays_13 : decode cX10_lays 13 = .ok (.aload_n 0, 1) := by decide +kernel
theorem dX10_lays_14 : decode cX10_lays 14 = .ok (.getfield 77, 3) := by decide +kernel
theorem dX10_lays_17 : decode cX10_lays 17 = .ok (.iconst 3, 1) := by decide +kernel
theorem dX10_lays_18 : decode cX10_lays 18 = .ok (.iload_n 2, 1) := by decide +kernel
theorem dX10_lays_19 : decode cX10_lays 19 = .ok (.imul, 1) := by decide +kernel
theorem dX10_lays_20 : decode cX10_lays 20 = .ok (.iload 8, 2) := by decide +kernel
theorem dX10_lays_22 : decode cX10_lays 22 = .ok (.iadd, 1) := by decide +kernel
theorem dX10_lays_23 : decode cX10_lays 23 = .ok (.iaload, 1) := by decide +kernel
theorem dX10_lays_24 : decode cX10_lays 24 = .ok (.iload_n 3, 1) := by decide +kernel
theorem dX10_lays_25 : decode cX10_lays 25 = .ok (.ishr, 1) := by decide +kernel
theorem dX10_lays_26 : decode cX10_lays 26 = .ok (.iconst 1, 1) := by decide +kernel
theorem dX10_lays_27 : decode cX10_lays 27 = .ok (.iand, 1) := by decide +kernel
theorem dX10_lays_28 : decode cX10_lays 28 = .ok (.ifCond .ne 6, 3) := by decide +kernel
theorem dX10_lays_31 : decode cX10_lays 31 = .ok (.goto 84, 3) := by decide +kernel
theorem dX10_lays_34 : decode cX10_lays 34 = .ok (.iconst 0, 1) := by decide +kernel
theorem dX10_lays_35 : decode cX10_lays 35 = .ok (.istore 9, 2) := by decide +kernel
theorem dX10_lays_37 : decode cX10_lays 37 = .ok (.iload 4, 2) := by decide +kernel
theorem dX10_lays_39 : decode cX10_lays 39 = .ok (.istore 10, 2) := by decide +kernel
theorem dX10_lays_41 : decode cX10_lays 41 = .ok (.iload 10, 2) := by decide +kernel
theorem dX10_lays_43 : decode cX10_lays 43 = .ok (.iload 4, 2) := by decide +kernel
theorem dX10_lays_45 : decode cX10_lays 45 = .ok (.iload 5, 2) := by decide +kernel
theorem dX10_lays_47 : decode cX10_lays 47 = .ok (.iadd, 1) := by decide +kernel
theorem dX10_lays_48 : decode cX10_lays 48 = .ok (.if_icmp .ge 47, 3) := by decide +kernel
theorem dX10_lays_51 : decode cX10_lays 51 = .ok (.aload_n 0, 1) := by decide +kernel
theorem dX10_lays_52 : decode cX10_lays 52 = .ok (.getfield 71, 3) := by decide +kernel
theorem dX10_lays_55 : decode cX10_lays 55 = .ok (.iload 10, 2) := by decide +kernel
theorem dX10_lays_57 : decode cX10_lays 57 = .ok (.iaload, 1) := by decide +kernel
theorem dX10_lays_58 : decode cX10_lays 58 = .ok (.iload 7, 2) := by decide +kernel
theorem dX10_lays_60 : decode cX10_lays 60 = .ok (.if_icmp .le 29, 3) := by decide +kernel
theorem dX10_lays_63 : decode cX10_lays 63 = .ok (.iload 9, 2) := by decide +kernel
theorem dX10_lays_65 : decode cX10_lays 65 = .ok (.ifCond .eq 15, 3) := by decide +kernel
theorem dX10_lays_68 : decode cX10_lays 68 = .ok (.aload_n 0, 1) := by decide +kernel
theorem dX10_lays_69 : decode cX10_lays 69 = .ok (.getfield 71, 3) := by decide +kernel
theorem dX10_lays_72 : decode cX10_lays 72 = .ok (.iload 10, 2) := by decide +kernel
theorem dX10_lays_74 : decode cX10_lays 74 = .ok (.iaload, 1) := by decide +kernel
theorem dX10_lays_75 : decode cX10_lays 75 = .ok (.iload 9, 2) := by decide +kernel
theorem dX10_lays_77 : decode cX10_lays 77 = .ok (.if_icmp .ge 12, 3) := by decide +kernel
theorem dX10_lays_80 : decode cX10_lays 80 = .ok (.aload_n 0, 1) := by decide +kernel
theorem dX10_lays_81 : decode cX10_lays 81 = .ok (.getfield 71, 3) := by decide +kernel
theorem dX10_lays_84 : decode cX10_lays 84 = .ok (.iload 10, 2) := by decide +kernel
theorem dX10_lays_86 : decode cX10_lays 86 = .ok (.iaload, 1) := by decide +kernel
theorem dX10_lays_87 : decode cX10_lays 87 = .ok (.istore 9, 2) := by decide +kernel
theorem dX10_lays_89 : decode cX10_lays 89 = .ok (.iinc 10 1, 3) := by decide +kernel
theorem dX10_lays_92 : decode cX10_lays 92 = .ok (.goto (-51), 3) := by decide +kernel
theorem dX10_lays_95 : decode cX10_lays 95 = .ok (.aload_n 0, 1) := by decide +kernel
theorem dX10_lays_96 : decode cX10_lays 96 = .ok (.getfield 74, 3) := by decide +kernel
theorem dX10_lays_99 : decode cX10_lays 99 = .ok (.aload_n 0, 1) := by decide +kernel
theorem dX10_lays_100 : decode cX10_lays 100 = .ok (.iload_n 1, 1) := by decide +kernel
theorem dX10_lays_101 : decode cX10_lays 101 = .ok (.iload_n 2, 1) := by decide +kernel
theorem dX10_lays_102 : decode cX10_lays 102 = .ok (.iload 8, 2) := by decide +kernel
theorem dX10_lays_104 : decode cX10_lays 104 = .ok (.iload_n 3, 1) := by decide +kernel
theorem dX10_lays_105 : decode cX10_lays 105 = .ok (.invokevirtual 314, 3) := by decide +kernel
theorem dX10_lays_108 : decode cX10_lays 108 = .ok (.iload 9, 2) := by decide +kernel
theorem dX10_lays_110 : decode cX10_lays 110 = .ok (.iastore, 1) := by decide +kernel
theorem dX10_lays_111 : decode cX10_lays 111 = .ok (.iload 9, 2) := by decide +kernel
theorem dX10_lays_113 : decode cX10_lays 113 = .ok (.istore 7, 2) := by decide +kernel
theorem dX10_lays_115 : decode cX10_lays 115 = .ok (.iinc 8 1, 3) := by decide +kernel
theorem dX10_lays_118 : decode cX10_lays 118 = .ok (.goto (-112), 3) := by decide +kernel
theorem dX10_lays_121 : decode cX10_lays 121 = .ok (.return_, 1) := by decide +kernel
theorem dX10_areSame_0 : decode cX10_areSame 0 = .ok (.aload_n 0, 1) := by decide +kernel
theorem dX10_areSame_1 : decode cX10_areSame 1 = .ok (.iload_n 1, 1) := by decide +kernel
theorem dX10_areSame_2 : decode cX10_areSame 2 = .ok (.iload_n 2, 1) := by decide +kernel
theorem dX10_areSame_3 : decode cX10_areSame 3 = .ok (.iconst 0, 1) := by decide +kernel
theorem dX10_areSame_4 : decode cX10_areSame 4 = .ok (.invokevirtual 317, 3) := by decide +kernel
theorem dX10_areSame_7 : decode cX10_areSame 7 = .ok (.aload_n 0, 1) := by decide +kernel
theorem dX10_areSame_8 : decode cX10_areSame 8 = .ok (.iload_n 1, 1) := by decide +kernel
theorem dX10_areSame_9 : decode cX10_areSame 9 = .ok (.iload_n 3, 1) := by decide +kernel
theorem dX10_areSame_10 : decode cX10_areSame 10 = .ok (.iconst 1, 1) := by decide +kernel
theorem dX10_areSame_11 : decode cX10_areSame 11 = .ok (.invokevirtual 317, 3) := by decide +kernel
theorem dX10_areSame_14 : decode cX10_areSame 14 = .ok (.iconst 0, 1) := by decide +kernel
theorem dX10_areSame_15 : decode cX10_areSame 15 = .ok (.istore 4, 2) := by decide +kernel
theorem dX10_areSame_17 : decode cX10_areSame 17 = .ok (.iload 4, 2) := by decide +kernel
theorem dX10_areSame_19 : decode cX10_areSame 19 = .ok (.bipush 45, 2) := by decide +kernel
theorem dX10_areSame_21 : decode cX10_areSame 21 = .ok (.if_icmp .ge 31, 3) := by decide +kernel
theorem dX10_areSame_24 : decode cX10_areSame 24 = .ok (.aload_n 0, 1) := by decide +kernel
theorem dX10_areSame_25 : decode cX10_areSame 25 = .ok (.getfield 74, 3) := by decide +kernel
theorem dX10_areSame_28 : decode cX10_areSame 28 = .ok (.iload 4, 2) := by decide +kernel
theorem dX10_areSame_30 : decode cX10_areSame 30 = .ok (.iaload, 1) := by decide +kernel
theorem dX10_areSame_31 : decode cX10_areSame 31 = .ok (.aload_n 0, 1) := by decide +kernel
theorem dX10_areSame_32 : decode cX10_areSame 32 = .ok (.getfield 74, 3) := by decide +kernel
theorem dX10_areSame_35 : decode cX10_areSame 35 = .ok (.bipush 45, 2) := by decide +kernel
theorem dX10_areSame_37 : decode cX10_areSame 37 = .ok (.iload 4, 2) := by decide +kernel
theorem dX10_areSame_39 : decode cX10_areSame 39 = .ok (.iadd, 1) := by decide +kernel
theorem dX10_areSame_40 : decode cX10_areSame 40 = .ok (.iaload, 1) := by decide +kernel
theorem dX10_areSame_41 : decode cX10_areSame 41 = .ok (.if_icmp .eq 5, 3) := by decide +kernel
theorem dX10_areSame_44 : decode cX10_areSame 44 = .ok (.iconst 0, 1) := by decide +kernel
theorem dX10_areSame_45 : decode cX10_areSame 45 = .ok (.ireturn, 1) := by decide +kernel
theorem dX10_areSame_46 : decode cX10_areSame 46 = .ok (.iinc 4 1, 3) := by decide +kernel
theorem dX10_areSame_49 : decode cX10_areSame 49 = .ok (.goto (-32), 3) := by decide +kernel
theorem dX10_areSame_52 : decode cX10_areSame 52 = .ok (.iconst 1, 1) := by decide +kernel
theorem dX10_areSame_53 : decode cX10_areSame 53 = .ok (.ireturn, 1) := by decide +kernel
theorem dX10_isSoldIn_0 : decode cX10_isSoldIn 0 = .ok (.iconst 0, 1) := by decide +kernel
theorem dX10_isSoldIn_1 : decode cX10_isSoldIn 1 = .ok (.istore_n 3, 1) := by decide +kernel
theorem dX10_isSoldIn_2 : decode cX10_isSoldIn 2 = .ok (.iload_n 3, 1) := by decide +kernel
theorem dX10_isSoldIn_3 : decode cX10_isSoldIn 3 = .ok (.aload_n 0, 1) := by decide +kernel
theorem dX10_isSoldIn_4 : decode cX10_isSoldIn 4 = .ok (.iload_n 1, 1) := by decide +kernel
theorem dX10_isSoldIn_5 : decode cX10_isSoldIn 5 = .ok (.iconst 4, 1) := by decide +kernel
theorem dX10_isSoldIn_6 : decode cX10_isSoldIn 6 = .ok (.invokevirtual 177, 3) := by decide +kernel
theorem dX10_isSoldIn_9 : decode cX10_isSoldIn 9 = .ok (.if_icmp .ge 31, 3) := by decide +kernel
theorem dX10_isSoldIn_12 : decode cX10_isSoldIn 12 = .ok (.aload_n 0, 1) := by decide +kernel
theorem dX10_isSoldIn_13 : decode cX10_isSoldIn 13 = .ok (.iload_n 1, 1) := by decide +kernel
theorem dX10_isSoldIn_14 : decode cX10_isSoldIn 14 = .ok (.aload_n 0, 1) := by decide +kernel
theorem dX10_isSoldIn_15 : decode cX10_isSoldIn 15 = .ok (.getfield 43, 3) := by decide +kernel
theorem dX10_isSoldIn_18 : decode cX10_isSoldIn 18 = .ok (.bipush 8, 2) := by decide +kernel
theorem dX10_isSoldIn_20 : decode cX10_isSoldIn 20 = .ok (.iload_n 1, 1) := by decide +kernel
theorem dX10_isSoldIn_21 : decode cX10_isSoldIn 21 = .ok (.imul, 1) := by decide +kernel
theorem dX10_isSoldIn_22 : decode cX10_isSoldIn 22 = .ok (.iload_n 3, 1) := by decide +kernel
theorem dX10_isSoldIn_23 : decode cX10_isSoldIn 23 = .ok (.iadd, 1) := by decide +kernel
theorem dX10_isSoldIn_24 : decode cX10_isSoldIn 24 = .ok (.iaload, 1) := by decide +kernel
theorem dX10_isSoldIn_25 : decode cX10_isSoldIn 25 = .ok (.iload_n 2, 1) := by decide +kernel
theorem dX10_isSoldIn_26 : decode cX10_isSoldIn 26 = .ok (.invokevirtual 321, 3) := by decide +kernel
theorem dX10_isSoldIn_29 : decode cX10_isSoldIn 29 = .ok (.ifCond .eq 5, 3) := by decide +kernel
theorem dX10_isSoldIn_32 : decode cX10_isSoldIn 32 = .ok (.iconst 1, 1) := by decide +kernel
theorem dX10_isSoldIn_33 : decode cX10_isSoldIn 33 = .ok (.ireturn, 1) := by decide +kernel
theorem dX10_isSoldIn_34 : decode cX10_isSoldIn 34 = .ok (.iinc 3 1, 3) := by decide +kernel
theorem dX10_isSoldIn_37 : decode cX10_isSoldIn 37 = .ok (.goto (-35), 3) := by decide +kernel
theorem dX10_isSoldIn_40 : decode cX10_isSoldIn 40 = .ok (.iconst 0, 1) := by decide +kernel
theorem dX10_isSoldIn_41 : decode cX10_isSoldIn 41 = .ok (.ireturn, 1) := by decide +kernel
theorem dX10_isSerial_0 : decode cX10_isSerial 0 = .ok (.aload_n 0, 1) := by decide +kernel
theorem dX10_isSerial_1 : decode cX10_isSerial 1 = .ok (.invokevirtual 324, 3) := by decide +kernel
theorem dX10_isSerial_4 : decode cX10_isSerial 4 = .ok (.ifCond .eq 19, 3) := by decide +kernel
theorem dX10_isSerial_7 : decode cX10_isSerial 7 = .ok (.iload_n 1, 1) := by decide +kernel
theorem dX10_isSerial_8 : decode cX10_isSerial 8 = .ok (.i2l, 1) := by decide +kernel
theorem dX10_isSerial_9 : decode cX10_isSerial 9 = .ok (.lconst 0, 1) := by decide +kernel
theorem dX10_isSerial_10 : decode cX10_isSerial 10 = .ok (.ldc2_w 327, 3) := by decide +kernel
theorem dX10_isSerial_13 : decode cX10_isSerial 13 = .ok (.invokestatic 100, 3) := by decide +kernel
theorem dX10_isSerial_16 : decode cX10_isSerial 16 = .ok (.ifCond .eq 7, 3) := by decide +kernel
theorem dX10_isSerial_19 : decode cX10_isSerial 19 = .ok (.iconst 1, 1) := by decide +kernel
theorem dX10_isSerial_20 : decode cX10_isSerial 20 = .ok (.goto 4, 3) := by decide +kernel
theorem dX10_isSerial_23 : decode cX10_isSerial 23 = .ok (.iconst 0, 1) := by decide +kernel
theorem dX10_isSerial_24 : decode cX10_isSerial 24 = .ok (.ireturn, 1) := by decide +kernel
theorem dX10_isCard_0 : decode cX10_isCard 0 = .ok (.iload_n 1, 1) := by decide +kernel
theorem dX10_isCard_1 : decode cX10_isCard 1 = .ok (.i2l, 1) := by decide +kernel
theorem dX10_isCard_2 : decode cX10_isCard 2 = .ok (.lconst 0, 1) := by decide +kernel
theorem dX10_isCard_3 : decode cX10_isCard 3 = .ok (.aload_n 0, 1) := by decide +kernel
theorem dX10_isCard_4 : decode cX10_isCard 4 = .ok (.getfield 34, 3) := by decide +kernel
theorem dX10_isCard_7 : decode cX10_isCard 7 = .ok (.iconst 0, 1) := by decide +kernel
theorem dX10_isCard_8 : decode cX10_isCard 8 = .ok (.iaload, 1) := by decide +kernel
theorem dX10_isCard_9 : decode cX10_isCard 9 = .ok (.iconst 1, 1) := by decide +kernel
theorem dX10_isCard_10 : decode cX10_isCard 10 = .ok (.isub, 1) := by decide +kernel
theorem dX10_isCard_11 : decode cX10_isCard 11 = .ok (.i2l, 1) := by decide +kernel
theorem dX10_isCard_12 : decode cX10_isCard 12 = .ok (.invokestatic 100, 3) := by decide +kernel
theorem dX10_isCard_15 : decode cX10_isCard 15 = .ok (.ireturn, 1) := by decide +kernel
theorem dX10_isColumn_0 : decode cX10_isColumn 0 = .ok (.iload_n 1, 1) := by decide +kernel
theorem dX10_isColumn_1 : decode cX10_isColumn 1 = .ok (.i2l, 1) := by decide +kernel
theorem dX10_isColumn_2 : decode cX10_isColumn 2 = .ok (.lconst 0, 1) := by decide +kernel
theorem dX10_isColumn_3 : decode cX10_isColumn 3 = .ok (.aload_n 0, 1) := by decide +kernel
theorem dX10_isColumn_4 : decode cX10_isColumn 4 = .ok (.getfield 34, 3) := by decide +kernel
theorem dX10_isColumn_7 : decode cX10_isColumn 7 = .ok (.iconst 3, 1) := by decide +kernel
theorem dX10_isColumn_8 : decode cX10_isColumn 8 = .ok (.iaload, 1) := by decide +kernel
theorem dX10_isColumn_9 : decode cX10_isColumn 9 = .ok (.iconst 1, 1) := by decide +kernel
theorem dX10_isColumn_10 : decode cX10_isColumn 10 = .ok (.isub, 1) := by decide +kernel
theorem dX10_isColumn_11 : decode cX10_isColumn 11 = .ok (.i2l, 1) := by decide +kernel
theorem dX10_isColumn_12 : decode cX10_isColumn 12 = .ok (.invokestatic 100, 3) := by decide +kernel
theorem dX10_isColumn_15 : decode cX10_isColumn 15 = .ok (.ireturn, 1) := by decide +kernel
theorem dX10_column_0 : decode cX10_column 0 = .ok (.aload_n 0, 1) := by decide +kernel
theorem dX10_column_1 : decode cX10_column 1 = .ok (.iconst 0, 1) := by decide +kernel
theorem dX10_column_2 : decode cX10_column 2 = .ok (.putfield 95, 3) := by decide +kernel
theorem dX10_column_5 : decode cX10_column 5 = .ok (.aload_n 0, 1) := by decide +kernel
theorem dX10_column_6 : decode cX10_column 6 = .ok (.iload_n 1, 1) := by decide +kernel
theorem dX10_column_7 : decode cX10_column 7 = .ok (.invokevirtual 329, 3) := by decide +kernel
theorem dX10_column_10 : decode cX10_column 10 = .ok (.ifCond .eq 13, 3) := by decide +kernel
theorem dX10_column_13 : decode cX10_column 13 = .ok (.iload_n 2, 1) := by decide +kernel
theorem dX10_column_14 : decode cX10_column 14 = .ok (.i2l, 1) := by decide +kernel
theorem dX10_column_15 : decode cX10_column 15 = .ok (.lconst 0, 1) := by decide +kernel
theorem dX10_column_16 : decode cX10_column 16 = .ok (.lconst 1, 1) := by decide +kernel
theorem dX10_column_17 : decode cX10_column 17 = .ok (.invokestatic 100, 3) := by decide +kernel
theorem dX10_column_20 : decode cX10_column 20 = .ok (.ifCond .ne 8, 3) := by decide +kernel
theorem dX10_column_23 : decode cX10_column 23 = .ok (.bipush (-2), 2) := by decide +kernel
theorem dX10_column_25 : decode cX10_column 25 = .ok (.goto 22, 3) := by decide +kernel
theorem dX10_column_28 : decode cX10_column 28 = .ok (.iload_n 2, 1) := by decide +kernel
theorem dX10_column_29 : decode cX10_column 29 = .ok (.ifCond .ne 12, 3) := by decide +kernel
theorem dX10_column_32 : decode cX10_column 32 = .ok (.aload_n 0, 1) := by decide +kernel
theorem dX10_column_33 : decode cX10_column 33 = .ok (.iconst 0, 1) := by decide +kernel
theorem dX10_column_34 : decode cX10_column 34 = .ok (.iload_n 1, 1) := by decide +kernel
theorem dX10_column_35 : decode cX10_column 35 = .ok (.invokevirtual 307, 3) := by decide +kernel
theorem dX10_column_38 : decode cX10_column 38 = .ok (.goto 9, 3) := by decide +kernel
theorem dX10_column_41 : decode cX10_column 41 = .ok (.aload_n 0, 1) := by decide +kernel
theorem dX10_column_42 : decode cX10_column 42 = .ok (.getfield 37, 3) := by decide +kernel
theorem dX10_column_45 : decode cX10_column 45 = .ok (.iload_n 1, 1) := by decide +kernel
theorem dX10_column_46 : decode cX10_column 46 = .ok (.iaload, 1) := by decide +kernel
theorem dX10_column_47 : decode cX10_column 47 = .ok (.ireturn, 1) := by decide +kernel
theorem dX10_numbers_0 : decode cX10_numbers 0 = .ok (.aload_n 0, 1) := by decide +kernel
theorem dX10_numbers_1 : decode cX10_numbers 1 = .ok (.iconst 0, 1) := by decide +kernel
theorem dX10_numbers_2 : decode cX10_numbers 2 = .ok (.putfield 95, 3) := by decide +kernel
theorem dX10_numbers_5 : decode cX10_numbers 5 = .ok (.aload_n 0, 1) := by decide +kernel
theorem dX10_numbers_6 : decode cX10_numbers 6 = .ok (.invokevirtual 324, 3) := by decide +kernel
theorem dX10_numbers_9 : decode cX10_numbers 9 = .ok (.ifCond .eq 10, 3) := by decide +kernel
theorem dX10_numbers_12 : decode cX10_numbers 12 = .ok (.aload_n 0, 1) := by decide +kernel
theorem dX10_numbers_13 : decode cX10_numbers 13 = .ok (.invokevirtual 332, 3) := by decide +kernel
theorem dX10_numbers_16 : decode cX10_numbers 16 = .ok (.goto 5, 3) := by decide +kernel
theorem dX10_numbers_19 : decode cX10_numbers 19 = .ok (.bipush (-2), 2) := by decide +kernel
theorem dX10_numbers_21 : decode cX10_numbers 21 = .ok (.ireturn, 1) := by decide +kernel
theorem dX10_plans__0 : decode cX10_plans_ 0 = .ok (.aload_n 0, 1) := by decide +kernel
theorem dX10_plans__1 : decode cX10_plans_ 1 = .ok (.iconst 0, 1) := by decide +kernel
theorem dX10_plans__2 : decode cX10_plans_ 2 = .ok (.putfield 95, 3) := by decide +kernel
theorem dX10_plans__5 : decode cX10_plans_ 5 = .ok (.aload_n 0, 1) := by decide +kernel
theorem dX10_plans__6 : decode cX10_plans_ 6 = .ok (.invokevirtual 324, 3) := by decide +kernel
theorem dX10_plans__9 : decode cX10_plans_ 9 = .ok (.ifCond .ne 6, 3) := by decide +kernel
theorem dX10_plans__12 : decode cX10_plans_ 12 = .ok (.bipush (-2), 2) := by decide +kernel
theorem dX10_plans__14 : decode cX10_plans_ 14 = .ok (.ireturn, 1) := by decide +kernel
theorem dX10_plans__15 : decode cX10_plans_ 15 = .ok (.aload_n 0, 1) := by decide +kernel
theorem dX10_plans__16 : decode cX10_plans_ 16 = .ok (.iconst 0, 1) := by decide +kernel
theorem dX10_plans__17 : decode cX10_plans_ 17 = .ok (.iconst (-1), 1) := by decide +kernel
theorem dX10_plans__18 : decode cX10_plans_ 18 = .ok (.invokevirtual 206, 3) := by decide +kernel
theorem dX10_plans__21 : decode cX10_plans_ 21 = .ok (.aload_n 0, 1) := by decide +kernel
theorem dX10_plans__22 : decode cX10_plans_ 22 = .ok (.getfield 210, 3) := by decide +kernel
theorem dX10_plans__25 : decode cX10_plans_ 25 = .ok (.ireturn, 1) := by decide +kernel
theorem dX10_plan_0 : decode cX10_plan 0 = .ok (.aload_n 0, 1) := by decide +kernel
theorem dX10_plan_1 : decode cX10_plan 1 = .ok (.iconst 0, 1) := by decide +kernel
theorem dX10_plan_2 : decode cX10_plan 2 = .ok (.putfield 95, 3) := by decide +kernel
theorem dX10_plan_5 : decode cX10_plan 5 = .ok (.aload_n 0, 1) := by decide +kernel
theorem dX10_plan_6 : decode cX10_plan 6 = .ok (.iload_n 2, 1) := by decide +kernel
theorem dX10_plan_7 : decode cX10_plan 7 = .ok (.invokevirtual 336, 3) := by decide +kernel
theorem dX10_plan_10 : decode cX10_plan 10 = .ok (.ifCond .eq 11, 3) := by decide +kernel
theorem dX10_plan_13 : decode cX10_plan 13 = .ok (.aload_n 0, 1) := by decide +kernel
theorem dX10_plan_14 : decode cX10_plan 14 = .ok (.iload_n 3, 1) := by decide +kernel
theorem dX10_plan_15 : decode cX10_plan 15 = .ok (.invokevirtual 329, 3) := by decide +kernel
theorem dX10_plan_18 : decode cX10_plan 18 = .ok (.ifCond .ne 6, 3) := by decide +kernel
theorem dX10_plan_21 : decode cX10_plan 21 = .ok (.bipush (-2), 2) := by decide +kernel
theorem dX10_plan_23 : decode cX10_plan 23 = .ok (.ireturn, 1) := by decide +kernel
theorem dX10_plan_24 : decode cX10_plan 24 = .ok (.aload_n 0, 1) := by decide +kernel
theorem dX10_plan_25 : decode cX10_plan 25 = .ok (.iconst 0, 1) := by decide +kernel
theorem dX10_plan_26 : decode cX10_plan 26 = .ok (.iload_n 1, 1) := by decide +kernel
theorem dX10_plan_27 : decode cX10_plan 27 = .ok (.invokevirtual 206, 3) := by decide +kernel
theorem dX10_plan_30 : decode cX10_plan 30 = .ok (.iload_n 1, 1) := by decide +kernel
theorem dX10_plan_31 : decode cX10_plan 31 = .ok (.i2l, 1) := by decide +kernel
theorem dX10_plan_32 : decode cX10_plan 32 = .ok (.lconst 0, 1) := by decide +kernel
theorem dX10_plan_33 : decode cX10_plan 33 = .ok (.aload_n 0, 1) := by decide +kernel
theorem dX10_plan_34 : decode cX10_plan 34 = .ok (.getfield 210, 3) := by decide +kernel
theorem dX10_plan_37 : decode cX10_plan 37 = .ok (.iconst 1, 1) := by decide +kernel
theorem dX10_plan_38 : decode cX10_plan 38 = .ok (.isub, 1) := by decide +kernel
theorem dX10_plan_39 : decode cX10_plan 39 = .ok (.i2l, 1) := by decide +kernel
theorem dX10_plan_40 : decode cX10_plan 40 = .ok (.invokestatic 100, 3) := by decide +kernel
theorem dX10_plan_43 : decode cX10_plan 43 = .ok (.ifCond .eq 16, 3) := by decide +kernel
theorem dX10_plan_46 : decode cX10_plan 46 = .ok (.aload_n 0, 1) := by decide +kernel
theorem dX10_plan_47 : decode cX10_plan 47 = .ok (.getfield 56, 3) := by decide +kernel
theorem dX10_plan_50 : decode cX10_plan 50 = .ok (.iconst 5, 1) := by decide +kernel
theorem dX10_plan_51 : decode cX10_plan 51 = .ok (.iload_n 2, 1) := by decide +kernel
theorem dX10_plan_52 : decode cX10_plan 52 = .ok (.imul, 1) := by decide +kernel
theorem dX10_plan_53 : decode cX10_plan 53 = .ok (.iload_n 3, 1) := by decide +kernel
theorem dX10_plan_54 : decode cX10_plan 54 = .ok (.iadd, 1) := by decide +kernel
theorem dX10_plan_55 : decode cX10_plan 55 = .ok (.iaload, 1) := by decide +kernel
theorem dX10_plan_56 : decode cX10_plan 56 = .ok (.goto 4, 3) := by decide +kernel
theorem dX10_plan_59 : decode cX10_plan 59 = .ok (.iconst (-1), 1) := by decide +kernel
theorem dX10_plan_60 : decode cX10_plan 60 = .ok (.ireturn, 1) := by decide +kernel
theorem dX10_whyNot_0 : decode cX10_whyNot 0 = .ok (.iload_n 1, 1) := by decide +kernel
theorem dX10_whyNot_1 : decode cX10_whyNot 1 = .ok (.invokestatic 104, 3) := by decide +kernel
theorem dX10_whyNot_4 : decode cX10_whyNot 4 = .ok (.ifCond .eq 10, 3) := by decide +kernel
theorem dX10_whyNot_7 : decode cX10_whyNot 7 = .ok (.aload_n 0, 1) := by decide +kernel
theorem dX10_whyNot_8 : decode cX10_whyNot 8 = .ok (.invokevirtual 324, 3) := by decide +kernel
theorem dX10_whyNot_11 : decode cX10_whyNot 11 = .ok (.ifCond .ne 8, 3) := by decide +kernel
theorem dX10_whyNot_14 : decode cX10_whyNot 14 = .ok (.bipush (-2), 2) := by decide +kernel
theorem dX10_whyNot_16 : decode cX10_whyNot 16 = .ok (.goto 19, 3) := by decide +kernel
theorem dX10_whyNot_19 : decode cX10_whyNot 19 = .ok (.aload_n 0, 1) := by decide +kernel
theorem dX10_whyNot_20 : decode cX10_whyNot 20 = .ok (.getfield 7, 3) := by decide +kernel
theorem dX10_whyNot_23 : decode cX10_whyNot 23 = .ok (.iload_n 1, 1) := by decide +kernel
theorem dX10_whyNot_24 : decode cX10_whyNot 24 = .ok (.iaload, 1) := by decide +kernel
theorem dX10_whyNot_25 : decode cX10_whyNot 25 = .ok (.iconst (-1), 1) := by decide +kernel
theorem dX10_whyNot_26 : decode cX10_whyNot 26 = .ok (.if_icmp .ne 8, 3) := by decide +kernel
theorem dX10_whyNot_29 : decode cX10_whyNot 29 = .ok (.bipush (-6), 2) := by decide +kernel
theorem dX10_whyNot_31 : decode cX10_whyNot 31 = .ok (.goto 4, 3) := by decide +kernel
theorem dX10_whyNot_34 : decode cX10_whyNot 34 = .ok (.iconst 0, 1) := by decide +kernel
theorem dX10_whyNot_35 : decode cX10_whyNot 35 = .ok (.ireturn, 1) := by decide +kernel
theorem dX10_layouts__0 : decode cX10_layouts_ 0 = .ok (.aload_n 0, 1) := by decide +kernel
theorem dX10_layouts__1 : decode cX10_layouts_ 1 = .ok (.iconst 0, 1) := by decide +kernel
theorem dX10_layouts__2 : decode cX10_layouts_ 2 = .ok (.putfield 95, 3) := by decide +kernel
theorem dX10_layouts__5 : decode cX10_layouts_ 5 = .ok (.aload_n 0, 1) := by decide +kernel
theorem dX10_layouts__6 : decode cX10_layouts_ 6 = .ok (.iload_n 1, 1) := by decide +kernel
theorem dX10_layouts__7 : decode cX10_layouts_ 7 = .ok (.invokevirtual 339, 3) := by decide +kernel
theorem dX10_layouts__10 : decode cX10_layouts_ 10 = .ok (.istore_n 2, 1) := by decide +kernel
theorem dX10_layouts__11 : decode cX10_layouts_ 11 = .ok (.iload_n 2, 1) := by decide +kernel
theorem dX10_layouts__12 : decode cX10_layouts_ 12 = .ok (.ifCond .eq 5, 3) := by decide +kernel
theorem dX10_layouts__15 : decode cX10_layouts_ 15 = .ok (.iload_n 2, 1) := by decide +kernel
theorem dX10_layouts__16 : decode cX10_layouts_ 16 = .ok (.ireturn, 1) := by decide +kernel
theorem dX10_layouts__17 : decode cX10_layouts_ 17 = .ok (.aload_n 0, 1) := by decide +kernel
theorem dX10_layouts__18 : decode cX10_layouts_ 18 = .ok (.getfield 13, 3) := by decide +kernel
theorem dX10_layouts__21 : decode cX10_layouts_ 21 = .ok (.iload_n 1, 1) := by decide +kernel
theorem dX10_layouts__22 : decode cX10_layouts_ 22 = .ok (.iaload, 1) := by decide +kernel
theorem dX10_layouts__23 : decode cX10_layouts_ 23 = .ok (.aload_n 0, 1) := by decide +kernel
theorem dX10_layouts__24 : decode cX10_layouts_ 24 = .ok (.getfield 34, 3) := by decide +kernel
theorem dX10_layouts__27 : decode cX10_layouts_ 27 = .ok (.iconst 3, 1) := by decide +kernel
theorem dX10_layouts__28 : decode cX10_layouts_ 28 = .ok (.iaload, 1) := by decide +kernel
theorem dX10_layouts__29 : decode cX10_layouts_ 29 = .ok (.if_icmp .eq 6, 3) := by decide +kernel
theorem dX10_layouts__32 : decode cX10_layouts_ 32 = .ok (.bipush (-7), 2) := by decide +kernel
theorem dX10_layouts__34 : decode cX10_layouts_ 34 = .ok (.ireturn, 1) := by decide +kernel
theorem dX10_layouts__35 : decode cX10_layouts_ 35 = .ok (.iconst 0, 1) := by decide +kernel
theorem dX10_layouts__36 : decode cX10_layouts_ 36 = .ok (.istore_n 3, 1) := by decide +kernel
theorem dX10_layouts__37 : decode cX10_layouts_ 37 = .ok (.iload_n 3, 1) := by decide +kernel
theorem dX10_layouts__38 : decode cX10_layouts_ 38 = .ok (.aload_n 0, 1) := by decide +kernel
theorem dX10_layouts__39 : decode cX10_layouts_ 39 = .ok (.getfield 13, 3) := by decide +kernel
theorem dX10_layouts__42 : decode cX10_layouts_ 42 = .ok (.iload_n 1, 1) := by decide +kernel
theorem dX10_layouts__43 : decode cX10_layouts_ 43 = .ok (.iaload, 1) := by decide +kernel
theorem dX10_layouts__44 : decode cX10_layouts_ 44 = .ok (.if_icmp .ge 50, 3) := by decide +kernel
theorem dX10_layouts__47 : decode cX10_layouts_ 47 = .ok (.aload_n 0, 1) := by decide +kernel
theorem dX10_layouts__48 : decode cX10_layouts_ 48 = .ok (.getfield 16, 3) := by decide +kernel
theorem dX10_layouts__51 : decode cX10_layouts_ 51 = .ok (.bipush 60, 2) := by decide +kernel
theorem dX10_layouts__53 : decode cX10_layouts_ 53 = .ok (.iload_n 1, 1) := by decide +kernel
theorem dX10_layouts__54 : decode cX10_layouts_ 54 = .ok (.imul, 1) := by decide +kernel
theorem dX10_layouts__55 : decode cX10_layouts_ 55 = .ok (.iload_n 3, 1) := by decide +kernel
theorem dX10_layouts__56 : decode cX10_layouts_ 56 = .ok (.iadd, 1) := by decide +kernel
theorem dX10_layouts__57 : decode cX10_layouts_ 57 = .ok (.laload, 1) := by decide +kernel
theorem dX10_layouts__58 : decode cX10_layouts_ 58 = .ok (.lconst 0, 1) := by decide +kernel
theorem dX10_layouts__59 : decode cX10_layouts_ 59 = .ok (.ldc2_w 98, 3) := by decide +kernel
theorem dX10_layouts__62 : decode cX10_layouts_ 62 = .ok (.invokestatic 100, 3) := by decide +kernel
theorem dX10_layouts__65 : decode cX10_layouts_ 65 = .ok (.ifCond .ne 5, 3) := by decide +kernel
theorem dX10_layouts__68 : decode cX10_layouts_ 68 = .ok (.iconst 0, 1) := by decide +kernel
theorem dX10_layouts__69 : decode cX10_layouts_ 69 = .ok (.ireturn, 1) := by decide +kernel
theorem dX10_layouts__70 : decode cX10_layouts_ 70 = .ok (.aload_n 0, 1) := by decide +kernel
theorem dX10_layouts__71 : decode cX10_layouts_ 71 = .ok (.getfield 62, 3) := by decide +kernel
theorem dX10_layouts__74 : decode cX10_layouts_ 74 = .ok (.iload_n 3, 1) := by decide +kernel
theorem dX10_layouts__75 : decode cX10_layouts_ 75 = .ok (.aload_n 0, 1) := by decide +kernel
theorem dX10_layouts__76 : decode cX10_layouts_ 76 = .ok (.getfield 16, 3) := by decide +kernel
theorem dX10_layouts__79 : decode cX10_layouts_ 79 = .ok (.bipush 60, 2) := by decide +kernel
theorem dX10_layouts__81 : decode cX10_layouts_ 81 = .ok (.iload_n 1, 1) := by decide +kernel
theorem dX10_layouts__82 : decode cX10_layouts_ 82 = .ok (.imul, 1) := by decide +kernel
theorem dX10_layouts__83 : decode cX10_layouts_ 83 = .ok (.iload_n 3, 1) := by decide +kernel
theorem dX10_layouts__84 : decode cX10_layouts_ 84 = .ok (.iadd, 1) := by decide +kernel
theorem dX10_layouts__85 : decode cX10_layouts_ 85 = .ok (.laload, 1) := by decide +kernel
theorem dX10_layouts__86 : decode cX10_layouts_ 86 = .ok (.l2i, 1) := by decide +kernel
theorem dX10_layouts__87 : decode cX10_layouts_ 87 = .ok (.iastore, 1) := by decide +kernel
theorem dX10_layouts__88 : decode cX10_layouts_ 88 = .ok (.iinc 3 1, 3) := by decide +kernel
theorem dX10_layouts__91 : decode cX10_layouts_ 91 = .ok (.goto (-54), 3) := by decide +kernel
theorem dX10_layouts__94 : decode cX10_layouts_ 94 = .ok (.aload_n 0, 1) := by decide +kernel
theorem dX10_layouts__95 : decode cX10_layouts_ 95 = .ok (.iconst 0, 1) := by decide +kernel
theorem dX10_layouts__96 : decode cX10_layouts_ 96 = .ok (.iconst (-1), 1) := by decide +kernel
theorem dX10_layouts__97 : decode cX10_layouts_ 97 = .ok (.invokevirtual 304, 3) := by decide +kernel
theorem dX10_layouts__100 : decode cX10_layouts_ 100 = .ok (.aload_n 0, 1) := by decide +kernel
theorem dX10_layouts__101 : decode cX10_layouts_ 101 = .ok (.getfield 270, 3) := by decide +kernel
theorem dX10_layouts__104 : decode cX10_layouts_ 104 = .ok (.ireturn, 1) := by decide +kernel
theorem dX10_made_0 : decode cX10_made 0 = .ok (.aload_n 0, 1) := by decide +kernel
theorem dX10_made_1 : decode cX10_made 1 = .ok (.iconst 0, 1) := by decide +kernel
theorem dX10_made_2 : decode cX10_made 2 = .ok (.putfield 95, 3) := by decide +kernel
theorem dX10_made_5 : decode cX10_made 5 = .ok (.aload_n 0, 1) := by decide +kernel
theorem dX10_made_6 : decode cX10_made 6 = .ok (.iload_n 1, 1) := by decide +kernel
theorem dX10_made_7 : decode cX10_made 7 = .ok (.invokevirtual 342, 3) := by decide +kernel
theorem dX10_made_10 : decode cX10_made 10 = .ok (.ifCond .ne 6, 3) := by decide +kernel
theorem dX10_made_13 : decode cX10_made 13 = .ok (.bipush (-2), 2) := by decide +kernel
theorem dX10_made_15 : decode cX10_made 15 = .ok (.ireturn, 1) := by decide +kernel
theorem dX10_made_16 : decode cX10_made 16 = .ok (.aload_n 0, 1) := by decide +kernel
theorem dX10_made_17 : decode cX10_made 17 = .ok (.iconst 0, 1) := by decide +kernel
theorem dX10_made_18 : decode cX10_made 18 = .ok (.iload_n 1, 1) := by decide +kernel
theorem dX10_made_19 : decode cX10_made 19 = .ok (.iconst 0, 1) := by decide +kernel
theorem dX10_made_20 : decode cX10_made 20 = .ok (.invokevirtual 317, 3) := by decide +kernel
theorem dX10_made_23 : decode cX10_made 23 = .ok (.aload_n 0, 1) := by decide +kernel
theorem dX10_made_24 : decode cX10_made 24 = .ok (.getfield 301, 3) := by decide +kernel
theorem dX10_made_27 : decode cX10_made 27 = .ok (.ireturn, 1) := by decide +kernel
theorem dX10_cell_0 : decode cX10_cell 0 = .ok (.aload_n 0, 1) := by decide +kernel
theorem dX10_cell_1 : decode cX10_cell 1 = .ok (.iconst 0, 1) := by decide +kernel
theorem dX10_cell_2 : decode cX10_cell 2 = .ok (.putfield 95, 3) := by decide +kernel
theorem dX10_cell_5 : decode cX10_cell 5 = .ok (.aload_n 0, 1) := by decide +kernel
theorem dX10_cell_6 : decode cX10_cell 6 = .ok (.iload_n 1, 1) := by decide +kernel
theorem dX10_cell_7 : decode cX10_cell 7 = .ok (.invokevirtual 342, 3) := by decide +kernel
theorem dX10_cell_10 : decode cX10_cell 10 = .ok (.ifCond .eq 38, 3) := by decide +kernel
theorem dX10_cell_13 : decode cX10_cell 13 = .ok (.aload_n 0, 1) := by decide +kernel
theorem dX10_cell_14 : decode cX10_cell 14 = .ok (.iload_n 2, 1) := by decide +kernel
theorem dX10_cell_15 : decode cX10_cell 15 = .ok (.invokevirtual 336, 3) := by decide +kernel
theorem dX10_cell_18 : decode cX10_cell 18 = .ok (.ifCond .eq 30, 3) := by decide +kernel
theorem dX10_cell_21 : decode cX10_cell 21 = .ok (.iload_n 3, 1) := by decide +kernel
theorem dX10_cell_22 : decode cX10_cell 22 = .ok (.i2l, 1) := by decide +kernel
theorem dX10_cell_23 : decode cX10_cell 23 = .ok (.lconst 0, 1) := by decide +kernel
theorem dX10_cell_24 : decode cX10_cell 24 = .ok (.aload_n 0, 1) := by decide +kernel
theorem dX10_cell_25 : decode cX10_cell 25 = .ok (.getfield 34, 3) := by decide +kernel
theorem dX10_cell_28 : decode cX10_cell 28 = .ok (.iconst 1, 1) := by decide +kernel
theorem dX10_cell_29 : decode cX10_cell 29 = .ok (.iaload, 1) := by decide +kernel
theorem dX10_cell_30 : decode cX10_cell 30 = .ok (.iconst 1, 1) := by decide +kernel
theorem dX10_cell_31 : decode cX10_cell 31 = .ok (.isub, 1) := by decide +kernel
theorem dX10_cell_32 : decode cX10_cell 32 = .ok (.i2l, 1) := by decide +kernel
theorem dX10_cell_33 : decode cX10_cell 33 = .ok (.invokestatic 100, 3) := by decide +kernel
theorem dX10_cell_36 : decode cX10_cell 36 = .ok (.ifCond .eq 12, 3) := by decide +kernel
theorem dX10_cell_39 : decode cX10_cell 39 = .ok (.aload_n 0, 1) := by decide +kernel
theorem dX10_cell_40 : decode cX10_cell 40 = .ok (.iload 4, 2) := by decide +kernel
theorem dX10_cell_42 : decode cX10_cell 42 = .ok (.invokevirtual 329, 3) := by decide +kernel
theorem dX10_cell_45 : decode cX10_cell 45 = .ok (.ifCond .ne 6, 3) := by decide +kernel
theorem dX10_cell_48 : decode cX10_cell 48 = .ok (.bipush (-2), 2) := by decide +kernel
theorem dX10_cell_50 : decode cX10_cell 50 = .ok (.ireturn, 1) := by decide +kernel
theorem dX10_cell_51 : decode cX10_cell 51 = .ok (.aload_n 0, 1) := by decide +kernel
theorem dX10_cell_52 : decode cX10_cell 52 = .ok (.iconst 0, 1) := by decide +kernel
theorem dX10_cell_53 : decode cX10_cell 53 = .ok (.iload_n 1, 1) := by decide +kernel
theorem dX10_cell_54 : decode cX10_cell 54 = .ok (.iconst 0, 1) := by decide +kernel
theorem dX10_cell_55 : decode cX10_cell 55 = .ok (.invokevirtual 317, 3) := by decide +kernel
theorem dX10_cell_58 : decode cX10_cell 58 = .ok (.aload_n 0, 1) := by decide +kernel
theorem dX10_cell_59 : decode cX10_cell 59 = .ok (.getfield 74, 3) := by decide +kernel
theorem dX10_cell_62 : decode cX10_cell 62 = .ok (.aload_n 0, 1) := by decide +kernel
theorem dX10_cell_63 : decode cX10_cell 63 = .ok (.iconst 0, 1) := by decide +kernel
theorem dX10_cell_64 : decode cX10_cell 64 = .ok (.iload_n 2, 1) := by decide +kernel
theorem dX10_cell_65 : decode cX10_cell 65 = .ok (.iload_n 3, 1) := by decide +kernel
theorem dX10_cell_66 : decode cX10_cell 66 = .ok (.iload 4, 2) := by decide +kernel
theorem dX10_cell_68 : decode cX10_cell 68 = .ok (.invokevirtual 314, 3) := by decide +kernel
theorem dX10_cell_71 : decode cX10_cell 71 = .ok (.iaload, 1) := by decide +kernel
theorem dX10_cell_72 : decode cX10_cell 72 = .ok (.ireturn, 1) := by decide +kernel
theorem dX10_isNumber_0 : decode cX10_isNumber 0 = .ok (.aload_n 0, 1) := by decide +kernel
theorem dX10_isNumber_1 : decode cX10_isNumber 1 = .ok (.invokevirtual 324, 3) := by decide +kernel
theorem dX10_isNumber_4 : decode cX10_isNumber 4 = .ok (.ifCond .eq 20, 3) := by decide +kernel
theorem dX10_isNumber_7 : decode cX10_isNumber 7 = .ok (.lload_n 1, 1) := by decide +kernel
theorem dX10_isNumber_8 : decode cX10_isNumber 8 = .ok (.lconst 1, 1) := by decide +kernel
theorem dX10_isNumber_9 : decode cX10_isNumber 9 = .ok (.aload_n 0, 1) := by decide +kernel
theorem dX10_isNumber_10 : decode cX10_isNumber 10 = .ok (.invokevirtual 332, 3) := by decide +kernel
theorem dX10_isNumber_13 : decode cX10_isNumber 13 = .ok (.i2l, 1) := by decide +kernel
theorem dX10_isNumber_14 : decode cX10_isNumber 14 = .ok (.invokestatic 100, 3) := by decide +kernel
theorem dX10_isNumber_17 : decode cX10_isNumber 17 = .ok (.ifCond .eq 7, 3) := by decide +kernel
theorem dX10_isNumber_20 : decode cX10_isNumber 20 = .ok (.iconst 1, 1) := by decide +kernel
theorem dX10_isNumber_21 : decode cX10_isNumber 21 = .ok (.goto 4, 3) := by decide +kernel
theorem dX10_isNumber_24 : decode cX10_isNumber 24 = .ok (.iconst 0, 1) := by decide +kernel
theorem dX10_isNumber_25 : decode cX10_isNumber 25 = .ok (.ireturn, 1) := by decide +kernel
theorem dX10_where_0 : decode cX10_where 0 = .ok (.aload_n 0, 1) := by decide +kernel
theorem dX10_where_1 : decode cX10_where 1 = .ok (.iconst 0, 1) := by decide +kernel
theorem dX10_where_2 : decode cX10_where 2 = .ok (.putfield 95, 3) := by decide +kernel
theorem dX10_where_5 : decode cX10_where 5 = .ok (.aload_n 0, 1) := by decide +kernel
theorem dX10_where_6 : decode cX10_where 6 = .ok (.iload_n 1, 1) := by decide +kernel
theorem dX10_where_7 : decode cX10_where 7 = .ok (.invokevirtual 342, 3) := by decide +kernel
theorem dX10_where_10 : decode cX10_where 10 = .ok (.ifCond .eq 12, 3) := by decide +kernel
theorem dX10_where_13 : decode cX10_where 13 = .ok (.aload_n 0, 1) := by decide +kernel
theorem dX10_where_14 : decode cX10_where 14 = .ok (.iload_n 2, 1) := by decide +kernel
theorem dX10_where_15 : decode cX10_where 15 = .ok (.i2l, 1) := by decide +kernel
theorem dX10_where_16 : decode cX10_where 16 = .ok (.invokevirtual 345, 3) := by decide +kernel
theorem dX10_where_19 : decode cX10_where 19 = .ok (.ifCond .ne 6, 3) := by decide +kernel
theorem dX10_where_22 : decode cX10_where 22 = .ok (.bipush (-2), 2) := by decide +kernel
theorem dX10_where_24 : decode cX10_where 24 = .ok (.ireturn, 1) := by decide +kernel
theorem dX10_where_25 : decode cX10_where 25 = .ok (.aload_n 0, 1) := by decide +kernel
theorem dX10_where_26 : decode cX10_where 26 = .ok (.iconst 0, 1) := by decide +kernel
theorem dX10_where_27 : decode cX10_where 27 = .ok (.iload_n 1, 1) := by decide +kernel
theorem dX10_where_28 : decode cX10_where 28 = .ok (.iconst 0, 1) := by decide +kernel
theorem dX10_where_29 : decode cX10_where 29 = .ok (.invokevirtual 317, 3) := by decide +kernel
theorem dX10_where_32 : decode cX10_where 32 = .ok (.iconst 0, 1) := by decide +kernel
theorem dX10_where_33 : decode cX10_where 33 = .ok (.istore_n 3, 1) := by decide +kernel
theorem dX10_where_34 : decode cX10_where 34 = .ok (.iload_n 3, 1) := by decide +kernel
theorem dX10_where_35 : decode cX10_where 35 = .ok (.iconst 3, 1) := by decide +kernel
theorem dX10_where_36 : decode cX10_where 36 = .ok (.if_icmp .ge 72, 3) := by decide +kernel
theorem dX10_where_39 : decode cX10_where 39 = .ok (.iconst 0, 1) := by decide +kernel
theorem dX10_where_40 : decode cX10_where 40 = .ok (.istore 4, 2) := by decide +kernel
theorem dX10_where_42 : decode cX10_where 42 = .ok (.iload 4, 2) := by decide +kernel
theorem dX10_where_44 : decode cX10_where 44 = .ok (.iconst 3, 1) := by decide +kernel
theorem dX10_where_45 : decode cX10_where 45 = .ok (.if_icmp .ge 57, 3) := by decide +kernel
theorem dX10_where_48 : decode cX10_where 48 = .ok (.iconst 0, 1) := by decide +kernel
theorem dX10_where_49 : decode cX10_where 49 = .ok (.istore 5, 2) := by decide +kernel
theorem dX10_where_51 : decode cX10_where 51 = .ok (.iload 5, 2) := by decide +kernel
theorem dX10_where_53 : decode cX10_where 53 = .ok (.iconst 5, 1) := by decide +kernel
theorem dX10_where_54 : decode cX10_where 54 = .ok (.if_icmp .ge 42, 3) := by decide +kernel
theorem dX10_where_57 : decode cX10_where 57 = .ok (.aload_n 0, 1) := by decide +kernel
theorem dX10_where_58 : decode cX10_where 58 = .ok (.getfield 74, 3) := by decide +kernel
theorem dX10_where_61 : decode cX10_where 61 = .ok (.aload_n 0, 1) := by decide +kernel
theorem dX10_where_62 : decode cX10_where 62 = .ok (.iconst 0, 1) := by decide +kernel
theorem dX10_where_63 : decode cX10_where 63 = .ok (.iload_n 3, 1) := by decide +kernel
theorem dX10_where_64 : decode cX10_where 64 = .ok (.iload 4, 2) := by decide +kernel
theorem dX10_where_66 : decode cX10_where 66 = .ok (.iload 5, 2) := by decide +kernel
theorem dX10_where_68 : decode cX10_where 68 = .ok (.invokevirtual 314, 3) := by decide +kernel
theorem dX10_where_71 : decode cX10_where 71 = .ok (.iaload, 1) := by decide +kernel
theorem dX10_where_72 : decode cX10_where 72 = .ok (.iload_n 2, 1) := by decide +kernel
theorem dX10_where_73 : decode cX10_where 73 = .ok (.if_icmp .ne 17, 3) := by decide +kernel
theorem dX10_where_76 : decode cX10_where 76 = .ok (.bipush 100, 2) := by decide +kernel
theorem dX10_where_78 : decode cX10_where 78 = .ok (.iload_n 3, 1) := by decide +kernel
theorem dX10_where_79 : decode cX10_where 79 = .ok (.imul, 1) := by decide +kernel
theorem dX10_where_80 : decode cX10_where 80 = .ok (.bipush 10, 2) := by decide +kernel
theorem dX10_where_82 : decode cX10_where 82 = .ok (.iload 4, 2) := by decide +kernel
theorem dX10_where_84 : decode cX10_where 84 = .ok (.imul, 1) := by decide +kernel
theorem dX10_where_85 : decode cX10_where 85 = .ok (.iadd, 1) := by decide +kernel
theorem dX10_where_86 : decode cX10_where 86 = .ok (.iload 5, 2) := by decide +kernel
theorem dX10_where_88 : decode cX10_where 88 = .ok (.iadd, 1) := by decide +kernel
theorem dX10_where_89 : decode cX10_where 89 = .ok (.ireturn, 1) := by decide +kernel
theorem dX10_where_90 : decode cX10_where 90 = .ok (.iinc 5 1, 3) := by decide +kernel
theorem dX10_where_93 : decode cX10_where 93 = .ok (.goto (-42), 3) := by decide +kernel
theorem dX10_where_96 : decode cX10_where 96 = .ok (.iinc 4 1, 3) := by decide +kernel
theorem dX10_where_99 : decode cX10_where 99 = .ok (.goto (-57), 3) := by decide +kernel
theorem dX10_where_102 : decode cX10_where 102 = .ok (.iinc 3 1, 3) := by decide +kernel
theorem dX10_where_105 : decode cX10_where 105 = .ok (.goto (-71), 3) := by decide +kernel
theorem dX10_where_108 : decode cX10_where 108 = .ok (.iconst (-1), 1) := by decide +kernel
theorem dX10_where_109 : decode cX10_where 109 = .ok (.ireturn, 1) := by decide +kernel
theorem dX10_same_0 : decode cX10_same 0 = .ok (.aload_n 0, 1) := by decide +kernel
theorem dX10_same_1 : decode cX10_same 1 = .ok (.iconst 0, 1) := by decide +kernel
theorem dX10_same_2 : decode cX10_same 2 = .ok (.putfield 95, 3) := by decide +kernel
theorem dX10_same_5 : decode cX10_same 5 = .ok (.aload_n 0, 1) := by decide +kernel
theorem dX10_same_6 : decode cX10_same 6 = .ok (.iload_n 1, 1) := by decide +kernel
theorem dX10_same_7 : decode cX10_same 7 = .ok (.invokevirtual 342, 3) := by decide +kernel
theorem dX10_same_10 : decode cX10_same 10 = .ok (.ifCond .eq 29, 3) := by decide +kernel
theorem dX10_same_13 : decode cX10_same 13 = .ok (.aload_n 0, 1) := by decide +kernel
theorem dX10_same_14 : decode cX10_same 14 = .ok (.iload_n 2, 1) := by decide +kernel
theorem dX10_same_15 : decode cX10_same 15 = .ok (.invokevirtual 342, 3) := by decide +kernel
theorem dX10_same_18 : decode cX10_same 18 = .ok (.ifCond .eq 21, 3) := by decide +kernel
theorem dX10_same_21 : decode cX10_same 21 = .ok (.aload_n 0, 1) := by decide +kernel
theorem dX10_same_22 : decode cX10_same 22 = .ok (.iconst 0, 1) := by decide +kernel
theorem dX10_same_23 : decode cX10_same 23 = .ok (.iload_n 1, 1) := by decide +kernel
theorem dX10_same_24 : decode cX10_same 24 = .ok (.iload_n 2, 1) := by decide +kernel
theorem dX10_same_25 : decode cX10_same 25 = .ok (.invokevirtual 321, 3) := by decide +kernel
theorem dX10_same_28 : decode cX10_same 28 = .ok (.ifCond .eq 7, 3) := by decide +kernel
theorem dX10_same_31 : decode cX10_same 31 = .ok (.iconst 1, 1) := by decide +kernel
theorem dX10_same_32 : decode cX10_same 32 = .ok (.goto 9, 3) := by decide +kernel
theorem dX10_same_35 : decode cX10_same 35 = .ok (.iconst 0, 1) := by decide +kernel
theorem dX10_same_36 : decode cX10_same 36 = .ok (.goto 5, 3) := by decide +kernel
theorem dX10_same_39 : decode cX10_same 39 = .ok (.bipush (-2), 2) := by decide +kernel
theorem dX10_same_41 : decode cX10_same 41 = .ok (.ireturn, 1) := by decide +kernel
theorem dX10_alike_0 : decode cX10_alike 0 = .ok (.aload_n 0, 1) := by decide +kernel
theorem dX10_alike_1 : decode cX10_alike 1 = .ok (.iconst 0, 1) := by decide +kernel
theorem dX10_alike_2 : decode cX10_alike 2 = .ok (.putfield 95, 3) := by decide +kernel
theorem dX10_alike_5 : decode cX10_alike 5 = .ok (.aload_n 0, 1) := by decide +kernel
theorem dX10_alike_6 : decode cX10_alike 6 = .ok (.iload_n 1, 1) := by decide +kernel
theorem dX10_alike_7 : decode cX10_alike 7 = .ok (.invokevirtual 342, 3) := by decide +kernel
theorem dX10_alike_10 : decode cX10_alike 10 = .ok (.ifCond .eq 28, 3) := by decide +kernel
theorem dX10_alike_13 : decode cX10_alike 13 = .ok (.aload_n 0, 1) := by decide +kernel
theorem dX10_alike_14 : decode cX10_alike 14 = .ok (.iload_n 2, 1) := by decide +kernel
theorem dX10_alike_15 : decode cX10_alike 15 = .ok (.invokevirtual 336, 3) := by decide +kernel
theorem dX10_alike_18 : decode cX10_alike 18 = .ok (.ifCond .eq 20, 3) := by decide +kernel
theorem dX10_alike_21 : decode cX10_alike 21 = .ok (.aload_n 0, 1) := by decide +kernel
theorem dX10_alike_22 : decode cX10_alike 22 = .ok (.iload_n 3, 1) := by decide +kernel
theorem dX10_alike_23 : decode cX10_alike 23 = .ok (.invokevirtual 342, 3) := by decide +kernel
theorem dX10_alike_26 : decode cX10_alike 26 = .ok (.ifCond .eq 12, 3) := by decide +kernel
theorem dX10_alike_29 : decode cX10_alike 29 = .ok (.aload_n 0, 1) := by decide +kernel
theorem dX10_alike_30 : decode cX10_alike 30 = .ok (.iload 4, 2) := by decide +kernel
theorem dX10_alike_32 : decode cX10_alike 32 = .ok (.invokevirtual 336, 3) := by decide +kernel
theorem dX10_alike_35 : decode cX10_alike 35 = .ok (.ifCond .ne 6, 3) := by decide +kernel
theorem dX10_alike_38 : decode cX10_alike 38 = .ok (.bipush (-2), 2) := by decide +kernel
theorem dX10_alike_40 : decode cX10_alike 40 = .ok (.ireturn, 1) := by decide +kernel
theorem dX10_alike_41 : decode cX10_alike 41 = .ok (.aload_n 0, 1) := by decide +kernel
theorem dX10_alike_42 : decode cX10_alike 42 = .ok (.iconst 0, 1) := by decide +kernel
theorem dX10_alike_43 : decode cX10_alike 43 = .ok (.iload_n 1, 1) := by decide +kernel
theorem dX10_alike_44 : decode cX10_alike 44 = .ok (.iconst 0, 1) := by decide +kernel
theorem dX10_alike_45 : decode cX10_alike 45 = .ok (.invokevirtual 317, 3) := by decide +kernel
theorem dX10_alike_48 : decode cX10_alike 48 = .ok (.aload_n 0, 1) := by decide +kernel
theorem dX10_alike_49 : decode cX10_alike 49 = .ok (.iconst 0, 1) := by decide +kernel
theorem dX10_alike_50 : decode cX10_alike 50 = .ok (.iload_n 3, 1) := by decide +kernel
theorem dX10_alike_51 : decode cX10_alike 51 = .ok (.iconst 1, 1) := by decide +kernel
theorem dX10_alike_52 : decode cX10_alike 52 = .ok (.invokevirtual 317, 3) := by decide +kernel
theorem dX10_alike_55 : decode cX10_alike 55 = .ok (.iconst 0, 1) := by decide +kernel
theorem dX10_alike_56 : decode cX10_alike 56 = .ok (.istore 5, 2) := by decide +kernel
theorem dX10_alike_58 : decode cX10_alike 58 = .ok (.iconst 0, 1) := by decide +kernel
theorem dX10_alike_59 : decode cX10_alike 59 = .ok (.istore 6, 2) := by decide +kernel
theorem dX10_alike_61 : decode cX10_alike 61 = .ok (.iload 6, 2) := by decide +kernel
theorem dX10_alike_63 : decode cX10_alike 63 = .ok (.bipush 15, 2) := by decide +kernel
theorem dX10_alike_65 : decode cX10_alike 65 = .ok (.if_icmp .ge 81, 3) := by decide +kernel
theorem dX10_alike_68 : decode cX10_alike 68 = .ok (.iconst 0, 1) := by decide +kernel
theorem dX10_alike_69 : decode cX10_alike 69 = .ok (.istore 7, 2) := by decide +kernel
theorem dX10_alike_71 : decode cX10_alike 71 = .ok (.iload 7, 2) := by decide +kernel
theorem dX10_alike_73 : decode cX10_alike 73 = .ok (.bipush 15, 2) := by decide +kernel
theorem dX10_alike_75 : decode cX10_alike 75 = .ok (.if_icmp .ge 65, 3) := by decide +kernel
theorem dX10_alike_78 : decode cX10_alike 78 = .ok (.iload 5, 2) := by decide +kernel
theorem dX10_alike_80 : decode cX10_alike 80 = .ok (.aload_n 0, 1) := by decide +kernel
theorem dX10_alike_81 : decode cX10_alike 81 = .ok (.getfield 74, 3) := by decide +kernel
theorem dX10_alike_84 : decode cX10_alike 84 = .ok (.bipush 15, 2) := by decide +kernel
theorem dX10_alike_86 : decode cX10_alike 86 = .ok (.iload_n 2, 1) := by decide +kernel
theorem dX10_alike_87 : decode cX10_alike 87 = .ok (.imul, 1) := by decide +kernel
theorem dX10_alike_88 : decode cX10_alike 88 = .ok (.iload 6, 2) := by decide +kernel
theorem dX10_alike_90 : decode cX10_alike 90 = .ok (.iadd, 1) := by decide +kernel
theorem dX10_alike_91 : decode cX10_alike 91 = .ok (.iaload, 1) := by decide +kernel
theorem dX10_alike_92 : decode cX10_alike 92 = .ok (.ifCond .le 38, 3) := by decide +kernel
theorem dX10_alike_95 : decode cX10_alike 95 = .ok (.aload_n 0, 1) := by decide +kernel
theorem dX10_alike_96 : decode cX10_alike 96 = .ok (.getfield 74, 3) := by decide +kernel
theorem dX10_alike_99 : decode cX10_alike 99 = .ok (.bipush 15, 2) := by decide +kernel
theorem dX10_alike_101 : decode cX10_alike 101 = .ok (.iload_n 2, 1) := by decide +kernel
theorem dX10_alike_102 : decode cX10_alike 102 = .ok (.imul, 1) := by decide +kernel
theorem dX10_alike_103 : decode cX10_alike 103 = .ok (.iload 6, 2) := by decide +kernel
theorem dX10_alike_105 : decode cX10_alike 105 = .ok (.iadd, 1) := by decide +kernel
theorem dX10_alike_106 : decode cX10_alike 106 = .ok (.iaload, 1) := by decide +kernel
theorem dX10_alike_107 : decode cX10_alike 107 = .ok (.aload_n 0, 1) := by decide +kernel
theorem dX10_alike_108 : decode cX10_alike 108 = .ok (.getfield 74, 3) := by decide +kernel
theorem dX10_alike_111 : decode cX10_alike 111 = .ok (.bipush 45, 2) := by decide +kernel
theorem dX10_alike_113 : decode cX10_alike 113 = .ok (.bipush 15, 2) := by decide +kernel
theorem dX10_alike_115 : decode cX10_alike 115 = .ok (.iload 4, 2) := by decide +kernel
theorem dX10_alike_117 : decode cX10_alike 117 = .ok (.imul, 1) := by decide +kernel
theorem dX10_alike_118 : decode cX10_alike 118 = .ok (.iadd, 1) := by decide +kernel
theorem dX10_alike_119 : decode cX10_alike 119 = .ok (.iload 7, 2) := by decide +kernel
theorem dX10_alike_121 : decode cX10_alike 121 = .ok (.iadd, 1) := by decide +kernel
theorem dX10_alike_122 : decode cX10_alike 122 = .ok (.iaload, 1) := by decide +kernel
theorem dX10_alike_123 : decode cX10_alike 123 = .ok (.if_icmp .ne 7, 3) := by decide +kernel
theorem dX10_alike_126 : decode cX10_alike 126 = .ok (.iconst 1, 1) := by decide +kernel
theorem dX10_alike_127 : decode cX10_alike 127 = .ok (.goto 4, 3) := by decide +kernel
theorem dX10_alike_130 : decode cX10_alike 130 = .ok (.iconst 0, 1) := by decide +kernel
theorem dX10_alike_131 : decode cX10_alike 131 = .ok (.iadd, 1) := by decide +kernel
theorem dX10_alike_132 : decode cX10_alike 132 = .ok (.istore 5, 2) := by decide +kernel
theorem dX10_alike_134 : decode cX10_alike 134 = .ok (.iinc 7 1, 3) := by decide +kernel
theorem dX10_alike_137 : decode cX10_alike 137 = .ok (.goto (-66), 3) := by decide +kernel
theorem dX10_alike_140 : decode cX10_alike 140 = .ok (.iinc 6 1, 3) := by decide +kernel
theorem dX10_alike_143 : decode cX10_alike 143 = .ok (.goto (-82), 3) := by decide +kernel
theorem dX10_alike_146 : decode cX10_alike 146 = .ok (.iload 5, 2) := by decide +kernel
theorem dX10_alike_148 : decode cX10_alike 148 = .ok (.ireturn, 1) := by decide +kernel
theorem dX10_sell_0 : decode cX10_sell 0 = .ok (.aload_n 0, 1) := by decide +kernel
theorem dX10_sell_1 : decode cX10_sell 1 = .ok (.iconst 0, 1) := by decide +kernel
theorem dX10_sell_2 : decode cX10_sell 2 = .ok (.putfield 95, 3) := by decide +kernel
theorem dX10_sell_5 : decode cX10_sell 5 = .ok (.aload_n 0, 1) := by decide +kernel
theorem dX10_sell_6 : decode cX10_sell 6 = .ok (.iload_n 1, 1) := by decide +kernel
theorem dX10_sell_7 : decode cX10_sell 7 = .ok (.invokevirtual 342, 3) := by decide +kernel
theorem dX10_sell_10 : decode cX10_sell 10 = .ok (.ifCond .ne 6, 3) := by decide +kernel
theorem dX10_sell_13 : decode cX10_sell 13 = .ok (.bipush (-2), 2) := by decide +kernel
theorem dX10_sell_15 : decode cX10_sell 15 = .ok (.ireturn, 1) := by decide +kernel
theorem dX10_sell_16 : decode cX10_sell 16 = .ok (.aload_n 0, 1) := by decide +kernel
theorem dX10_sell_17 : decode cX10_sell 17 = .ok (.getfield 34, 3) := by decide +kernel
theorem dX10_sell_20 : decode cX10_sell 20 = .ok (.iconst 4, 1) := by decide +kernel
theorem dX10_sell_21 : decode cX10_sell 21 = .ok (.iaload, 1) := by decide +kernel
theorem dX10_sell_22 : decode cX10_sell 22 = .ok (.bipush 8, 2) := by decide +kernel
theorem dX10_sell_24 : decode cX10_sell 24 = .ok (.if_icmp .ne 6, 3) := by decide +kernel
theorem dX10_sell_27 : decode cX10_sell 27 = .ok (.bipush (-3), 2) := by decide +kernel
theorem dX10_sell_29 : decode cX10_sell 29 = .ok (.ireturn, 1) := by decide +kernel
theorem dX10_sell_30 : decode cX10_sell 30 = .ok (.aload_n 0, 1) := by decide +kernel
theorem dX10_sell_31 : decode cX10_sell 31 = .ok (.iconst 0, 1) := by decide +kernel
theorem dX10_sell_32 : decode cX10_sell 32 = .ok (.iload_n 1, 1) := by decide +kernel
theorem dX10_sell_33 : decode cX10_sell 33 = .ok (.invokevirtual 215, 3) := by decide +kernel
theorem dX10_sell_36 : decode cX10_sell 36 = .ok (.ifCond .eq 6, 3) := by decide +kernel
theorem dX10_sell_39 : decode cX10_sell 39 = .ok (.bipush (-5), 2) := by decide +kernel
theorem dX10_sell_41 : decode cX10_sell 41 = .ok (.ireturn, 1) := by decide +kernel
theorem dX10_sell_42 : decode cX10_sell 42 = .ok (.aload_n 0, 1) := by decide +kernel
theorem dX10_sell_43 : decode cX10_sell 43 = .ok (.getfield 43, 3) := by decide +kernel
theorem dX10_sell_46 : decode cX10_sell 46 = .ok (.aload_n 0, 1) := by decide +kernel
theorem dX10_sell_47 : decode cX10_sell 47 = .ok (.getfield 34, 3) := by decide +kernel
theorem dX10_sell_50 : decode cX10_sell 50 = .ok (.iconst 4, 1) := by decide +kernel
theorem dX10_sell_51 : decode cX10_sell 51 = .ok (.iaload, 1) := by decide +kernel
theorem dX10_sell_52 : decode cX10_sell 52 = .ok (.iload_n 1, 1) := by decide +kernel
theorem dX10_sell_53 : decode cX10_sell 53 = .ok (.iastore, 1) := by decide +kernel
theorem dX10_sell_54 : decode cX10_sell 54 = .ok (.aload_n 0, 1) := by decide +kernel
theorem dX10_sell_55 : decode cX10_sell 55 = .ok (.getfield 34, 3) := by decide +kernel
theorem dX10_sell_58 : decode cX10_sell 58 = .ok (.iconst 4, 1) := by decide +kernel
theorem dX10_sell_59 : decode cX10_sell 59 = .ok (.dup2, 1) := by decide +kernel
theorem dX10_sell_60 : decode cX10_sell 60 = .ok (.iaload, 1) := by decide +kernel
theorem dX10_sell_61 : decode cX10_sell 61 = .ok (.iconst 1, 1) := by decide +kernel
theorem dX10_sell_62 : decode cX10_sell 62 = .ok (.iadd, 1) := by decide +kernel
theorem dX10_sell_63 : decode cX10_sell 63 = .ok (.iastore, 1) := by decide +kernel
theorem dX10_sell_64 : decode cX10_sell 64 = .ok (.aload_n 0, 1) := by decide +kernel
theorem dX10_sell_65 : decode cX10_sell 65 = .ok (.getfield 34, 3) := by decide +kernel
theorem dX10_sell_68 : decode cX10_sell 68 = .ok (.iconst 4, 1) := by decide +kernel
theorem dX10_sell_69 : decode cX10_sell 69 = .ok (.iaload, 1) := by decide +kernel
theorem dX10_sell_70 : decode cX10_sell 70 = .ok (.ireturn, 1) := by decide +kernel
theorem dX10_unsell_0 : decode cX10_unsell 0 = .ok (.aload_n 0, 1) := by decide +kernel
theorem dX10_unsell_1 : decode cX10_unsell 1 = .ok (.iconst 0, 1) := by decide +kernel
theorem dX10_unsell_2 : decode cX10_unsell 2 = .ok (.putfield 95, 3) := by decide +kernel
theorem dX10_unsell_5 : decode cX10_unsell 5 = .ok (.aload_n 0, 1) := by decide +kernel
theorem dX10_unsell_6 : decode cX10_unsell 6 = .ok (.invokevirtual 324, 3) := by decide +kernel
theorem dX10_unsell_9 : decode cX10_unsell 9 = .ok (.ifCond .ne 6, 3) := by decide +kernel
theorem dX10_unsell_12 : decode cX10_unsell 12 = .ok (.bipush (-2), 2) := by decide +kernel
theorem dX10_unsell_14 : decode cX10_unsell 14 = .ok (.ireturn, 1) := by decide +kernel
theorem dX10_unsell_15 : decode cX10_unsell 15 = .ok (.aload_n 0, 1) := by decide +kernel
theorem dX10_unsell_16 : decode cX10_unsell 16 = .ok (.getfield 34, 3) := by decide +kernel
theorem dX10_unsell_19 : decode cX10_unsell 19 = .ok (.iconst 4, 1) := by decide +kernel
theorem dX10_unsell_20 : decode cX10_unsell 20 = .ok (.iaload, 1) := by decide +kernel
theorem dX10_unsell_21 : decode cX10_unsell 21 = .ok (.ifCond .ne 5, 3) := by decide +kernel
theorem dX10_unsell_24 : decode cX10_unsell 24 = .ok (.iconst 0, 1) := by decide +kernel
theorem dX10_unsell_25 : decode cX10_unsell 25 = .ok (.ireturn, 1) := by decide +kernel
theorem dX10_unsell_26 : decode cX10_unsell 26 = .ok (.aload_n 0, 1) := by decide +kernel
theorem dX10_unsell_27 : decode cX10_unsell 27 = .ok (.getfield 34, 3) := by decide +kernel
theorem dX10_unsell_30 : decode cX10_unsell 30 = .ok (.iconst 4, 1) := by decide +kernel
theorem dX10_unsell_31 : decode cX10_unsell 31 = .ok (.dup2, 1) := by decide +kernel
theorem dX10_unsell_32 : decode cX10_unsell 32 = .ok (.iaload, 1) := by decide +kernel
theorem dX10_unsell_33 : decode cX10_unsell 33 = .ok (.iconst 1, 1) := by decide +kernel
theorem dX10_unsell_34 : decode cX10_unsell 34 = .ok (.isub, 1) := by decide +kernel
theorem dX10_unsell_35 : decode cX10_unsell 35 = .ok (.iastore, 1) := by decide +kernel
theorem dX10_unsell_36 : decode cX10_unsell 36 = .ok (.iconst 1, 1) := by decide +kernel
theorem dX10_unsell_37 : decode cX10_unsell 37 = .ok (.ireturn, 1) := by decide +kernel
theorem dX10_sold_0 : decode cX10_sold 0 = .ok (.aload_n 0, 1) := by decide +kernel
theorem dX10_sold_1 : decode cX10_sold 1 = .ok (.iconst 0, 1) := by decide +kernel
theorem dX10_sold_2 : decode cX10_sold 2 = .ok (.putfield 95, 3) := by decide +kernel
theorem dX10_sold_5 : decode cX10_sold 5 = .ok (.iload_n 1, 1) := by decide +kernel
theorem dX10_sold_6 : decode cX10_sold 6 = .ok (.i2l, 1) := by decide +kernel
theorem dX10_sold_7 : decode cX10_sold 7 = .ok (.lconst 0, 1) := by decide +kernel
theorem dX10_sold_8 : decode cX10_sold 8 = .ok (.aload_n 0, 1) := by decide +kernel
theorem dX10_sold_9 : decode cX10_sold 9 = .ok (.getfield 34, 3) := by decide +kernel
theorem dX10_sold_12 : decode cX10_sold 12 = .ok (.iconst 4, 1) := by decide +kernel
theorem dX10_sold_13 : decode cX10_sold 13 = .ok (.iaload, 1) := by decide +kernel
theorem dX10_sold_14 : decode cX10_sold 14 = .ok (.iconst 1, 1) := by decide +kernel
theorem dX10_sold_15 : decode cX10_sold 15 = .ok (.isub, 1) := by decide +kernel
theorem dX10_sold_16 : decode cX10_sold 16 = .ok (.i2l, 1) := by decide +kernel
theorem dX10_sold_17 : decode cX10_sold 17 = .ok (.invokestatic 100, 3) := by decide +kernel
theorem dX10_sold_20 : decode cX10_sold 20 = .ok (.ifCond .eq 12, 3) := by decide +kernel
theorem dX10_sold_23 : decode cX10_sold 23 = .ok (.aload_n 0, 1) := by decide +kernel
theorem dX10_sold_24 : decode cX10_sold 24 = .ok (.getfield 43, 3) := by decide +kernel
theorem dX10_sold_27 : decode cX10_sold 27 = .ok (.iload_n 1, 1) := by decide +kernel
theorem dX10_sold_28 : decode cX10_sold 28 = .ok (.iaload, 1) := by decide +kernel
theorem dX10_sold_29 : decode cX10_sold 29 = .ok (.goto 4, 3) := by decide +kernel
theorem dX10_sold_32 : decode cX10_sold 32 = .ok (.iconst (-1), 1) := by decide +kernel
theorem dX10_sold_33 : decode cX10_sold 33 = .ok (.ireturn, 1) := by decide +kernel
theorem dX10_caller_0 : decode cX10_caller 0 = .ok (.aload_n 0, 1) := by decide +kernel
theorem dX10_caller_1 : decode cX10_caller 1 = .ok (.iconst 0, 1) := by decide +kernel
theorem dX10_caller_2 : decode cX10_caller 2 = .ok (.putfield 95, 3) := by decide +kernel
theorem dX10_caller_5 : decode cX10_caller 5 = .ok (.aload_n 0, 1) := by decide +kernel
theorem dX10_caller_6 : decode cX10_caller 6 = .ok (.invokevirtual 324, 3) := by decide +kernel
theorem dX10_caller_9 : decode cX10_caller 9 = .ok (.ifCond .eq 15, 3) := by decide +kernel
theorem dX10_caller_12 : decode cX10_caller 12 = .ok (.iload_n 1, 1) := by decide +kernel
theorem dX10_caller_13 : decode cX10_caller 13 = .ok (.i2l, 1) := by decide +kernel
theorem dX10_caller_14 : decode cX10_caller 14 = .ok (.lconst 0, 1) := by decide +kernel
theorem dX10_caller_15 : decode cX10_caller 15 = .ok (.ldc2_w 348, 3) := by decide +kernel
theorem dX10_caller_18 : decode cX10_caller 18 = .ok (.invokestatic 100, 3) := by decide +kernel
theorem dX10_caller_21 : decode cX10_caller 21 = .ok (.ifCond .ne 6, 3) := by decide +kernel
theorem dX10_caller_24 : decode cX10_caller 24 = .ok (.bipush (-2), 2) := by decide +kernel
theorem dX10_caller_26 : decode cX10_caller 26 = .ok (.ireturn, 1) := by decide +kernel
theorem dX10_caller_27 : decode cX10_caller 27 = .ok (.aload_n 0, 1) := by decide +kernel
theorem dX10_caller_28 : decode cX10_caller 28 = .ok (.iconst 0, 1) := by decide +kernel
theorem dX10_caller_29 : decode cX10_caller 29 = .ok (.iload_n 1, 1) := by decide +kernel
theorem dX10_caller_30 : decode cX10_caller 30 = .ok (.i2l, 1) := by decide +kernel
theorem dX10_caller_31 : decode cX10_caller 31 = .ok (.invokevirtual 252, 3) := by decide +kernel
theorem dX10_caller_34 : decode cX10_caller 34 = .ok (.iconst 0, 1) := by decide +kernel
theorem dX10_caller_35 : decode cX10_caller 35 = .ok (.ireturn, 1) := by decide +kernel
theorem dX10_calls_0 : decode cX10_calls 0 = .ok (.aload_n 0, 1) := by decide +kernel
theorem dX10_calls_1 : decode cX10_calls 1 = .ok (.iconst 0, 1) := by decide +kernel
theorem dX10_calls_2 : decode cX10_calls 2 = .ok (.putfield 95, 3) := by decide +kernel
theorem dX10_calls_5 : decode cX10_calls 5 = .ok (.aload_n 0, 1) := by decide +kernel
theorem dX10_calls_6 : decode cX10_calls 6 = .ok (.iload_n 1, 1) := by decide +kernel
theorem dX10_calls_7 : decode cX10_calls 7 = .ok (.invokevirtual 339, 3) := by decide +kernel
theorem dX10_calls_10 : decode cX10_calls 10 = .ok (.istore_n 2, 1) := by decide +kernel
theorem dX10_calls_11 : decode cX10_calls 11 = .ok (.iload_n 2, 1) := by decide +kernel
theorem dX10_calls_12 : decode cX10_calls 12 = .ok (.ifCond .eq 5, 3) := by decide +kernel
theorem dX10_calls_15 : decode cX10_calls 15 = .ok (.iload_n 2, 1) := by decide +kernel
theorem dX10_calls_16 : decode cX10_calls 16 = .ok (.ireturn, 1) := by decide +kernel
theorem dX10_calls_17 : decode cX10_calls 17 = .ok (.aload_n 0, 1) := by decide +kernel
theorem dX10_calls_18 : decode cX10_calls 18 = .ok (.getfield 13, 3) := by decide +kernel
theorem dX10_calls_21 : decode cX10_calls 21 = .ok (.iload_n 1, 1) := by decide +kernel
theorem dX10_calls_22 : decode cX10_calls 22 = .ok (.iaload, 1) := by decide +kernel
theorem dX10_calls_23 : decode cX10_calls 23 = .ok (.aload_n 0, 1) := by decide +kernel
theorem dX10_calls_24 : decode cX10_calls 24 = .ok (.invokevirtual 332, 3) := by decide +kernel
theorem dX10_calls_27 : decode cX10_calls 27 = .ok (.if_icmp .eq 6, 3) := by decide +kernel
theorem dX10_calls_30 : decode cX10_calls 30 = .ok (.bipush (-2), 2) := by decide +kernel
theorem dX10_calls_32 : decode cX10_calls 32 = .ok (.ireturn, 1) := by decide +kernel
theorem dX10_calls_33 : decode cX10_calls 33 = .ok (.iconst 0, 1) := by decide +kernel
theorem dX10_calls_34 : decode cX10_calls 34 = .ok (.istore_n 3, 1) := by decide +kernel
theorem dX10_calls_35 : decode cX10_calls 35 = .ok (.iload_n 3, 1) := by decide +kernel
theorem dX10_calls_36 : decode cX10_calls 36 = .ok (.aload_n 0, 1) := by decide +kernel
theorem dX10_calls_37 : decode cX10_calls 37 = .ok (.getfield 13, 3) := by decide +kernel
theorem dX10_calls_40 : decode cX10_calls 40 = .ok (.iload_n 1, 1) := by decide +kernel
theorem dX10_calls_41 : decode cX10_calls 41 = .ok (.iaload, 1) := by decide +kernel
theorem dX10_calls_42 : decode cX10_calls 42 = .ok (.if_icmp .ge 75, 3) := by decide +kernel
theorem dX10_calls_45 : decode cX10_calls 45 = .ok (.aload_n 0, 1) := by decide +kernel
theorem dX10_calls_46 : decode cX10_calls 46 = .ok (.aload_n 0, 1) := by decide +kernel
theorem dX10_calls_47 : decode cX10_calls 47 = .ok (.getfield 16, 3) := by decide +kernel
theorem dX10_calls_50 : decode cX10_calls 50 = .ok (.bipush 60, 2) := by decide +kernel
theorem dX10_calls_52 : decode cX10_calls 52 = .ok (.iload_n 1, 1) := by decide +kernel
theorem dX10_calls_53 : decode cX10_calls 53 = .ok (.imul, 1) := by decide +kernel
theorem dX10_calls_54 : decode cX10_calls 54 = .ok (.iload_n 3, 1) := by decide +kernel
theorem dX10_calls_55 : decode cX10_calls 55 = .ok (.iadd, 1) := by decide +kernel
theorem dX10_calls_56 : decode cX10_calls 56 = .ok (.laload, 1) := by decide +kernel
theorem dX10_calls_57 : decode cX10_calls 57 = .ok (.invokevirtual 345, 3) := by decide +kernel
theorem dX10_calls_60 : decode cX10_calls 60 = .ok (.ifCond .ne 6, 3) := by decide +kernel
theorem dX10_calls_63 : decode cX10_calls 63 = .ok (.bipush (-2), 2) := by decide +kernel
theorem dX10_calls_65 : decode cX10_calls 65 = .ok (.ireturn, 1) := by decide +kernel
theorem dX10_calls_66 : decode cX10_calls 66 = .ok (.iconst 0, 1) := by decide +kernel
theorem dX10_calls_67 : decode cX10_calls 67 = .ok (.istore 4, 2) := by decide +kernel
theorem dX10_calls_69 : decode cX10_calls 69 = .ok (.iload 4, 2) := by decide +kernel
theorem dX10_calls_71 : decode cX10_calls 71 = .ok (.iload_n 3, 1) := by decide +kernel
theorem dX10_calls_72 : decode cX10_calls 72 = .ok (.if_icmp .ge 39, 3) := by decide +kernel
theorem dX10_calls_75 : decode cX10_calls 75 = .ok (.aload_n 0, 1) := by decide +kernel
theorem dX10_calls_76 : decode cX10_calls 76 = .ok (.getfield 16, 3) := by decide +kernel
theorem dX10_calls_79 : decode cX10_calls 79 = .ok (.bipush 60, 2) := by decide +kernel
theorem dX10_calls_81 : decode cX10_calls 81 = .ok (.iload_n 1, 1) := by decide +kernel
theorem dX10_calls_82 : decode cX10_calls 82 = .ok (.imul, 1) := by decide +kernel
theorem dX10_calls_83 : decode cX10_calls 83 = .ok (.iload 4, 2) := by decide +kernel
theorem dX10_calls_85 : decode cX10_calls 85 = .ok (.iadd, 1) := by decide +kernel
theorem dX10_calls_86 : decode cX10_calls 86 = .ok (.laload, 1) := by decide +kernel
theorem dX10_calls_87 : decode cX10_calls 87 = .ok (.aload_n 0, 1) := by decide +kernel
theorem dX10_calls_88 : decode cX10_calls 88 = .ok (.getfield 16, 3) := by decide +kernel
theorem dX10_calls_91 : decode cX10_calls 91 = .ok (.bipush 60, 2) := by decide +kernel
theorem dX10_calls_93 : decode cX10_calls 93 = .ok (.iload_n 1, 1) := by decide +kernel
theorem dX10_calls_94 : decode cX10_calls 94 = .ok (.imul, 1) := by decide +kernel
theorem dX10_calls_95 : decode cX10_calls 95 = .ok (.iload_n 3, 1) := by decide +kernel
theorem dX10_calls_96 : decode cX10_calls 96 = .ok (.iadd, 1) := by decide +kernel
theorem dX10_calls_97 : decode cX10_calls 97 = .ok (.laload, 1) := by decide +kernel
theorem dX10_calls_98 : decode cX10_calls 98 = .ok (.lcmp, 1) := by decide +kernel
theorem dX10_calls_99 : decode cX10_calls 99 = .ok (.ifCond .ne 6, 3) := by decide +kernel
theorem dX10_calls_102 : decode cX10_calls 102 = .ok (.bipush (-2), 2) := by decide +kernel
theorem dX10_calls_104 : decode cX10_calls 104 = .ok (.ireturn, 1) := by decide +kernel
theorem dX10_calls_105 : decode cX10_calls 105 = .ok (.iinc 4 1, 3) := by decide +kernel
theorem dX10_calls_108 : decode cX10_calls 108 = .ok (.goto (-39), 3) := by decide +kernel
theorem dX10_calls_111 : decode cX10_calls 111 = .ok (.iinc 3 1, 3) := by decide +kernel
theorem dX10_calls_114 : decode cX10_calls 114 = .ok (.goto (-79), 3) := by decide +kernel
theorem dX10_calls_117 : decode cX10_calls 117 = .ok (.iconst 0, 1) := by decide +kernel
theorem dX10_calls_118 : decode cX10_calls 118 = .ok (.istore_n 3, 1) := by decide +kernel
theorem dX10_calls_119 : decode cX10_calls 119 = .ok (.iload_n 3, 1) := by decide +kernel
theorem dX10_calls_120 : decode cX10_calls 120 = .ok (.aload_n 0, 1) := by decide +kernel
theorem dX10_calls_121 : decode cX10_calls 121 = .ok (.getfield 13, 3) := by decide +kernel
theorem dX10_calls_124 : decode cX10_calls 124 = .ok (.iload_n 1, 1) := by decide +kernel
theorem dX10_calls_125 : decode cX10_calls 125 = .ok (.iaload, 1) := by decide +kernel
theorem dX10_calls_126 : decode cX10_calls 126 = .ok (.if_icmp .ge 27, 3) := by decide +kernel
theorem dX10_calls_129 : decode cX10_calls 129 = .ok (.aload_n 0, 1) := by decide +kernel
theorem dX10_calls_130 : decode cX10_calls 130 = .ok (.getfield 46, 3) := by decide +kernel
theorem dX10_calls_133 : decode cX10_calls 133 = .ok (.iload_n 3, 1) := by decide +kernel
theorem dX10_calls_134 : decode cX10_calls 134 = .ok (.aload_n 0, 1) := by decide +kernel
theorem dX10_calls_135 : decode cX10_calls 135 = .ok (.getfield 16, 3) := by decide +kernel
theorem dX10_calls_138 : decode cX10_calls 138 = .ok (.bipush 60, 2) := by decide +kernel
theorem dX10_calls_140 : decode cX10_calls 140 = .ok (.iload_n 1, 1) := by decide +kernel
theorem dX10_calls_141 : decode cX10_calls 141 = .ok (.imul, 1) := by decide +kernel
theorem dX10_calls_142 : decode cX10_calls 142 = .ok (.iload_n 3, 1) := by decide +kernel
theorem dX10_calls_143 : decode cX10_calls 143 = .ok (.iadd, 1) := by decide +kernel
theorem dX10_calls_144 : decode cX10_calls 144 = .ok (.laload, 1) := by decide +kernel
theorem dX10_calls_145 : decode cX10_calls 145 = .ok (.l2i, 1) := by decide +kernel
theorem dX10_calls_146 : decode cX10_calls 146 = .ok (.iastore, 1) := by decide +kernel
theorem dX10_calls_147 : decode cX10_calls 147 = .ok (.iinc 3 1, 3) := by decide +kernel
theorem dX10_calls_150 : decode cX10_calls 150 = .ok (.goto (-31), 3) := by decide +kernel
theorem dX10_calls_153 : decode cX10_calls 153 = .ok (.iconst 0, 1) := by decide +kernel
theorem dX10_calls_154 : decode cX10_calls 154 = .ok (.ireturn, 1) := by decide +kernel
theorem dX10_call_0 : decode cX10_call 0 = .ok (.aload_n 0, 1) := by decide +kernel
theorem dX10_call_1 : decode cX10_call 1 = .ok (.iconst 0, 1) := by decide +kernel
theorem dX10_call_2 : decode cX10_call 2 = .ok (.putfield 95, 3) := by decide +kernel
theorem dX10_call_5 : decode cX10_call 5 = .ok (.iload_n 1, 1) := by decide +kernel
theorem dX10_call_6 : decode cX10_call 6 = .ok (.i2l, 1) := by decide +kernel
theorem dX10_call_7 : decode cX10_call 7 = .ok (.lconst 0, 1) := by decide +kernel
theorem dX10_call_8 : decode cX10_call 8 = .ok (.aload_n 0, 1) := by decide +kernel
theorem dX10_call_9 : decode cX10_call 9 = .ok (.invokevirtual 332, 3) := by decide +kernel
theorem dX10_call_12 : decode cX10_call 12 = .ok (.iconst 1, 1) := by decide +kernel
theorem dX10_call_13 : decode cX10_call 13 = .ok (.isub, 1) := by decide +kernel
theorem dX10_call_14 : decode cX10_call 14 = .ok (.i2l, 1) := by decide +kernel
theorem dX10_call_15 : decode cX10_call 15 = .ok (.invokestatic 100, 3) := by decide +kernel
theorem dX10_call_18 : decode cX10_call 18 = .ok (.ifCond .eq 12, 3) := by decide +kernel
theorem dX10_call_21 : decode cX10_call 21 = .ok (.aload_n 0, 1) := by decide +kernel
theorem dX10_call_22 : decode cX10_call 22 = .ok (.getfield 46, 3) := by decide +kernel
theorem dX10_call_25 : decode cX10_call 25 = .ok (.iload_n 1, 1) := by decide +kernel
theorem dX10_call_26 : decode cX10_call 26 = .ok (.iaload, 1) := by decide +kernel
theorem dX10_call_27 : decode cX10_call 27 = .ok (.goto 4, 3) := by decide +kernel
theorem dX10_call_30 : decode cX10_call 30 = .ok (.iconst (-1), 1) := by decide +kernel
theorem dX10_call_31 : decode cX10_call 31 = .ok (.ireturn, 1) := by decide +kernel
theorem dX10_calledIn_0 : decode cX10_calledIn 0 = .ok (.iconst 0, 1) := by decide +kernel
theorem dX10_calledIn_1 : decode cX10_calledIn 1 = .ok (.istore_n 3, 1) := by decide +kernel
theorem dX10_calledIn_2 : decode cX10_calledIn 2 = .ok (.iload_n 3, 1) := by decide +kernel
theorem dX10_calledIn_3 : decode cX10_calledIn 3 = .ok (.aload_n 0, 1) := by decide +kernel
theorem dX10_calledIn_4 : decode cX10_calledIn 4 = .ok (.invokevirtual 332, 3) := by decide +kernel
theorem dX10_calledIn_7 : decode cX10_calledIn 7 = .ok (.if_icmp .ge 28, 3) := by decide +kernel
theorem dX10_calledIn_10 : decode cX10_calledIn 10 = .ok (.aload_n 0, 1) := by decide +kernel
theorem dX10_calledIn_11 : decode cX10_calledIn 11 = .ok (.getfield 46, 3) := by decide +kernel
theorem dX10_calledIn_14 : decode cX10_calledIn 14 = .ok (.bipush 45, 2) := by decide +kernel
theorem dX10_calledIn_16 : decode cX10_calledIn 16 = .ok (.iload_n 1, 1) := by decide +kernel
theorem dX10_calledIn_17 : decode cX10_calledIn 17 = .ok (.imul, 1) := by decide +kernel
theorem dX10_calledIn_18 : decode cX10_calledIn 18 = .ok (.iload_n 3, 1) := by decide +kernel
theorem dX10_calledIn_19 : decode cX10_calledIn 19 = .ok (.iadd, 1) := by decide +kernel
theorem dX10_calledIn_20 : decode cX10_calledIn 20 = .ok (.iaload, 1) := by decide +kernel
theorem dX10_calledIn_21 : decode cX10_calledIn 21 = .ok (.iload_n 2, 1) := by decide +kernel
theorem dX10_calledIn_22 : decode cX10_calledIn 22 = .ok (.if_icmp .ne 7, 3) := by decide +kernel
theorem dX10_calledIn_25 : decode cX10_calledIn 25 = .ok (.iload_n 3, 1) := by decide +kernel
theorem dX10_calledIn_26 : decode cX10_calledIn 26 = .ok (.iconst 1, 1) := by decide +kernel
theorem dX10_calledIn_27 : decode cX10_calledIn 27 = .ok (.iadd, 1) := by decide +kernel
theorem dX10_calledIn_28 : decode cX10_calledIn 28 = .ok (.ireturn, 1) := by decide +kernel
theorem dX10_calledIn_29 : decode cX10_calledIn 29 = .ok (.iinc 3 1, 3) := by decide +kernel
theorem dX10_calledIn_32 : decode cX10_calledIn 32 = .ok (.goto (-30), 3) := by decide +kernel
theorem dX10_calledIn_35 : decode cX10_calledIn 35 = .ok (.iconst (-1), 1) := by decide +kernel
theorem dX10_calledIn_36 : decode cX10_calledIn 36 = .ok (.ireturn, 1) := by decide +kernel
theorem dX10_called_0 : decode cX10_called 0 = .ok (.aload_n 0, 1) := by decide +kernel
theorem dX10_called_1 : decode cX10_called 1 = .ok (.iconst 0, 1) := by decide +kernel
theorem dX10_called_2 : decode cX10_called 2 = .ok (.putfield 95, 3) := by decide +kernel
theorem dX10_called_5 : decode cX10_called 5 = .ok (.aload_n 0, 1) := by decide +kernel
theorem dX10_called_6 : decode cX10_called 6 = .ok (.iload_n 1, 1) := by decide +kernel
theorem dX10_called_7 : decode cX10_called 7 = .ok (.i2l, 1) := by decide +kernel
theorem dX10_called_8 : decode cX10_called 8 = .ok (.invokevirtual 345, 3) := by decide +kernel
theorem dX10_called_11 : decode cX10_called 11 = .ok (.ifCond .eq 12, 3) := by decide +kernel
theorem dX10_called_14 : decode cX10_called 14 = .ok (.aload_n 0, 1) := by decide +kernel
theorem dX10_called_15 : decode cX10_called 15 = .ok (.iconst 0, 1) := by decide +kernel
theorem dX10_called_16 : decode cX10_called 16 = .ok (.iload_n 1, 1) := by decide +kernel
theorem dX10_called_17 : decode cX10_called 17 = .ok (.invokevirtual 350, 3) := by decide +kernel
theorem dX10_called_20 : decode cX10_called 20 = .ok (.goto 5, 3) := by decide +kernel
theorem dX10_called_23 : decode cX10_called 23 = .ok (.bipush (-2), 2) := by decide +kernel
theorem dX10_called_25 : decode cX10_called 25 = .ok (.ireturn, 1) := by decide +kernel
theorem dX10_lackOf_0 : decode cX10_lackOf 0 = .ok (.iconst 0, 1) := by decide +kernel
theorem dX10_lackOf_1 : decode cX10_lackOf 1 = .ok (.istore 5, 2) := by decide +kernel
theorem dX10_lackOf_3 : decode cX10_lackOf 3 = .ok (.iconst 0, 1) := by decide +kernel
theorem dX10_lackOf_4 : decode cX10_lackOf 4 = .ok (.istore 6, 2) := by decide +kernel
theorem dX10_lackOf_6 : decode cX10_lackOf 6 = .ok (.iload 6, 2) := by decide +kernel
theorem dX10_lackOf_8 : decode cX10_lackOf 8 = .ok (.iconst 5, 1) := by decide +kernel
theorem dX10_lackOf_9 : decode cX10_lackOf 9 = .ok (.if_icmp .ge 60, 3) := by decide +kernel
theorem dX10_lackOf_12 : decode cX10_lackOf 12 = .ok (.iload 5, 2) := by decide +kernel
theorem dX10_lackOf_14 : decode cX10_lackOf 14 = .ok (.aload_n 0, 1) := by decide +kernel
theorem dX10_lackOf_15 : decode cX10_lackOf 15 = .ok (.getfield 74, 3) := by decide +kernel
theorem dX10_lackOf_18 : decode cX10_lackOf 18 = .ok (.aload_n 0, 1) := by decide +kernel
theorem dX10_lackOf_19 : decode cX10_lackOf 19 = .ok (.iconst 0, 1) := by decide +kernel
theorem dX10_lackOf_20 : decode cX10_lackOf 20 = .ok (.iload_n 2, 1) := by decide +kernel
theorem dX10_lackOf_21 : decode cX10_lackOf 21 = .ok (.iload_n 3, 1) := by decide +kernel
theorem dX10_lackOf_22 : decode cX10_lackOf 22 = .ok (.iload 6, 2) := by decide +kernel
theorem dX10_lackOf_24 : decode cX10_lackOf 24 = .ok (.invokevirtual 314, 3) := by decide +kernel
theorem dX10_lackOf_27 : decode cX10_lackOf 27 = .ok (.iaload, 1) := by decide +kernel
theorem dX10_lackOf_28 : decode cX10_lackOf 28 = .ok (.ifCond .le 31, 3) := by decide +kernel
theorem dX10_lackOf_31 : decode cX10_lackOf 31 = .ok (.aload_n 0, 1) := by decide +kernel
theorem dX10_lackOf_32 : decode cX10_lackOf 32 = .ok (.iload_n 1, 1) := by decide +kernel
theorem dX10_lackOf_33 : decode cX10_lackOf 33 = .ok (.aload_n 0, 1) := by decide +kernel
theorem dX10_lackOf_34 : decode cX10_lackOf 34 = .ok (.getfield 74, 3) := by decide +kernel
theorem dX10_lackOf_37 : decode cX10_lackOf 37 = .ok (.aload_n 0, 1) := by decide +kernel
theorem dX10_lackOf_38 : decode cX10_lackOf 38 = .ok (.iconst 0, 1) := by decide +kernel
theorem dX10_lackOf_39 : decode cX10_lackOf 39 = .ok (.iload_n 2, 1) := by decide +kernel
theorem dX10_lackOf_40 : decode cX10_lackOf 40 = .ok (.iload_n 3, 1) := by decide +kernel
theorem dX10_lackOf_41 : decode cX10_lackOf 41 = .ok (.iload 6, 2) := by decide +kernel
theorem dX10_lackOf_43 : decode cX10_lackOf 43 = .ok (.invokevirtual 314, 3) := by decide +kernel
theorem dX10_lackOf_46 : decode cX10_lackOf 46 = .ok (.iaload, 1) := by decide +kernel
theorem dX10_lackOf_47 : decode cX10_lackOf 47 = .ok (.invokevirtual 350, 3) := by decide +kernel
theorem dX10_lackOf_50 : decode cX10_lackOf 50 = .ok (.iload 4, 2) := by decide +kernel
theorem dX10_lackOf_52 : decode cX10_lackOf 52 = .ok (.if_icmp .le 7, 3) := by decide +kernel
theorem dX10_lackOf_55 : decode cX10_lackOf 55 = .ok (.iconst 1, 1) := by decide +kernel
theorem dX10_lackOf_56 : decode cX10_lackOf 56 = .ok (.goto 4, 3) := by decide +kernel
theorem dX10_lackOf_59 : decode cX10_lackOf 59 = .ok (.iconst 0, 1) := by decide +kernel
theorem dX10_lackOf_60 : decode cX10_lackOf 60 = .ok (.iadd, 1) := by decide +kernel
theorem dX10_lackOf_61 : decode cX10_lackOf 61 = .ok (.istore 5, 2) := by decide +kernel
theorem dX10_lackOf_63 : decode cX10_lackOf 63 = .ok (.iinc 6 1, 3) := by decide +kernel
theorem dX10_lackOf_66 : decode cX10_lackOf 66 = .ok (.goto (-60), 3) := by decide +kernel
theorem dX10_lackOf_69 : decode cX10_lackOf 69 = .ok (.iload 5, 2) := by decide +kernel
theorem dX10_lackOf_71 : decode cX10_lackOf 71 = .ok (.ireturn, 1) := by decide +kernel
theorem dX10_isAsked_0 : decode cX10_isAsked 0 = .ok (.aload_n 0, 1) := by decide +kernel
theorem dX10_isAsked_1 : decode cX10_isAsked 1 = .ok (.iload_n 1, 1) := by decide +kernel
theorem dX10_isAsked_2 : decode cX10_isAsked 2 = .ok (.invokevirtual 342, 3) := by decide +kernel
theorem dX10_isAsked_5 : decode cX10_isAsked 5 = .ok (.ifCond .eq 29, 3) := by decide +kernel
theorem dX10_isAsked_8 : decode cX10_isAsked 8 = .ok (.aload_n 0, 1) := by decide +kernel
theorem dX10_isAsked_9 : decode cX10_isAsked 9 = .ok (.iload_n 2, 1) := by decide +kernel
theorem dX10_isAsked_10 : decode cX10_isAsked 10 = .ok (.invokevirtual 336, 3) := by decide +kernel
theorem dX10_isAsked_13 : decode cX10_isAsked 13 = .ok (.ifCond .eq 21, 3) := by decide +kernel
theorem dX10_isAsked_16 : decode cX10_isAsked 16 = .ok (.iload_n 3, 1) := by decide +kernel
theorem dX10_isAsked_17 : decode cX10_isAsked 17 = .ok (.i2l, 1) := by decide +kernel
theorem dX10_isAsked_18 : decode cX10_isAsked 18 = .ok (.lconst 0, 1) := by decide +kernel
theorem dX10_isAsked_19 : decode cX10_isAsked 19 = .ok (.aload_n 0, 1) := by decide +kernel
theorem dX10_isAsked_20 : decode cX10_isAsked 20 = .ok (.invokevirtual 332, 3) := by decide +kernel
theorem dX10_isAsked_23 : decode cX10_isAsked 23 = .ok (.i2l, 1) := by decide +kernel
theorem dX10_isAsked_24 : decode cX10_isAsked 24 = .ok (.invokestatic 100, 3) := by decide +kernel
theorem dX10_isAsked_27 : decode cX10_isAsked 27 = .ok (.ifCond .eq 7, 3) := by decide +kernel
theorem dX10_isAsked_30 : decode cX10_isAsked 30 = .ok (.iconst 1, 1) := by decide +kernel
theorem dX10_isAsked_31 : decode cX10_isAsked 31 = .ok (.goto 4, 3) := by decide +kernel
theorem dX10_isAsked_34 : decode cX10_isAsked 34 = .ok (.iconst 0, 1) := by decide +kernel
theorem dX10_isAsked_35 : decode cX10_isAsked 35 = .ok (.ireturn, 1) := by decide +kernel
theorem dX10_daubs_0 : decode cX10_daubs 0 = .ok (.aload_n 0, 1) := by decide +kernel
theorem dX10_daubs_1 : decode cX10_daubs 1 = .ok (.iconst 0, 1) := by decide +kernel
theorem dX10_daubs_2 : decode cX10_daubs 2 = .ok (.putfield 95, 3) := by decide +kernel
theorem dX10_daubs_5 : decode cX10_daubs 5 = .ok (.aload_n 0, 1) := by decide +kernel
theorem dX10_daubs_6 : decode cX10_daubs 6 = .ok (.iload_n 1, 1) := by decide +kernel
theorem dX10_daubs_7 : decode cX10_daubs 7 = .ok (.iload_n 2, 1) := by decide +kernel
theorem dX10_daubs_8 : decode cX10_daubs 8 = .ok (.iload_n 3, 1) := by decide +kernel
theorem dX10_daubs_9 : decode cX10_daubs 9 = .ok (.invokevirtual 353, 3) := by decide +kernel
theorem dX10_daubs_12 : decode cX10_daubs 12 = .ok (.ifCond .ne 6, 3) := by decide +kernel
theorem dX10_daubs_15 : decode cX10_daubs 15 = .ok (.bipush (-2), 2) := by decide +kernel
theorem dX10_daubs_17 : decode cX10_daubs 17 = .ok (.ireturn, 1) := by decide +kernel
theorem dX10_daubs_18 : decode cX10_daubs 18 = .ok (.aload_n 0, 1) := by decide +kernel
theorem dX10_daubs_19 : decode cX10_daubs 19 = .ok (.iconst 0, 1) := by decide +kernel
theorem dX10_daubs_20 : decode cX10_daubs 20 = .ok (.iload_n 1, 1) := by decide +kernel
theorem dX10_daubs_21 : decode cX10_daubs 21 = .ok (.iconst 0, 1) := by decide +kernel
theorem dX10_daubs_22 : decode cX10_daubs 22 = .ok (.invokevirtual 317, 3) := by decide +kernel
theorem dX10_daubs_25 : decode cX10_daubs 25 = .ok (.aload_n 0, 1) := by decide +kernel
theorem dX10_daubs_26 : decode cX10_daubs 26 = .ok (.getfield 34, 3) := by decide +kernel
theorem dX10_daubs_29 : decode cX10_daubs 29 = .ok (.iconst 1, 1) := by decide +kernel
theorem dX10_daubs_30 : decode cX10_daubs 30 = .ok (.iaload, 1) := by decide +kernel
theorem dX10_daubs_31 : decode cX10_daubs 31 = .ok (.aload_n 0, 1) := by decide +kernel
theorem dX10_daubs_32 : decode cX10_daubs 32 = .ok (.getfield 34, 3) := by decide +kernel
theorem dX10_daubs_35 : decode cX10_daubs 35 = .ok (.iconst 2, 1) := by decide +kernel
theorem dX10_daubs_36 : decode cX10_daubs 36 = .ok (.iaload, 1) := by decide +kernel
theorem dX10_daubs_37 : decode cX10_daubs 37 = .ok (.imul, 1) := by decide +kernel
theorem dX10_daubs_38 : decode cX10_daubs 38 = .ok (.istore 4, 2) := by decide +kernel
theorem dX10_daubs_40 : decode cX10_daubs 40 = .ok (.iconst 0, 1) := by decide +kernel
theorem dX10_daubs_41 : decode cX10_daubs 41 = .ok (.istore 5, 2) := by decide +kernel
theorem dX10_daubs_43 : decode cX10_daubs 43 = .ok (.iload 5, 2) := by decide +kernel
theorem dX10_daubs_45 : decode cX10_daubs 45 = .ok (.aload_n 0, 1) := by decide +kernel
theorem dX10_daubs_46 : decode cX10_daubs 46 = .ok (.getfield 34, 3) := by decide +kernel
theorem dX10_daubs_49 : decode cX10_daubs 49 = .ok (.iconst 1, 1) := by decide +kernel
theorem dX10_daubs_50 : decode cX10_daubs 50 = .ok (.iaload, 1) := by decide +kernel
theorem dX10_daubs_51 : decode cX10_daubs 51 = .ok (.if_icmp .ge 23, 3) := by decide +kernel
theorem dX10_daubs_54 : decode cX10_daubs 54 = .ok (.iload 4, 2) := by decide +kernel
theorem dX10_daubs_56 : decode cX10_daubs 56 = .ok (.aload_n 0, 1) := by decide +kernel
theorem dX10_daubs_57 : decode cX10_daubs 57 = .ok (.iconst 0, 1) := by decide +kernel
theorem dX10_daubs_58 : decode cX10_daubs 58 = .ok (.iload_n 2, 1) := by decide +kernel
theorem dX10_daubs_59 : decode cX10_daubs 59 = .ok (.iload 5, 2) := by decide +kernel
theorem dX10_daubs_61 : decode cX10_daubs 61 = .ok (.iload_n 3, 1) := by decide +kernel
theorem dX10_daubs_62 : decode cX10_daubs 62 = .ok (.invokevirtual 356, 3) := by decide +kernel
theorem dX10_daubs_65 : decode cX10_daubs 65 = .ok (.isub, 1) := by decide +kernel
theorem dX10_daubs_66 : decode cX10_daubs 66 = .ok (.istore 4, 2) := by decide +kernel
theorem dX10_daubs_68 : decode cX10_daubs 68 = .ok (.iinc 5 1, 3) := by decide +kernel
theorem dX10_daubs_71 : decode cX10_daubs 71 = .ok (.goto (-28), 3) := by decide +kernel
theorem dX10_daubs_74 : decode cX10_daubs 74 = .ok (.iload 4, 2) := by decide +kernel
theorem dX10_daubs_76 : decode cX10_daubs 76 = .ok (.ireturn, 1) := by decide +kernel
theorem dX10_full_0 : decode cX10_full 0 = .ok (.aload_n 0, 1) := by decide +kernel
theorem dX10_full_1 : decode cX10_full 1 = .ok (.iconst 0, 1) := by decide +kernel
theorem dX10_full_2 : decode cX10_full 2 = .ok (.putfield 95, 3) := by decide +kernel
theorem dX10_full_5 : decode cX10_full 5 = .ok (.aload_n 0, 1) := by decide +kernel
theorem dX10_full_6 : decode cX10_full 6 = .ok (.iload_n 1, 1) := by decide +kernel
theorem dX10_full_7 : decode cX10_full 7 = .ok (.iload_n 2, 1) := by decide +kernel
theorem dX10_full_8 : decode cX10_full 8 = .ok (.iload_n 3, 1) := by decide +kernel
theorem dX10_full_9 : decode cX10_full 9 = .ok (.invokevirtual 353, 3) := by decide +kernel
theorem dX10_full_12 : decode cX10_full 12 = .ok (.ifCond .ne 6, 3) := by decide +kernel
theorem dX10_full_15 : decode cX10_full 15 = .ok (.bipush (-2), 2) := by decide +kernel
theorem dX10_full_17 : decode cX10_full 17 = .ok (.ireturn, 1) := by decide +kernel
theorem dX10_full_18 : decode cX10_full 18 = .ok (.aload_n 0, 1) := by decide +kernel
theorem dX10_full_19 : decode cX10_full 19 = .ok (.iconst 0, 1) := by decide +kernel
theorem dX10_full_20 : decode cX10_full 20 = .ok (.iload_n 1, 1) := by decide +kernel
theorem dX10_full_21 : decode cX10_full 21 = .ok (.iconst 0, 1) := by decide +kernel
theorem dX10_full_22 : decode cX10_full 22 = .ok (.invokevirtual 317, 3) := by decide +kernel
theorem dX10_full_25 : decode cX10_full 25 = .ok (.iconst 0, 1) := by decide +kernel
theorem dX10_full_26 : decode cX10_full 26 = .ok (.istore 4, 2) := by decide +kernel
theorem dX10_full_28 : decode cX10_full 28 = .ok (.iconst 0, 1) := by decide +kernel
theorem dX10_full_29 : decode cX10_full 29 = .ok (.istore 5, 2) := by decide +kernel
theorem dX10_full_31 : decode cX10_full 31 = .ok (.iload 5, 2) := by decide +kernel
theorem dX10_full_33 : decode cX10_full 33 = .ok (.aload_n 0, 1) := by decide +kernel
theorem dX10_full_34 : decode cX10_full 34 = .ok (.getfield 34, 3) := by decide +kernel
theorem dX10_full_37 : decode cX10_full 37 = .ok (.iconst 1, 1) := by decide +kernel
theorem dX10_full_38 : decode cX10_full 38 = .ok (.iaload, 1) := by decide +kernel
theorem dX10_full_39 : decode cX10_full 39 = .ok (.if_icmp .ge 31, 3) := by decide +kernel
theorem dX10_full_42 : decode cX10_full 42 = .ok (.iload 4, 2) := by decide +kernel
theorem dX10_full_44 : decode cX10_full 44 = .ok (.aload_n 0, 1) := by decide +kernel
theorem dX10_full_45 : decode cX10_full 45 = .ok (.iconst 0, 1) := by decide +kernel
theorem dX10_full_46 : decode cX10_full 46 = .ok (.iload_n 2, 1) := by decide +kernel
theorem dX10_full_47 : decode cX10_full 47 = .ok (.iload 5, 2) := by decide +kernel
theorem dX10_full_49 : decode cX10_full 49 = .ok (.iload_n 3, 1) := by decide +kernel
theorem dX10_full_50 : decode cX10_full 50 = .ok (.invokevirtual 356, 3) := by decide +kernel
theorem dX10_full_53 : decode cX10_full 53 = .ok (.ifCond .ne 7, 3) := by decide +kernel
theorem dX10_full_56 : decode cX10_full 56 = .ok (.iconst 1, 1) := by decide +kernel
theorem dX10_full_57 : decode cX10_full 57 = .ok (.goto 4, 3) := by decide +kernel
theorem dX10_full_60 : decode cX10_full 60 = .ok (.iconst 0, 1) := by decide +kernel
theorem dX10_full_61 : decode cX10_full 61 = .ok (.iadd, 1) := by decide +kernel
theorem dX10_full_62 : decode cX10_full 62 = .ok (.istore 4, 2) := by decide +kernel
theorem dX10_full_64 : decode cX10_full 64 = .ok (.iinc 5 1, 3) := by decide +kernel
theorem dX10_full_67 : decode cX10_full 67 = .ok (.goto (-36), 3) := by decide +kernel
theorem dX10_full_70 : decode cX10_full 70 = .ok (.iload 4, 2) := by decide +kernel
theorem dX10_full_72 : decode cX10_full 72 = .ok (.ireturn, 1) := by decide +kernel
theorem dX10_lacksOf_0 : decode cX10_lacksOf 0 = .ok (.aload_n 0, 1) := by decide +kernel
theorem dX10_lacksOf_1 : decode cX10_lacksOf 1 = .ok (.getfield 34, 3) := by decide +kernel
theorem dX10_lacksOf_4 : decode cX10_lacksOf 4 = .ok (.iconst 1, 1) := by decide +kernel
theorem dX10_lacksOf_5 : decode cX10_lacksOf 5 = .ok (.iaload, 1) := by decide +kernel
theorem dX10_lacksOf_6 : decode cX10_lacksOf 6 = .ok (.istore 5, 2) := by decide +kernel
theorem dX10_lacksOf_8 : decode cX10_lacksOf 8 = .ok (.iload_n 3, 1) := by decide +kernel
theorem dX10_lacksOf_9 : decode cX10_lacksOf 9 = .ok (.iconst 1, 1) := by decide +kernel
theorem dX10_lacksOf_10 : decode cX10_lacksOf 10 = .ok (.if_icmp .ne 11, 3) := by decide +kernel
theorem dX10_lacksOf_13 : decode cX10_lacksOf 13 = .ok (.iload 5, 2) := by decide +kernel
theorem dX10_lacksOf_15 : decode cX10_lacksOf 15 = .ok (.iconst 2, 1) := by decide +kernel
theorem dX10_lacksOf_16 : decode cX10_lacksOf 16 = .ok (.if_icmp .ge 5, 3) := by decide +kernel
theorem dX10_lacksOf_19 : decode cX10_lacksOf 19 = .ok (.iconst (-1), 1) := by decide +kernel
theorem dX10_lacksOf_20 : decode cX10_lacksOf 20 = .ok (.ireturn, 1) := by decide +kernel
theorem dX10_lacksOf_21 : decode cX10_lacksOf 21 = .ok (.iconst 0, 1) := by decide +kernel
theorem dX10_lacksOf_22 : decode cX10_lacksOf 22 = .ok (.istore 6, 2) := by decide +kernel
theorem dX10_lacksOf_24 : decode cX10_lacksOf 24 = .ok (.iconst 0, 1) := by decide +kernel
theorem dX10_lacksOf_25 : decode cX10_lacksOf 25 = .ok (.istore 7, 2) := by decide +kernel
theorem dX10_lacksOf_27 : decode cX10_lacksOf 27 = .ok (.iload 7, 2) := by decide +kernel
theorem dX10_lacksOf_29 : decode cX10_lacksOf 29 = .ok (.iload 5, 2) := by decide +kernel
theorem dX10_lacksOf_31 : decode cX10_lacksOf 31 = .ok (.if_icmp .ge 82, 3) := by decide +kernel
theorem dX10_lacksOf_34 : decode cX10_lacksOf 34 = .ok (.aload_n 0, 1) := by decide +kernel
theorem dX10_lacksOf_35 : decode cX10_lacksOf 35 = .ok (.iload_n 1, 1) := by decide +kernel
theorem dX10_lacksOf_36 : decode cX10_lacksOf 36 = .ok (.iload_n 2, 1) := by decide +kernel
theorem dX10_lacksOf_37 : decode cX10_lacksOf 37 = .ok (.iload 7, 2) := by decide +kernel
theorem dX10_lacksOf_39 : decode cX10_lacksOf 39 = .ok (.iload 4, 2) := by decide +kernel
theorem dX10_lacksOf_41 : decode cX10_lacksOf 41 = .ok (.invokevirtual 356, 3) := by decide +kernel
theorem dX10_lacksOf_44 : decode cX10_lacksOf 44 = .ok (.istore 8, 2) := by decide +kernel
theorem dX10_lacksOf_46 : decode cX10_lacksOf 46 = .ok (.iload 6, 2) := by decide +kernel
theorem dX10_lacksOf_48 : decode cX10_lacksOf 48 = .ok (.iload 8, 2) := by decide +kernel
theorem dX10_lacksOf_50 : decode cX10_lacksOf 50 = .ok (.iadd, 1) := by decide +kernel
theorem dX10_lacksOf_51 : decode cX10_lacksOf 51 = .ok (.istore 6, 2) := by decide +kernel
theorem dX10_lacksOf_53 : decode cX10_lacksOf 53 = .ok (.iload 7, 2) := by decide +kernel
theorem dX10_lacksOf_55 : decode cX10_lacksOf 55 = .ok (.istore 9, 2) := by decide +kernel
theorem dX10_lacksOf_57 : decode cX10_lacksOf 57 = .ok (.iload 9, 2) := by decide +kernel
theorem dX10_lacksOf_59 : decode cX10_lacksOf 59 = .ok (.ifCond .le 39, 3) := by decide +kernel
theorem dX10_lacksOf_62 : decode cX10_lacksOf 62 = .ok (.aload_n 0, 1) := by decide +kernel
theorem dX10_lacksOf_63 : decode cX10_lacksOf 63 = .ok (.getfield 80, 3) := by decide +kernel
theorem dX10_lacksOf_66 : decode cX10_lacksOf 66 = .ok (.iload 9, 2) := by decide +kernel
theorem dX10_lacksOf_68 : decode cX10_lacksOf 68 = .ok (.iconst 1, 1) := by decide +kernel
theorem dX10_lacksOf_69 : decode cX10_lacksOf 69 = .ok (.isub, 1) := by decide +kernel
theorem dX10_lacksOf_70 : decode cX10_lacksOf 70 = .ok (.iaload, 1) := by decide +kernel
theorem dX10_lacksOf_71 : decode cX10_lacksOf 71 = .ok (.iload 8, 2) := by decide +kernel
theorem dX10_lacksOf_73 : decode cX10_lacksOf 73 = .ok (.if_icmp .le 25, 3) := by decide +kernel
theorem dX10_lacksOf_76 : decode cX10_lacksOf 76 = .ok (.aload_n 0, 1) := by decide +kernel
theorem dX10_lacksOf_77 : decode cX10_lacksOf 77 = .ok (.getfield 80, 3) := by decide +kernel
theorem dX10_lacksOf_80 : decode cX10_lacksOf 80 = .ok (.iload 9, 2) := by decide +kernel
theorem dX10_lacksOf_82 : decode cX10_lacksOf 82 = .ok (.aload_n 0, 1) := by decide +kernel
theorem dX10_lacksOf_83 : decode cX10_lacksOf 83 = .ok (.getfield 80, 3) := by decide +kernel
theorem dX10_lacksOf_86 : decode cX10_lacksOf 86 = .ok (.iload 9, 2) := by decide +kernel
theorem dX10_lacksOf_88 : decode cX10_lacksOf 88 = .ok (.iconst 1, 1) := by decide +kernel
theorem dX10_lacksOf_89 : decode cX10_lacksOf 89 = .ok (.isub, 1) := by decide +kernel
theorem dX10_lacksOf_90 : decode cX10_lacksOf 90 = .ok (.iaload, 1) := by decide +kernel
theorem dX10_lacksOf_91 : decode cX10_lacksOf 91 = .ok (.iastore, 1) := by decide +kernel
theorem dX10_lacksOf_92 : decode cX10_lacksOf 92 = .ok (.iinc 9 (-1), 3) := by decide +kernel
theorem dX10_lacksOf_95 : decode cX10_lacksOf 95 = .ok (.goto (-38), 3) := by decide +kernel
theorem dX10_lacksOf_98 : decode cX10_lacksOf 98 = .ok (.aload_n 0, 1) := by decide +kernel
theorem dX10_lacksOf_99 : decode cX10_lacksOf 99 = .ok (.getfield 80, 3) := by decide +kernel
theorem dX10_lacksOf_102 : decode cX10_lacksOf 102 = .ok (.iload 9, 2) := by decide +kernel
theorem dX10_lacksOf_104 : decode cX10_lacksOf 104 = .ok (.iload 8, 2) := by decide +kernel
theorem dX10_lacksOf_106 : decode cX10_lacksOf 106 = .ok (.iastore, 1) := by decide +kernel
theorem dX10_lacksOf_107 : decode cX10_lacksOf 107 = .ok (.iinc 7 1, 3) := by decide +kernel
theorem dX10_lacksOf_110 : decode cX10_lacksOf 110 = .ok (.goto (-83), 3) := by decide +kernel
theorem dX10_lacksOf_113 : decode cX10_lacksOf 113 = .ok (.iload_n 3, 1) := by decide +kernel
theorem dX10_lacksOf_114 : decode cX10_lacksOf 114 = .ok (.ifCond .ne 12, 3) := by decide +kernel
theorem dX10_lacksOf_117 : decode cX10_lacksOf 117 = .ok (.aload_n 0, 1) := by decide +kernel
theorem dX10_lacksOf_118 : decode cX10_lacksOf 118 = .ok (.getfield 80, 3) := by decide +kernel
theorem dX10_lacksOf_121 : decode cX10_lacksOf 121 = .ok (.iconst 0, 1) := by decide +kernel
theorem dX10_lacksOf_122 : decode cX10_lacksOf 122 = .ok (.iaload, 1) := by decide +kernel
theorem dX10_lacksOf_123 : decode cX10_lacksOf 123 = .ok (.goto 26, 3) := by decide +kernel
theorem dX10_lacksOf_126 : decode cX10_lacksOf 126 = .ok (.iload_n 3, 1) := by decide +kernel
theorem dX10_lacksOf_127 : decode cX10_lacksOf 127 = .ok (.iconst 1, 1) := by decide +kernel
theorem dX10_lacksOf_128 : decode cX10_lacksOf 128 = .ok (.if_icmp .ne 19, 3) := by decide +kernel
theorem dX10_lacksOf_131 : decode cX10_lacksOf 131 = .ok (.aload_n 0, 1) := by decide +kernel
theorem dX10_lacksOf_132 : decode cX10_lacksOf 132 = .ok (.getfield 80, 3) := by decide +kernel
theorem dX10_lacksOf_135 : decode cX10_lacksOf 135 = .ok (.iconst 0, 1) := by decide +kernel
theorem dX10_lacksOf_136 : decode cX10_lacksOf 136 = .ok (.iaload, 1) := by decide +kernel
theorem dX10_lacksOf_137 : decode cX10_lacksOf 137 = .ok (.aload_n 0, 1) := by decide +kernel
theorem dX10_lacksOf_138 : decode cX10_lacksOf 138 = .ok (.getfield 80, 3) := by decide +kernel
theorem dX10_lacksOf_141 : decode cX10_lacksOf 141 = .ok (.iconst 1, 1) := by decide +kernel
theorem dX10_lacksOf_142 : decode cX10_lacksOf 142 = .ok (.iaload, 1) := by decide +kernel
theorem dX10_lacksOf_143 : decode cX10_lacksOf 143 = .ok (.iadd, 1) := by decide +kernel
theorem dX10_lacksOf_144 : decode cX10_lacksOf 144 = .ok (.goto 5, 3) := by decide +kernel
theorem dX10_lacksOf_147 : decode cX10_lacksOf 147 = .ok (.iload 6, 2) := by decide +kernel
theorem dX10_lacksOf_149 : decode cX10_lacksOf 149 = .ok (.ireturn, 1) := by decide +kernel
theorem dX10_isKind_0 : decode cX10_isKind 0 = .ok (.iload_n 0, 1) := by decide +kernel
theorem dX10_isKind_1 : decode cX10_isKind 1 = .ok (.i2l, 1) := by decide +kernel
theorem dX10_isKind_2 : decode cX10_isKind 2 = .ok (.lconst 0, 1) := by decide +kernel
theorem dX10_isKind_3 : decode cX10_isKind 3 = .ok (.ldc2_w 359, 3) := by decide +kernel
theorem dX10_isKind_6 : decode cX10_isKind 6 = .ok (.invokestatic 100, 3) := by decide +kernel
theorem dX10_isKind_9 : decode cX10_isKind 9 = .ok (.ireturn, 1) := by decide +kernel
theorem dX10_lacks_0 : decode cX10_lacks 0 = .ok (.aload_n 0, 1) := by decide +kernel
theorem dX10_lacks_1 : decode cX10_lacks 1 = .ok (.iconst 0, 1) := by decide +kernel
theorem dX10_lacks_2 : decode cX10_lacks 2 = .ok (.putfield 95, 3) := by decide +kernel
theorem dX10_lacks_5 : decode cX10_lacks 5 = .ok (.aload_n 0, 1) := by decide +kernel
theorem dX10_lacks_6 : decode cX10_lacks 6 = .ok (.iload_n 1, 1) := by decide +kernel
theorem dX10_lacks_7 : decode cX10_lacks 7 = .ok (.iload_n 2, 1) := by decide +kernel
theorem dX10_lacks_8 : decode cX10_lacks 8 = .ok (.iload 4, 2) := by decide +kernel
theorem dX10_lacks_10 : decode cX10_lacks 10 = .ok (.invokevirtual 353, 3) := by decide +kernel
theorem dX10_lacks_13 : decode cX10_lacks 13 = .ok (.ifCond .eq 10, 3) := by decide +kernel
theorem dX10_lacks_16 : decode cX10_lacks 16 = .ok (.iload_n 3, 1) := by decide +kernel
theorem dX10_lacks_17 : decode cX10_lacks 17 = .ok (.invokestatic 361, 3) := by decide +kernel
theorem dX10_lacks_20 : decode cX10_lacks 20 = .ok (.ifCond .ne 6, 3) := by decide +kernel
theorem dX10_lacks_23 : decode cX10_lacks 23 = .ok (.bipush (-2), 2) := by decide +kernel
theorem dX10_lacks_25 : decode cX10_lacks 25 = .ok (.ireturn, 1) := by decide +kernel
theorem dX10_lacks_26 : decode cX10_lacks 26 = .ok (.aload_n 0, 1) := by decide +kernel
theorem dX10_lacks_27 : decode cX10_lacks 27 = .ok (.iconst 0, 1) := by decide +kernel
theorem dX10_lacks_28 : decode cX10_lacks 28 = .ok (.iload_n 1, 1) := by decide +kernel
theorem dX10_lacks_29 : decode cX10_lacks 29 = .ok (.iconst 0, 1) := by decide +kernel
theorem dX10_lacks_30 : decode cX10_lacks 30 = .ok (.invokevirtual 317, 3) := by decide +kernel
theorem dX10_lacks_33 : decode cX10_lacks 33 = .ok (.aload_n 0, 1) := by decide +kernel
theorem dX10_lacks_34 : decode cX10_lacks 34 = .ok (.iconst 0, 1) := by decide +kernel
theorem dX10_lacks_35 : decode cX10_lacks 35 = .ok (.iload_n 2, 1) := by decide +kernel
theorem dX10_lacks_36 : decode cX10_lacks 36 = .ok (.iload_n 3, 1) := by decide +kernel
theorem dX10_lacks_37 : decode cX10_lacks 37 = .ok (.iload 4, 2) := by decide +kernel
theorem dX10_lacks_39 : decode cX10_lacks 39 = .ok (.invokevirtual 364, 3) := by decide +kernel
theorem dX10_lacks_42 : decode cX10_lacks 42 = .ok (.ireturn, 1) := by decide +kernel
theorem dX10_doneOf_0 : decode cX10_doneOf 0 = .ok (.iconst 0, 1) := by decide +kernel
theorem dX10_doneOf_1 : decode cX10_doneOf 1 = .ok (.istore 4, 2) := by decide +kernel
theorem dX10_doneOf_3 : decode cX10_doneOf 3 = .ok (.iload 4, 2) := by decide +kernel
theorem dX10_doneOf_5 : decode cX10_doneOf 5 = .ok (.aload_n 0, 1) := by decide +kernel
theorem dX10_doneOf_6 : decode cX10_doneOf 6 = .ok (.invokevirtual 332, 3) := by decide +kernel
theorem dX10_doneOf_9 : decode cX10_doneOf 9 = .ok (.if_icmp .gt 24, 3) := by decide +kernel
theorem dX10_doneOf_12 : decode cX10_doneOf 12 = .ok (.aload_n 0, 1) := by decide +kernel
theorem dX10_doneOf_13 : decode cX10_doneOf 13 = .ok (.iload_n 1, 1) := by decide +kernel
theorem dX10_doneOf_14 : decode cX10_doneOf 14 = .ok (.iload_n 2, 1) := by decide +kernel
theorem dX10_doneOf_15 : decode cX10_doneOf 15 = .ok (.iload_n 3, 1) := by decide +kernel
theorem dX10_doneOf_16 : decode cX10_doneOf 16 = .ok (.iload 4, 2) := by decide +kernel
theorem dX10_doneOf_18 : decode cX10_doneOf 18 = .ok (.invokevirtual 364, 3) := by decide +kernel
theorem dX10_doneOf_21 : decode cX10_doneOf 21 = .ok (.ifCond .ne 6, 3) := by decide +kernel
theorem dX10_doneOf_24 : decode cX10_doneOf 24 = .ok (.iload 4, 2) := by decide +kernel
theorem dX10_doneOf_26 : decode cX10_doneOf 26 = .ok (.ireturn, 1) := by decide +kernel
theorem dX10_doneOf_27 : decode cX10_doneOf 27 = .ok (.iinc 4 1, 3) := by decide +kernel
theorem dX10_doneOf_30 : decode cX10_doneOf 30 = .ok (.goto (-27), 3) := by decide +kernel
theorem dX10_doneOf_33 : decode cX10_doneOf 33 = .ok (.iconst (-1), 1) := by decide +kernel
theorem dX10_doneOf_34 : decode cX10_doneOf 34 = .ok (.ireturn, 1) := by decide +kernel
theorem dX10_done_0 : decode cX10_done 0 = .ok (.aload_n 0, 1) := by decide +kernel
theorem dX10_done_1 : decode cX10_done 1 = .ok (.iconst 0, 1) := by decide +kernel
theorem dX10_done_2 : decode cX10_done 2 = .ok (.putfield 95, 3) := by decide +kernel
theorem dX10_done_5 : decode cX10_done 5 = .ok (.aload_n 0, 1) := by decide +kernel
theorem dX10_done_6 : decode cX10_done 6 = .ok (.iload_n 1, 1) := by decide +kernel
theorem dX10_done_7 : decode cX10_done 7 = .ok (.invokevirtual 342, 3) := by decide +kernel
theorem dX10_done_10 : decode cX10_done 10 = .ok (.ifCond .eq 18, 3) := by decide +kernel
theorem dX10_done_13 : decode cX10_done 13 = .ok (.aload_n 0, 1) := by decide +kernel
theorem dX10_done_14 : decode cX10_done 14 = .ok (.iload_n 2, 1) := by decide +kernel
theorem dX10_done_15 : decode cX10_done 15 = .ok (.invokevirtual 336, 3) := by decide +kernel
theorem dX10_done_18 : decode cX10_done 18 = .ok (.ifCond .eq 10, 3) := by decide +kernel
theorem dX10_done_21 : decode cX10_done 21 = .ok (.iload_n 3, 1) := by decide +kernel
theorem dX10_done_22 : decode cX10_done 22 = .ok (.invokestatic 361, 3) := by decide +kernel
theorem dX10_done_25 : decode cX10_done 25 = .ok (.ifCond .ne 6, 3) := by decide +kernel
theorem dX10_done_28 : decode cX10_done 28 = .ok (.bipush (-2), 2) := by decide +kernel
theorem dX10_done_30 : decode cX10_done 30 = .ok (.ireturn, 1) := by decide +kernel
theorem dX10_done_31 : decode cX10_done 31 = .ok (.aload_n 0, 1) := by decide +kernel
theorem dX10_done_32 : decode cX10_done 32 = .ok (.iconst 0, 1) := by decide +kernel
theorem dX10_done_33 : decode cX10_done 33 = .ok (.iload_n 1, 1) := by decide +kernel
theorem dX10_done_34 : decode cX10_done 34 = .ok (.iconst 0, 1) := by decide +kernel
theorem dX10_done_35 : decode cX10_done 35 = .ok (.invokevirtual 317, 3) := by decide +kernel
theorem dX10_done_38 : decode cX10_done 38 = .ok (.aload_n 0, 1) := by decide +kernel
theorem dX10_done_39 : decode cX10_done 39 = .ok (.iconst 0, 1) := by decide +kernel
theorem dX10_done_40 : decode cX10_done 40 = .ok (.iload_n 2, 1) := by decide +kernel
theorem dX10_done_41 : decode cX10_done 41 = .ok (.iload_n 3, 1) := by decide +kernel
theorem dX10_done_42 : decode cX10_done 42 = .ok (.invokevirtual 367, 3) := by decide +kernel
theorem dX10_done_45 : decode cX10_done 45 = .ok (.ireturn, 1) := by decide +kernel
theorem dX10_claim_0 : decode cX10_claim 0 = .ok (.aload_n 0, 1) := by decide +kernel
theorem dX10_claim_1 : decode cX10_claim 1 = .ok (.iconst 0, 1) := by decide +kernel
theorem dX10_claim_2 : decode cX10_claim 2 = .ok (.putfield 95, 3) := by decide +kernel
theorem dX10_claim_5 : decode cX10_claim 5 = .ok (.aload_n 0, 1) := by decide +kernel
theorem dX10_claim_6 : decode cX10_claim 6 = .ok (.iload_n 1, 1) := by decide +kernel
theorem dX10_claim_7 : decode cX10_claim 7 = .ok (.invokevirtual 342, 3) := by decide +kernel
theorem dX10_claim_10 : decode cX10_claim 10 = .ok (.ifCond .eq 33, 3) := by decide +kernel
theorem dX10_claim_13 : decode cX10_claim 13 = .ok (.aload_n 0, 1) := by decide +kernel
theorem dX10_claim_14 : decode cX10_claim 14 = .ok (.iload_n 2, 1) := by decide +kernel
theorem dX10_claim_15 : decode cX10_claim 15 = .ok (.invokevirtual 336, 3) := by decide +kernel
theorem dX10_claim_18 : decode cX10_claim 18 = .ok (.ifCond .eq 25, 3) := by decide +kernel
theorem dX10_claim_21 : decode cX10_claim 21 = .ok (.iload_n 3, 1) := by decide +kernel
theorem dX10_claim_22 : decode cX10_claim 22 = .ok (.invokestatic 361, 3) := by decide +kernel
theorem dX10_claim_25 : decode cX10_claim 25 = .ok (.ifCond .eq 18, 3) := by decide +kernel
theorem dX10_claim_28 : decode cX10_claim 28 = .ok (.iload 4, 2) := by decide +kernel
theorem dX10_claim_30 : decode cX10_claim 30 = .ok (.i2l, 1) := by decide +kernel
theorem dX10_claim_31 : decode cX10_claim 31 = .ok (.lconst 1, 1) := by decide +kernel
theorem dX10_claim_32 : decode cX10_claim 32 = .ok (.aload_n 0, 1) := by decide +kernel
theorem dX10_claim_33 : decode cX10_claim 33 = .ok (.invokevirtual 332, 3) := by decide +kernel
theorem dX10_claim_36 : decode cX10_claim 36 = .ok (.i2l, 1) := by decide +kernel
theorem dX10_claim_37 : decode cX10_claim 37 = .ok (.invokestatic 100, 3) := by decide +kernel
theorem dX10_claim_40 : decode cX10_claim 40 = .ok (.ifCond .ne 6, 3) := by decide +kernel
theorem dX10_claim_43 : decode cX10_claim 43 = .ok (.bipush (-2), 2) := by decide +kernel
theorem dX10_claim_45 : decode cX10_claim 45 = .ok (.ireturn, 1) := by decide +kernel
theorem dX10_claim_46 : decode cX10_claim 46 = .ok (.aload_n 0, 1) := by decide +kernel
theorem dX10_claim_47 : decode cX10_claim 47 = .ok (.iconst 0, 1) := by decide +kernel
theorem dX10_claim_48 : decode cX10_claim 48 = .ok (.iload_n 1, 1) := by decide +kernel
theorem dX10_claim_49 : decode cX10_claim 49 = .ok (.iconst 0, 1) := by decide +kernel
theorem dX10_claim_50 : decode cX10_claim 50 = .ok (.invokevirtual 317, 3) := by decide +kernel
theorem dX10_claim_53 : decode cX10_claim 53 = .ok (.aload_n 0, 1) := by decide +kernel
theorem dX10_claim_54 : decode cX10_claim 54 = .ok (.iconst 0, 1) := by decide +kernel
theorem dX10_claim_55 : decode cX10_claim 55 = .ok (.iload_n 2, 1) := by decide +kernel
theorem dX10_claim_56 : decode cX10_claim 56 = .ok (.iload_n 3, 1) := by decide +kernel
theorem dX10_claim_57 : decode cX10_claim 57 = .ok (.invokevirtual 367, 3) := by decide +kernel
theorem dX10_claim_60 : decode cX10_claim 60 = .ok (.istore 5, 2) := by decide +kernel
theorem dX10_claim_62 : decode cX10_claim 62 = .ok (.iload 5, 2) := by decide +kernel
theorem dX10_claim_64 : decode cX10_claim 64 = .ok (.iload 4, 2) := by decide +kernel
theorem dX10_claim_66 : decode cX10_claim 66 = .ok (.if_icmp .ne 7, 3) := by decide +kernel
theorem dX10_claim_69 : decode cX10_claim 69 = .ok (.iconst 0, 1) := by decide +kernel
theorem dX10_claim_70 : decode cX10_claim 70 = .ok (.goto 21, 3) := by decide +kernel
theorem dX10_claim_73 : decode cX10_claim 73 = .ok (.iload 5, 2) := by decide +kernel
theorem dX10_claim_75 : decode cX10_claim 75 = .ok (.iconst (-1), 1) := by decide +kernel
theorem dX10_claim_76 : decode cX10_claim 76 = .ok (.if_icmp .eq 14, 3) := by decide +kernel
theorem dX10_claim_79 : decode cX10_claim 79 = .ok (.iload 5, 2) := by decide +kernel
theorem dX10_claim_81 : decode cX10_claim 81 = .ok (.iload 4, 2) := by decide +kernel
theorem dX10_claim_83 : decode cX10_claim 83 = .ok (.if_icmp .ge 7, 3) := by decide +kernel
theorem dX10_claim_86 : decode cX10_claim 86 = .ok (.iconst 2, 1) := by decide +kernel
theorem dX10_claim_87 : decode cX10_claim 87 = .ok (.goto 4, 3) := by decide +kernel
theorem dX10_claim_90 : decode cX10_claim 90 = .ok (.iconst 1, 1) := by decide +kernel
theorem dX10_claim_91 : decode cX10_claim 91 = .ok (.ireturn, 1) := by decide +kernel
theorem dX10_races_0 : decode cX10_races 0 = .ok (.aload_n 0, 1) := by decide +kernel
theorem dX10_races_1 : decode cX10_races 1 = .ok (.iconst (-1), 1) := by decide +kernel
theorem dX10_races_2 : decode cX10_races 2 = .ok (.putfield 371, 3) := by decide +kernel
theorem dX10_races_5 : decode cX10_races 5 = .ok (.aload_n 0, 1) := by decide +kernel
theorem dX10_races_6 : decode cX10_races 6 = .ok (.iconst 0, 1) := by decide +kernel
theorem dX10_races_7 : decode cX10_races 7 = .ok (.putfield 374, 3) := by decide +kernel
theorem dX10_races_10 : decode cX10_races 10 = .ok (.iconst 0, 1) := by decide +kernel
theorem dX10_races_11 : decode cX10_races 11 = .ok (.istore_n 3, 1) := by decide +kernel
theorem dX10_races_12 : decode cX10_races 12 = .ok (.iload_n 3, 1) := by decide +kernel
theorem dX10_races_13 : decode cX10_races 13 = .ok (.aload_n 0, 1) := by decide +kernel
theorem dX10_races_14 : decode cX10_races 14 = .ok (.getfield 34, 3) := by decide +kernel
theorem dX10_races_17 : decode cX10_races 17 = .ok (.iconst 4, 1) := by decide +kernel
theorem dX10_races_18 : decode cX10_races 18 = .ok (.iaload, 1) := by decide +kernel
theorem dX10_races_19 : decode cX10_races 19 = .ok (.if_icmp .ge 119, 3) := by decide +kernel
theorem dX10_races_22 : decode cX10_races 22 = .ok (.aload_n 0, 1) := by decide +kernel
theorem dX10_races_23 : decode cX10_races 23 = .ok (.iconst 0, 1) := by decide +kernel
theorem dX10_races_24 : decode cX10_races 24 = .ok (.aload_n 0, 1) := by decide +kernel
theorem dX10_races_25 : decode cX10_races 25 = .ok (.getfield 43, 3) := by decide +kernel
theorem dX10_races_28 : decode cX10_races 28 = .ok (.iload_n 3, 1) := by decide +kernel
theorem dX10_races_29 : decode cX10_races 29 = .ok (.iaload, 1) := by decide +kernel
theorem dX10_races_30 : decode cX10_races 30 = .ok (.iconst 0, 1) := by decide +kernel
theorem dX10_races_31 : decode cX10_races 31 = .ok (.invokevirtual 317, 3) := by decide +kernel
theorem dX10_races_34 : decode cX10_races 34 = .ok (.iconst 0, 1) := by decide +kernel
theorem dX10_races_35 : decode cX10_races 35 = .ok (.istore 4, 2) := by decide +kernel
theorem dX10_races_37 : decode cX10_races 37 = .ok (.iload 4, 2) := by decide +kernel
theorem dX10_races_39 : decode cX10_races 39 = .ok (.aload_n 0, 1) := by decide +kernel
theorem dX10_races_40 : decode cX10_races 40 = .ok (.getfield 34, 3) := by decide +kernel
theorem dX10_races_43 : decode cX10_races 43 = .ok (.iconst 0, 1) := by decide +kernel
theorem dX10_races_44 : decode cX10_races 44 = .ok (.iaload, 1) := by decide +kernel
theorem dX10_races_45 : decode cX10_races 45 = .ok (.if_icmp .ge 87, 3) := by decide +kernel
theorem dX10_races_48 : decode cX10_races 48 = .ok (.aload_n 0, 1) := by decide +kernel
theorem dX10_races_49 : decode cX10_races 49 = .ok (.iload_n 1, 1) := by decide +kernel
theorem dX10_races_50 : decode cX10_races 50 = .ok (.iload 4, 2) := by decide +kernel
theorem dX10_races_52 : decode cX10_races 52 = .ok (.iload_n 2, 1) := by decide +kernel
theorem dX10_races_53 : decode cX10_races 53 = .ok (.invokevirtual 367, 3) := by decide +kernel
theorem dX10_races_56 : decode cX10_races 56 = .ok (.istore 5, 2) := by decide +kernel
theorem dX10_races_58 : decode cX10_races 58 = .ok (.aload_n 0, 1) := by decide +kernel
theorem dX10_races_59 : decode cX10_races 59 = .ok (.getfield 83, 3) := by decide +kernel
theorem dX10_races_62 : decode cX10_races 62 = .ok (.iconst 3, 1) := by decide +kernel
theorem dX10_races_63 : decode cX10_races 63 = .ok (.iload_n 3, 1) := by decide +kernel
theorem dX10_races_64 : decode cX10_races 64 = .ok (.imul, 1) := by decide +kernel
theorem dX10_races_65 : decode cX10_races 65 = .ok (.iload 4, 2) := by decide +kernel
theorem dX10_races_67 : decode cX10_races 67 = .ok (.iadd, 1) := by decide +kernel
theorem dX10_races_68 : decode cX10_races 68 = .ok (.iload 5, 2) := by decide +kernel
theorem dX10_races_70 : decode cX10_races 70 = .ok (.iastore, 1) := by decide +kernel
theorem dX10_races_71 : decode cX10_races 71 = .ok (.iload 5, 2) := by decide +kernel
theorem dX10_races_73 : decode cX10_races 73 = .ok (.iconst (-1), 1) := by decide +kernel
theorem dX10_races_74 : decode cX10_races 74 = .ok (.if_icmp .eq 52, 3) := by decide +kernel
theorem dX10_races_77 : decode cX10_races 77 = .ok (.aload_n 0, 1) := by decide +kernel
theorem dX10_races_78 : decode cX10_races 78 = .ok (.getfield 371, 3) := by decide +kernel
theorem dX10_races_81 : decode cX10_races 81 = .ok (.iconst (-1), 1) := by decide +kernel
theorem dX10_races_82 : decode cX10_races 82 = .ok (.if_icmp .eq 15, 3) := by decide +kernel
theorem dX10_races_85 : decode cX10_races 85 = .ok (.iload 5, 2) := by decide +kernel
theorem dX10_races_87 : decode cX10_races 87 = .ok (.aload_n 0, 1) := by decide +kernel
theorem dX10_races_88 : decode cX10_races 88 = .ok (.getfield 371, 3) := by decide +kernel
theorem dX10_races_91 : decode cX10_races 91 = .ok (.if_icmp .le 6, 3) := by decide +kernel
theorem dX10_races_94 : decode cX10_races 94 = .ok (.goto 32, 3) := by decide +kernel
theorem dX10_races_97 : decode cX10_races 97 = .ok (.aload_n 0, 1) := by decide +kernel
theorem dX10_races_98 : decode cX10_races 98 = .ok (.iload 5, 2) := by decide +kernel
theorem dX10_races_100 : decode cX10_races 100 = .ok (.aload_n 0, 1) := by decide +kernel
theorem dX10_races_101 : decode cX10_races 101 = .ok (.getfield 371, 3) := by decide +kernel
theorem dX10_races_104 : decode cX10_races 104 = .ok (.if_icmp .ne 12, 3) := by decide +kernel
theorem dX10_races_107 : decode cX10_races 107 = .ok (.aload_n 0, 1) := by decide +kernel
theorem dX10_races_108 : decode cX10_races 108 = .ok (.getfield 374, 3) := by decide +kernel
theorem dX10_races_111 : decode cX10_races 111 = .ok (.iconst 1, 1) := by decide +kernel
theorem dX10_races_112 : decode cX10_races 112 = .ok (.iadd, 1) := by decide +kernel
theorem dX10_races_113 : decode cX10_races 113 = .ok (.goto 4, 3) := by decide +kernel
theorem dX10_races_116 : decode cX10_races 116 = .ok (.iconst 1, 1) := by decide +kernel
theorem dX10_races_117 : decode cX10_races 117 = .ok (.putfield 374, 3) := by decide +kernel
theorem dX10_races_120 : decode cX10_races 120 = .ok (.aload_n 0, 1) := by decide +kernel
theorem dX10_races_121 : decode cX10_races 121 = .ok (.iload 5, 2) := by decide +kernel
theorem dX10_races_123 : decode cX10_races 123 = .ok (.putfield 371, 3) := by decide +kernel
theorem dX10_races_126 : decode cX10_races 126 = .ok (.iinc 4 1, 3) := by decide +kernel
theorem dX10_races_129 : decode cX10_races 129 = .ok (.goto (-92), 3) := by decide +kernel
theorem dX10_races_132 : decode cX10_races 132 = .ok (.iinc 3 1, 3) := by decide +kernel
theorem dX10_races_135 : decode cX10_races 135 = .ok (.goto (-123), 3) := by decide +kernel
theorem dX10_races_138 : decode cX10_races 138 = .ok (.return_, 1) := by decide +kernel
theorem dX10_isWinner_0 : decode cX10_isWinner 0 = .ok (.aload_n 0, 1) := by decide +kernel
theorem dX10_isWinner_1 : decode cX10_isWinner 1 = .ok (.getfield 371, 3) := by decide +kernel
theorem dX10_isWinner_4 : decode cX10_isWinner 4 = .ok (.iconst (-1), 1) := by decide +kernel
theorem dX10_isWinner_5 : decode cX10_isWinner 5 = .ok (.if_icmp .eq 24, 3) := by decide +kernel
theorem dX10_isWinner_8 : decode cX10_isWinner 8 = .ok (.aload_n 0, 1) := by decide +kernel
theorem dX10_isWinner_9 : decode cX10_isWinner 9 = .ok (.getfield 83, 3) := by decide +kernel
theorem dX10_isWinner_12 : decode cX10_isWinner 12 = .ok (.iconst 3, 1) := by decide +kernel
theorem dX10_isWinner_13 : decode cX10_isWinner 13 = .ok (.iload_n 1, 1) := by decide +kernel
theorem dX10_isWinner_14 : decode cX10_isWinner 14 = .ok (.imul, 1) := by decide +kernel
theorem dX10_isWinner_15 : decode cX10_isWinner 15 = .ok (.iload_n 2, 1) := by decide +kernel
theorem dX10_isWinner_16 : decode cX10_isWinner 16 = .ok (.iadd, 1) := by decide +kernel
theorem dX10_isWinner_17 : decode cX10_isWinner 17 = .ok (.iaload, 1) := by decide +kernel
theorem dX10_isWinner_18 : decode cX10_isWinner 18 = .ok (.aload_n 0, 1) := by decide +kernel
theorem dX10_isWinner_19 : decode cX10_isWinner 19 = .ok (.getfield 371, 3) := by decide +kernel
theorem dX10_isWinner_22 : decode cX10_isWinner 22 = .ok (.if_icmp .ne 7, 3) := by decide +kernel
theorem dX10_isWinner_25 : decode cX10_isWinner 25 = .ok (.iconst 1, 1) := by decide +kernel
theorem dX10_isWinner_26 : decode cX10_isWinner 26 = .ok (.goto 4, 3) := by decide +kernel
theorem dX10_isWinner_29 : decode cX10_isWinner 29 = .ok (.iconst 0, 1) := by decide +kernel
theorem dX10_isWinner_30 : decode cX10_isWinner 30 = .ok (.ireturn, 1) := by decide +kernel
theorem dX10_first__0 : decode cX10_first_ 0 = .ok (.aload_n 0, 1) := by decide +kernel
theorem dX10_first__1 : decode cX10_first_ 1 = .ok (.iconst 0, 1) := by decide +kernel
theorem dX10_first__2 : decode cX10_first_ 2 = .ok (.putfield 95, 3) := by decide +kernel
theorem dX10_first__5 : decode cX10_first_ 5 = .ok (.aload_n 0, 1) := by decide +kernel
theorem dX10_first__6 : decode cX10_first_ 6 = .ok (.invokevirtual 324, 3) := by decide +kernel
theorem dX10_first__9 : decode cX10_first_ 9 = .ok (.ifCond .eq 10, 3) := by decide +kernel
theorem dX10_first__12 : decode cX10_first_ 12 = .ok (.iload_n 1, 1) := by decide +kernel
theorem dX10_first__13 : decode cX10_first_ 13 = .ok (.invokestatic 361, 3) := by decide +kernel
theorem dX10_first__16 : decode cX10_first_ 16 = .ok (.ifCond .ne 6, 3) := by decide +kernel
theorem dX10_first__19 : decode cX10_first_ 19 = .ok (.bipush (-2), 2) := by decide +kernel
theorem dX10_first__21 : decode cX10_first_ 21 = .ok (.ireturn, 1) := by decide +kernel
theorem dX10_first__22 : decode cX10_first_ 22 = .ok (.aload_n 0, 1) := by decide +kernel
theorem dX10_first__23 : decode cX10_first_ 23 = .ok (.iconst 0, 1) := by decide +kernel
theorem dX10_first__24 : decode cX10_first_ 24 = .ok (.iload_n 1, 1) := by decide +kernel
theorem dX10_first__25 : decode cX10_first_ 25 = .ok (.invokevirtual 377, 3) := by decide +kernel
theorem dX10_first__28 : decode cX10_first_ 28 = .ok (.aload_n 0, 1) := by decide +kernel
theorem dX10_first__29 : decode cX10_first_ 29 = .ok (.getfield 371, 3) := by decide +kernel
theorem dX10_first__32 : decode cX10_first_ 32 = .ok (.ireturn, 1) := by decide +kernel
theorem dX10_winner_0 : decode cX10_winner 0 = .ok (.aload_n 0, 1) := by decide +kernel
theorem dX10_winner_1 : decode cX10_winner 1 = .ok (.iconst 0, 1) := by decide +kernel
theorem dX10_winner_2 : decode cX10_winner 2 = .ok (.putfield 95, 3) := by decide +kernel
theorem dX10_winner_5 : decode cX10_winner 5 = .ok (.aload_n 0, 1) := by decide +kernel
theorem dX10_winner_6 : decode cX10_winner 6 = .ok (.invokevirtual 324, 3) := by decide +kernel
theorem dX10_winner_9 : decode cX10_winner 9 = .ok (.ifCond .eq 15, 3) := by decide +kernel
theorem dX10_winner_12 : decode cX10_winner 12 = .ok (.iload_n 1, 1) := by decide +kernel
theorem dX10_winner_13 : decode cX10_winner 13 = .ok (.invokestatic 361, 3) := by decide +kernel
theorem dX10_winner_16 : decode cX10_winner 16 = .ok (.ifCond .eq 8, 3) := by decide +kernel
theorem dX10_winner_19 : decode cX10_winner 19 = .ok (.iload_n 2, 1) := by decide +kernel
theorem dX10_winner_20 : decode cX10_winner 20 = .ok (.iconst (-1), 1) := by decide +kernel
theorem dX10_winner_21 : decode cX10_winner 21 = .ok (.if_icmp .ge 6, 3) := by decide +kernel
theorem dX10_winner_24 : decode cX10_winner 24 = .ok (.bipush (-2), 2) := by decide +kernel
theorem dX10_winner_26 : decode cX10_winner 26 = .ok (.ireturn, 1) := by decide +kernel
theorem dX10_winner_27 : decode cX10_winner 27 = .ok (.aload_n 0, 1) := by decide +kernel
theorem dX10_winner_28 : decode cX10_winner 28 = .ok (.iconst 0, 1) := by decide +kernel
theorem dX10_winner_29 : decode cX10_winner 29 = .ok (.iload_n 1, 1) := by decide +kernel
theorem dX10_winner_30 : decode cX10_winner 30 = .ok (.invokevirtual 377, 3) := by decide +kernel
theorem dX10_winner_33 : decode cX10_winner 33 = .ok (.iload_n 2, 1) := by decide +kernel
theorem dX10_winner_34 : decode cX10_winner 34 = .ok (.iconst (-1), 1) := by decide +kernel
theorem dX10_winner_35 : decode cX10_winner 35 = .ok (.if_icmp .ne 8, 3) := by decide +kernel
theorem dX10_winner_38 : decode cX10_winner 38 = .ok (.aload_n 0, 1) := by decide +kernel
theorem dX10_winner_39 : decode cX10_winner 39 = .ok (.getfield 374, 3) := by decide +kernel
theorem dX10_winner_42 : decode cX10_winner 42 = .ok (.ireturn, 1) := by decide +kernel
theorem dX10_winner_43 : decode cX10_winner 43 = .ok (.iload_n 2, 1) := by decide +kernel
theorem dX10_winner_44 : decode cX10_winner 44 = .ok (.istore_n 3, 1) := by decide +kernel
theorem dX10_winner_45 : decode cX10_winner 45 = .ok (.iconst 0, 1) := by decide +kernel
theorem dX10_winner_46 : decode cX10_winner 46 = .ok (.istore 4, 2) := by decide +kernel
theorem dX10_winner_48 : decode cX10_winner 48 = .ok (.iload 4, 2) := by decide +kernel
theorem dX10_winner_50 : decode cX10_winner 50 = .ok (.aload_n 0, 1) := by decide +kernel
theorem dX10_winner_51 : decode cX10_winner 51 = .ok (.getfield 34, 3) := by decide +kernel
theorem dX10_winner_54 : decode cX10_winner 54 = .ok (.iconst 4, 1) := by decide +kernel
theorem dX10_winner_55 : decode cX10_winner 55 = .ok (.iaload, 1) := by decide +kernel
theorem dX10_winner_56 : decode cX10_winner 56 = .ok (.if_icmp .ge 59, 3) := by decide +kernel
theorem dX10_winner_59 : decode cX10_winner 59 = .ok (.iconst 0, 1) := by decide +kernel
theorem dX10_winner_60 : decode cX10_winner 60 = .ok (.istore 5, 2) := by decide +kernel
theorem dX10_winner_62 : decode cX10_winner 62 = .ok (.iload 5, 2) := by decide +kernel
theorem dX10_winner_64 : decode cX10_winner 64 = .ok (.aload_n 0, 1) := by decide +kernel
theorem dX10_winner_65 : decode cX10_winner 65 = .ok (.getfield 34, 3) := by decide +kernel
theorem dX10_winner_68 : decode cX10_winner 68 = .ok (.iconst 0, 1) := by decide +kernel
theorem dX10_winner_69 : decode cX10_winner 69 = .ok (.iaload, 1) := by decide +kernel
theorem dX10_winner_70 : decode cX10_winner 70 = .ok (.if_icmp .ge 39, 3) := by decide +kernel
theorem dX10_winner_73 : decode cX10_winner 73 = .ok (.aload_n 0, 1) := by decide +kernel
theorem dX10_winner_74 : decode cX10_winner 74 = .ok (.iload 4, 2) := by decide +kernel
theorem dX10_winner_76 : decode cX10_winner 76 = .ok (.iload 5, 2) := by decide +kernel
theorem dX10_winner_78 : decode cX10_winner 78 = .ok (.invokevirtual 380, 3) := by decide +kernel
theorem dX10_winner_81 : decode cX10_winner 81 = .ok (.ifCond .ne 6, 3) := by decide +kernel
theorem dX10_winner_84 : decode cX10_winner 84 = .ok (.goto 19, 3) := by decide +kernel
theorem dX10_winner_87 : decode cX10_winner 87 = .ok (.iload_n 3, 1) := by decide +kernel
theorem dX10_winner_88 : decode cX10_winner 88 = .ok (.ifCond .ne 12, 3) := by decide +kernel
theorem dX10_winner_91 : decode cX10_winner 91 = .ok (.bipush 10, 2) := by decide +kernel
theorem dX10_winner_93 : decode cX10_winner 93 = .ok (.iload 4, 2) := by decide +kernel
theorem dX10_winner_95 : decode cX10_winner 95 = .ok (.imul, 1) := by decide +kernel
theorem dX10_winner_96 : decode cX10_winner 96 = .ok (.iload 5, 2) := by decide +kernel
theorem dX10_winner_98 : decode cX10_winner 98 = .ok (.iadd, 1) := by decide +kernel
theorem dX10_winner_99 : decode cX10_winner 99 = .ok (.ireturn, 1) := by decide +kernel
theorem dX10_winner_100 : decode cX10_winner 100 = .ok (.iinc 3 (-1), 3) := by decide +kernel
theorem dX10_winner_103 : decode cX10_winner 103 = .ok (.iinc 5 1, 3) := by decide +kernel
theorem dX10_winner_106 : decode cX10_winner 106 = .ok (.goto (-44), 3) := by decide +kernel
theorem dX10_winner_109 : decode cX10_winner 109 = .ok (.iinc 4 1, 3) := by decide +kernel
theorem dX10_winner_112 : decode cX10_winner 112 = .ok (.goto (-64), 3) := by decide +kernel
theorem dX10_winner_115 : decode cX10_winner 115 = .ok (.iconst (-1), 1) := by decide +kernel
theorem dX10_winner_116 : decode cX10_winner 116 = .ok (.ireturn, 1) := by decide +kernel
theorem dX10_eachOf_0 : decode cX10_eachOf 0 = .ok (.aload_n 0, 1) := by decide +kernel
theorem dX10_eachOf_1 : decode cX10_eachOf 1 = .ok (.getfield 374, 3) := by decide +kernel
theorem dX10_eachOf_4 : decode cX10_eachOf 4 = .ok (.ifCond .ne 7, 3) := by decide +kernel
theorem dX10_eachOf_7 : decode cX10_eachOf 7 = .ok (.iconst 0, 1) := by decide +kernel
theorem dX10_eachOf_8 : decode cX10_eachOf 8 = .ok (.goto 9, 3) := by decide +kernel
theorem dX10_eachOf_11 : decode cX10_eachOf 11 = .ok (.iload_n 1, 1) := by decide +kernel
theorem dX10_eachOf_12 : decode cX10_eachOf 12 = .ok (.aload_n 0, 1) := by decide +kernel
theorem dX10_eachOf_13 : decode cX10_eachOf 13 = .ok (.getfield 374, 3) := by decide +kernel
theorem dX10_eachOf_16 : decode cX10_eachOf 16 = .ok (.idiv, 1) := by decide +kernel
theorem dX10_eachOf_17 : decode cX10_eachOf 17 = .ok (.ireturn, 1) := by decide +kernel
theorem dX10_prize_0 : decode cX10_prize 0 = .ok (.aload_n 0, 1) := by decide +kernel
theorem dX10_prize_1 : decode cX10_prize 1 = .ok (.iconst 0, 1) := by decide +kernel
theorem dX10_prize_2 : decode cX10_prize 2 = .ok (.putfield 95, 3) := by decide +kernel
theorem dX10_prize_5 : decode cX10_prize 5 = .ok (.aload_n 0, 1) := by decide +kernel
theorem dX10_prize_6 : decode cX10_prize 6 = .ok (.invokevirtual 324, 3) := by decide +kernel
theorem dX10_prize_9 : decode cX10_prize 9 = .ok (.ifCond .eq 20, 3) := by decide +kernel
theorem dX10_prize_12 : decode cX10_prize 12 = .ok (.iload_n 1, 1) := by decide +kernel
theorem dX10_prize_13 : decode cX10_prize 13 = .ok (.invokestatic 361, 3) := by decide +kernel
theorem dX10_prize_16 : decode cX10_prize 16 = .ok (.ifCond .eq 13, 3) := by decide +kernel
theorem dX10_prize_19 : decode cX10_prize 19 = .ok (.iload_n 2, 1) := by decide +kernel
theorem dX10_prize_20 : decode cX10_prize 20 = .ok (.i2l, 1) := by decide +kernel
theorem dX10_prize_21 : decode cX10_prize 21 = .ok (.lconst 0, 1) := by decide +kernel
theorem dX10_prize_22 : decode cX10_prize 22 = .ok (.lconst 1, 1) := by decide +kernel
theorem dX10_prize_23 : decode cX10_prize 23 = .ok (.invokestatic 100, 3) := by decide +kernel
theorem dX10_prize_26 : decode cX10_prize 26 = .ok (.ifCond .ne 6, 3) := by decide +kernel
theorem dX10_prize_29 : decode cX10_prize 29 = .ok (.bipush (-2), 2) := by decide +kernel
theorem dX10_prize_31 : decode cX10_prize 31 = .ok (.ireturn, 1) := by decide +kernel
theorem dX10_prize_32 : decode cX10_prize 32 = .ok (.aload_n 0, 1) := by decide +kernel
theorem dX10_prize_33 : decode cX10_prize 33 = .ok (.iconst 0, 1) := by decide +kernel
theorem dX10_prize_34 : decode cX10_prize 34 = .ok (.iload_n 1, 1) := by decide +kernel
theorem dX10_prize_35 : decode cX10_prize 35 = .ok (.invokevirtual 377, 3) := by decide +kernel
theorem dX10_prize_38 : decode cX10_prize 38 = .ok (.aload_n 0, 1) := by decide +kernel
theorem dX10_prize_39 : decode cX10_prize 39 = .ok (.aload_n 0, 1) := by decide +kernel
theorem dX10_prize_40 : decode cX10_prize 40 = .ok (.getfield 40, 3) := by decide +kernel
theorem dX10_prize_43 : decode cX10_prize 43 = .ok (.iload_n 1, 1) := by decide +kernel
theorem dX10_prize_44 : decode cX10_prize 44 = .ok (.iaload, 1) := by decide +kernel
theorem dX10_prize_45 : decode cX10_prize 45 = .ok (.invokevirtual 383, 3) := by decide +kernel
theorem dX10_prize_48 : decode cX10_prize 48 = .ok (.istore_n 3, 1) := by decide +kernel
theorem dX10_prize_49 : decode cX10_prize 49 = .ok (.iload_n 2, 1) := by decide +kernel
theorem dX10_prize_50 : decode cX10_prize 50 = .ok (.ifCond .ne 7, 3) := by decide +kernel
theorem dX10_prize_53 : decode cX10_prize 53 = .ok (.iload_n 3, 1) := by decide +kernel
theorem dX10_prize_54 : decode cX10_prize 54 = .ok (.goto 16, 3) := by decide +kernel
theorem dX10_prize_57 : decode cX10_prize 57 = .ok (.aload_n 0, 1) := by decide +kernel
theorem dX10_prize_58 : decode cX10_prize 58 = .ok (.getfield 40, 3) := by decide +kernel
theorem dX10_prize_61 : decode cX10_prize 61 = .ok (.iload_n 1, 1) := by decide +kernel
theorem dX10_prize_62 : decode cX10_prize 62 = .ok (.iaload, 1) := by decide +kernel
theorem dX10_prize_63 : decode cX10_prize 63 = .ok (.iload_n 3, 1) := by decide +kernel
theorem dX10_prize_64 : decode cX10_prize 64 = .ok (.aload_n 0, 1) := by decide +kernel
theorem dX10_prize_65 : decode cX10_prize 65 = .ok (.getfield 374, 3) := by decide +kernel
theorem dX10_prize_68 : decode cX10_prize 68 = .ok (.imul, 1) := by decide +kernel
theorem dX10_prize_69 : decode cX10_prize 69 = .ok (.isub, 1) := by decide +kernel
theorem dX10_prize_70 : decode cX10_prize 70 = .ok (.ireturn, 1) := by decide +kernel
theorem dX10_jackpotEach_0 : decode cX10_jackpotEach 0 = .ok (.aload_n 0, 1) := by decide +kernel
theorem dX10_jackpotEach_1 : decode cX10_jackpotEach 1 = .ok (.getfield 34, 3) := by decide +kernel
theorem dX10_jackpotEach_4 : decode cX10_jackpotEach 4 = .ok (.bipush 6, 2) := by decide +kernel
theorem dX10_jackpotEach_6 : decode cX10_jackpotEach 6 = .ok (.iaload, 1) := by decide +kernel
theorem dX10_jackpotEach_7 : decode cX10_jackpotEach 7 = .ok (.ifCond .le 38, 3) := by decide +kernel
theorem dX10_jackpotEach_10 : decode cX10_jackpotEach 10 = .ok (.aload_n 0, 1) := by decide +kernel
theorem dX10_jackpotEach_11 : decode cX10_jackpotEach 11 = .ok (.getfield 371, 3) := by decide +kernel
theorem dX10_jackpotEach_14 : decode cX10_jackpotEach 14 = .ok (.iconst (-1), 1) := by decide +kernel
theorem dX10_jackpotEach_15 : decode cX10_jackpotEach 15 = .ok (.if_icmp .eq 30, 3) := by decide +kernel
theorem dX10_jackpotEach_18 : decode cX10_jackpotEach 18 = .ok (.aload_n 0, 1) := by decide +kernel
theorem dX10_jackpotEach_19 : decode cX10_jackpotEach 19 = .ok (.getfield 371, 3) := by decide +kernel
theorem dX10_jackpotEach_22 : decode cX10_jackpotEach 22 = .ok (.aload_n 0, 1) := by decide +kernel
theorem dX10_jackpotEach_23 : decode cX10_jackpotEach 23 = .ok (.getfield 34, 3) := by decide +kernel
theorem dX10_jackpotEach_26 : decode cX10_jackpotEach 26 = .ok (.bipush 6, 2) := by decide +kernel
theorem dX10_jackpotEach_28 : decode cX10_jackpotEach 28 = .ok (.iaload, 1) := by decide +kernel
theorem dX10_jackpotEach_29 : decode cX10_jackpotEach 29 = .ok (.if_icmp .gt 16, 3) := by decide +kernel
theorem dX10_jackpotEach_32 : decode cX10_jackpotEach 32 = .ok (.aload_n 0, 1) := by decide +kernel
theorem dX10_jackpotEach_33 : decode cX10_jackpotEach 33 = .ok (.aload_n 0, 1) := by decide +kernel
theorem dX10_jackpotEach_34 : decode cX10_jackpotEach 34 = .ok (.getfield 34, 3) := by decide +kernel
theorem dX10_jackpotEach_37 : decode cX10_jackpotEach 37 = .ok (.iconst 5, 1) := by decide +kernel
theorem dX10_jackpotEach_38 : decode cX10_jackpotEach 38 = .ok (.iaload, 1) := by decide +kernel
theorem dX10_jackpotEach_39 : decode cX10_jackpotEach 39 = .ok (.invokevirtual 383, 3) := by decide +kernel
theorem dX10_jackpotEach_42 : decode cX10_jackpotEach 42 = .ok (.goto 4, 3) := by decide +kernel
theorem dX10_jackpotEach_45 : decode cX10_jackpotEach 45 = .ok (.iconst 0, 1) := by decide +kernel
theorem dX10_jackpotEach_46 : decode cX10_jackpotEach 46 = .ok (.ireturn, 1) := by decide +kernel
theorem dX10_jackpot_0 : decode cX10_jackpot 0 = .ok (.aload_n 0, 1) := by decide +kernel
theorem dX10_jackpot_1 : decode cX10_jackpot 1 = .ok (.iconst 0, 1) := by decide +kernel
theorem dX10_jackpot_2 : decode cX10_jackpot 2 = .ok (.putfield 95, 3) := by decide +kernel
theorem dX10_jackpot_5 : decode cX10_jackpot 5 = .ok (.aload_n 0, 1) := by decide +kernel
theorem dX10_jackpot_6 : decode cX10_jackpot 6 = .ok (.invokevirtual 324, 3) := by decide +kernel
theorem dX10_jackpot_9 : decode cX10_jackpot 9 = .ok (.ifCond .eq 13, 3) := by decide +kernel
theorem dX10_jackpot_12 : decode cX10_jackpot 12 = .ok (.iload_n 1, 1) := by decide +kernel
theorem dX10_jackpot_13 : decode cX10_jackpot 13 = .ok (.i2l, 1) := by decide +kernel
theorem dX10_jackpot_14 : decode cX10_jackpot 14 = .ok (.lconst 0, 1) := by decide +kernel
theorem dX10_jackpot_15 : decode cX10_jackpot 15 = .ok (.lconst 1, 1) := by decide +kernel
theorem dX10_jackpot_16 : decode cX10_jackpot 16 = .ok (.invokestatic 100, 3) := by decide +kernel
theorem dX10_jackpot_19 : decode cX10_jackpot 19 = .ok (.ifCond .ne 6, 3) := by decide +kernel
theorem dX10_jackpot_22 : decode cX10_jackpot 22 = .ok (.bipush (-2), 2) := by decide +kernel
theorem dX10_jackpot_24 : decode cX10_jackpot 24 = .ok (.ireturn, 1) := by decide +kernel
theorem dX10_jackpot_25 : decode cX10_jackpot 25 = .ok (.aload_n 0, 1) := by decide +kernel
theorem dX10_jackpot_26 : decode cX10_jackpot 26 = .ok (.iconst 0, 1) := by decide +kernel
theorem dX10_jackpot_27 : decode cX10_jackpot 27 = .ok (.iconst 2, 1) := by decide +kernel
theorem dX10_jackpot_28 : decode cX10_jackpot 28 = .ok (.invokevirtual 377, 3) := by decide +kernel
theorem dX10_jackpot_31 : decode cX10_jackpot 31 = .ok (.iload_n 1, 1) := by decide +kernel
theorem dX10_jackpot_32 : decode cX10_jackpot 32 = .ok (.ifCond .ne 13, 3) := by decide +kernel
theorem dX10_jackpot_35 : decode cX10_jackpot 35 = .ok (.aload_n 0, 1) := by decide +kernel
theorem dX10_jackpot_36 : decode cX10_jackpot 36 = .ok (.getfield 374, 3) := by decide +kernel
theorem dX10_jackpot_39 : decode cX10_jackpot 39 = .ok (.aload_n 0, 1) := by decide +kernel
theorem dX10_jackpot_40 : decode cX10_jackpot 40 = .ok (.invokevirtual 386, 3) := by decide +kernel
theorem dX10_jackpot_43 : decode cX10_jackpot 43 = .ok (.imul, 1) := by decide +kernel
theorem dX10_jackpot_44 : decode cX10_jackpot 44 = .ok (.ireturn, 1) := by decide +kernel
theorem dX10_jackpot_45 : decode cX10_jackpot 45 = .ok (.aload_n 0, 1) := by decide +kernel
theorem dX10_jackpot_46 : decode cX10_jackpot 46 = .ok (.getfield 34, 3) := by decide +kernel
theorem dX10_jackpot_49 : decode cX10_jackpot 49 = .ok (.bipush 6, 2) := by decide +kernel
theorem dX10_jackpot_51 : decode cX10_jackpot 51 = .ok (.iaload, 1) := by decide +kernel
theorem dX10_jackpot_52 : decode cX10_jackpot 52 = .ok (.ifCond .eq 11, 3) := by decide +kernel
theorem dX10_jackpot_55 : decode cX10_jackpot 55 = .ok (.aload_n 0, 1) := by decide +kernel
theorem dX10_jackpot_56 : decode cX10_jackpot 56 = .ok (.getfield 371, 3) := by decide +kernel
theorem dX10_jackpot_59 : decode cX10_jackpot 59 = .ok (.iconst (-1), 1) := by decide +kernel
theorem dX10_jackpot_60 : decode cX10_jackpot 60 = .ok (.if_icmp .ne 7, 3) := by decide +kernel
theorem dX10_jackpot_63 : decode cX10_jackpot 63 = .ok (.iconst (-1), 1) := by decide +kernel
theorem dX10_jackpot_64 : decode cX10_jackpot 64 = .ok (.goto 33, 3) := by decide +kernel
theorem dX10_jackpot_67 : decode cX10_jackpot 67 = .ok (.aload_n 0, 1) := by decide +kernel
theorem dX10_jackpot_68 : decode cX10_jackpot 68 = .ok (.getfield 371, 3) := by decide +kernel
theorem dX10_jackpot_71 : decode cX10_jackpot 71 = .ok (.aload_n 0, 1) := by decide +kernel
theorem dX10_jackpot_72 : decode cX10_jackpot 72 = .ok (.getfield 34, 3) := by decide +kernel
theorem dX10_jackpot_75 : decode cX10_jackpot 75 = .ok (.bipush 6, 2) := by decide +kernel
theorem dX10_jackpot_77 : decode cX10_jackpot 77 = .ok (.iaload, 1) := by decide +kernel
theorem dX10_jackpot_78 : decode cX10_jackpot 78 = .ok (.if_icmp .le 18, 3) := by decide +kernel
theorem dX10_jackpot_81 : decode cX10_jackpot 81 = .ok (.aload_n 0, 1) := by decide +kernel
theorem dX10_jackpot_82 : decode cX10_jackpot 82 = .ok (.getfield 371, 3) := by decide +kernel
theorem dX10_jackpot_85 : decode cX10_jackpot 85 = .ok (.aload_n 0, 1) := by decide +kernel
theorem dX10_jackpot_86 : decode cX10_jackpot 86 = .ok (.getfield 34, 3) := by decide +kernel
theorem dX10_jackpot_89 : decode cX10_jackpot 89 = .ok (.bipush 6, 2) := by decide +kernel
theorem dX10_jackpot_91 : decode cX10_jackpot 91 = .ok (.iaload, 1) := by decide +kernel
theorem dX10_jackpot_92 : decode cX10_jackpot 92 = .ok (.isub, 1) := by decide +kernel
theorem dX10_jackpot_93 : decode cX10_jackpot 93 = .ok (.goto 4, 3) := by decide +kernel
theorem dX10_jackpot_96 : decode cX10_jackpot 96 = .ok (.iconst 0, 1) := by decide +kernel
theorem dX10_jackpot_97 : decode cX10_jackpot 97 = .ok (.ireturn, 1) := by decide +kernel
theorem dX10_wins_0 : decode cX10_wins 0 = .ok (.aload_n 0, 1) := by decide +kernel
theorem dX10_wins_1 : decode cX10_wins 1 = .ok (.iconst 0, 1) := by decide +kernel
theorem dX10_wins_2 : decode cX10_wins 2 = .ok (.putfield 95, 3) := by decide +kernel
theorem dX10_wins_5 : decode cX10_wins 5 = .ok (.iload_n 1, 1) := by decide +kernel
theorem dX10_wins_6 : decode cX10_wins 6 = .ok (.i2l, 1) := by decide +kernel
theorem dX10_wins_7 : decode cX10_wins 7 = .ok (.lconst 0, 1) := by decide +kernel
theorem dX10_wins_8 : decode cX10_wins 8 = .ok (.aload_n 0, 1) := by decide +kernel
theorem dX10_wins_9 : decode cX10_wins 9 = .ok (.getfield 34, 3) := by decide +kernel
theorem dX10_wins_12 : decode cX10_wins 12 = .ok (.iconst 4, 1) := by decide +kernel
theorem dX10_wins_13 : decode cX10_wins 13 = .ok (.iaload, 1) := by decide +kernel
theorem dX10_wins_14 : decode cX10_wins 14 = .ok (.iconst 1, 1) := by decide +kernel
theorem dX10_wins_15 : decode cX10_wins 15 = .ok (.isub, 1) := by decide +kernel
theorem dX10_wins_16 : decode cX10_wins 16 = .ok (.i2l, 1) := by decide +kernel
theorem dX10_wins_17 : decode cX10_wins 17 = .ok (.invokestatic 100, 3) := by decide +kernel
theorem dX10_wins_20 : decode cX10_wins 20 = .ok (.ifCond .ne 6, 3) := by decide +kernel
theorem dX10_wins_23 : decode cX10_wins 23 = .ok (.bipush (-2), 2) := by decide +kernel
theorem dX10_wins_25 : decode cX10_wins 25 = .ok (.ireturn, 1) := by decide +kernel
theorem dX10_wins_26 : decode cX10_wins 26 = .ok (.iconst 0, 1) := by decide +kernel
theorem dX10_wins_27 : decode cX10_wins 27 = .ok (.istore_n 2, 1) := by decide +kernel
theorem dX10_wins_28 : decode cX10_wins 28 = .ok (.iconst 0, 1) := by decide +kernel
theorem dX10_wins_29 : decode cX10_wins 29 = .ok (.istore_n 3, 1) := by decide +kernel
theorem dX10_wins_30 : decode cX10_wins 30 = .ok (.iload_n 3, 1) := by decide +kernel
theorem dX10_wins_31 : decode cX10_wins 31 = .ok (.iconst 3, 1) := by decide +kernel
theorem dX10_wins_32 : decode cX10_wins 32 = .ok (.if_icmp .ge 72, 3) := by decide +kernel
theorem dX10_wins_35 : decode cX10_wins 35 = .ok (.aload_n 0, 1) := by decide +kernel
theorem dX10_wins_36 : decode cX10_wins 36 = .ok (.iconst 0, 1) := by decide +kernel
theorem dX10_wins_37 : decode cX10_wins 37 = .ok (.iload_n 3, 1) := by decide +kernel
theorem dX10_wins_38 : decode cX10_wins 38 = .ok (.invokevirtual 377, 3) := by decide +kernel
theorem dX10_wins_41 : decode cX10_wins 41 = .ok (.iconst 0, 1) := by decide +kernel
theorem dX10_wins_42 : decode cX10_wins 42 = .ok (.istore 4, 2) := by decide +kernel
theorem dX10_wins_44 : decode cX10_wins 44 = .ok (.iload 4, 2) := by decide +kernel
theorem dX10_wins_46 : decode cX10_wins 46 = .ok (.aload_n 0, 1) := by decide +kernel
theorem dX10_wins_47 : decode cX10_wins 47 = .ok (.getfield 34, 3) := by decide +kernel
theorem dX10_wins_50 : decode cX10_wins 50 = .ok (.iconst 0, 1) := by decide +kernel
theorem dX10_wins_51 : decode cX10_wins 51 = .ok (.iaload, 1) := by decide +kernel
theorem dX10_wins_52 : decode cX10_wins 52 = .ok (.if_icmp .ge 46, 3) := by decide +kernel
theorem dX10_wins_55 : decode cX10_wins 55 = .ok (.aload_n 0, 1) := by decide +kernel
theorem dX10_wins_56 : decode cX10_wins 56 = .ok (.iload_n 1, 1) := by decide +kernel
theorem dX10_wins_57 : decode cX10_wins 57 = .ok (.iload 4, 2) := by decide +kernel
theorem dX10_wins_59 : decode cX10_wins 59 = .ok (.invokevirtual 380, 3) := by decide +kernel
theorem dX10_wins_62 : decode cX10_wins 62 = .ok (.ifCond .eq 30, 3) := by decide +kernel
theorem dX10_wins_65 : decode cX10_wins 65 = .ok (.iload_n 2, 1) := by decide +kernel
theorem dX10_wins_66 : decode cX10_wins 66 = .ok (.aload_n 0, 1) := by decide +kernel
theorem dX10_wins_67 : decode cX10_wins 67 = .ok (.aload_n 0, 1) := by decide +kernel
theorem dX10_wins_68 : decode cX10_wins 68 = .ok (.getfield 40, 3) := by decide +kernel
theorem dX10_wins_71 : decode cX10_wins 71 = .ok (.iload_n 3, 1) := by decide +kernel
theorem dX10_wins_72 : decode cX10_wins 72 = .ok (.iaload, 1) := by decide +kernel
theorem dX10_wins_73 : decode cX10_wins 73 = .ok (.invokevirtual 383, 3) := by decide +kernel
theorem dX10_wins_76 : decode cX10_wins 76 = .ok (.iload_n 3, 1) := by decide +kernel
theorem dX10_wins_77 : decode cX10_wins 77 = .ok (.iconst 2, 1) := by decide +kernel
theorem dX10_wins_78 : decode cX10_wins 78 = .ok (.if_icmp .ne 10, 3) := by decide +kernel
theorem dX10_wins_81 : decode cX10_wins 81 = .ok (.aload_n 0, 1) := by decide +kernel
theorem dX10_wins_82 : decode cX10_wins 82 = .ok (.invokevirtual 386, 3) := by decide +kernel
theorem dX10_wins_85 : decode cX10_wins 85 = .ok (.goto 4, 3) := by decide +kernel
theorem dX10_wins_88 : decode cX10_wins 88 = .ok (.iconst 0, 1) := by decide +kernel
theorem dX10_wins_89 : decode cX10_wins 89 = .ok (.iadd, 1) := by decide +kernel
theorem dX10_wins_90 : decode cX10_wins 90 = .ok (.iadd, 1) := by decide +kernel
theorem dX10_wins_91 : decode cX10_wins 91 = .ok (.istore_n 2, 1) := by decide +kernel
theorem dX10_wins_92 : decode cX10_wins 92 = .ok (.iinc 4 1, 3) := by decide +kernel
theorem dX10_wins_95 : decode cX10_wins 95 = .ok (.goto (-51), 3) := by decide +kernel
theorem dX10_wins_98 : decode cX10_wins 98 = .ok (.iinc 3 1, 3) := by decide +kernel
theorem dX10_wins_101 : decode cX10_wins 101 = .ok (.goto (-71), 3) := by decide +kernel
theorem dX10_wins_104 : decode cX10_wins 104 = .ok (.iload_n 2, 1) := by decide +kernel
theorem dX10_wins_105 : decode cX10_wins 105 = .ok (.ireturn, 1) := by decide +kernel
theorem dX10_laysBook_0 : decode cX10_laysBook 0 = .ok (.iconst 0, 1) := by decide +kernel
theorem dX10_laysBook_1 : decode cX10_laysBook 1 = .ok (.istore_n 2, 1) := by decide +kernel
theorem dX10_laysBook_2 : decode cX10_laysBook 2 = .ok (.iload_n 1, 1) := by decide +kernel
theorem dX10_laysBook_3 : decode cX10_laysBook 3 = .ok (.istore_n 3, 1) := by decide +kernel
theorem dX10_laysBook_4 : decode cX10_laysBook 4 = .ok (.iload_n 3, 1) := by decide +kernel
theorem dX10_laysBook_5 : decode cX10_laysBook 5 = .ok (.sipush 9999, 3) := by decide +kernel
theorem dX10_laysBook_8 : decode cX10_laysBook 8 = .ok (.if_icmp .gt 166, 3) := by decide +kernel
theorem dX10_laysBook_11 : decode cX10_laysBook 11 = .ok (.iload_n 3, 1) := by decide +kernel
theorem dX10_laysBook_12 : decode cX10_laysBook 12 = .ok (.iload_n 1, 1) := by decide +kernel
theorem dX10_laysBook_13 : decode cX10_laysBook 13 = .ok (.bipush 40, 2) := by decide +kernel
theorem dX10_laysBook_15 : decode cX10_laysBook 15 = .ok (.iadd, 1) := by decide +kernel
theorem dX10_laysBook_16 : decode cX10_laysBook 16 = .ok (.if_icmp .ge 158, 3) := by decide +kernel
theorem dX10_laysBook_19 : decode cX10_laysBook 19 = .ok (.aload_n 0, 1) := by decide +kernel
theorem dX10_laysBook_20 : decode cX10_laysBook 20 = .ok (.iconst 0, 1) := by decide +kernel
theorem dX10_laysBook_21 : decode cX10_laysBook 21 = .ok (.iload_n 3, 1) := by decide +kernel
theorem dX10_laysBook_22 : decode cX10_laysBook 22 = .ok (.iconst 0, 1) := by decide +kernel
theorem dX10_laysBook_23 : decode cX10_laysBook 23 = .ok (.invokevirtual 317, 3) := by decide +kernel
theorem dX10_laysBook_26 : decode cX10_laysBook 26 = .ok (.iconst 1, 1) := by decide +kernel
theorem dX10_laysBook_27 : decode cX10_laysBook 27 = .ok (.istore 4, 2) := by decide +kernel
theorem dX10_laysBook_29 : decode cX10_laysBook 29 = .ok (.iconst 0, 1) := by decide +kernel
theorem dX10_laysBook_30 : decode cX10_laysBook 30 = .ok (.istore 5, 2) := by decide +kernel
theorem dX10_laysBook_32 : decode cX10_laysBook 32 = .ok (.iload 5, 2) := by decide +kernel
theorem dX10_laysBook_34 : decode cX10_laysBook 34 = .ok (.iload_n 2, 1) := by decide +kernel
theorem dX10_laysBook_35 : decode cX10_laysBook 35 = .ok (.if_icmp .ge 80, 3) := by decide +kernel
theorem dX10_laysBook_38 : decode cX10_laysBook 38 = .ok (.iload 4, 2) := by decide +kernel
theorem dX10_laysBook_40 : decode cX10_laysBook 40 = .ok (.ifCond .eq 75, 3) := by decide +kernel
theorem dX10_laysBook_43 : decode cX10_laysBook 43 = .ok (.iconst 1, 1) := by decide +kernel
theorem dX10_laysBook_44 : decode cX10_laysBook 44 = .ok (.istore 6, 2) := by decide +kernel
theorem dX10_laysBook_46 : decode cX10_laysBook 46 = .ok (.iconst 0, 1) := by decide +kernel
theorem dX10_laysBook_47 : decode cX10_laysBook 47 = .ok (.istore 7, 2) := by decide +kernel
theorem dX10_laysBook_49 : decode cX10_laysBook 49 = .ok (.iload 7, 2) := by decide +kernel
theorem dX10_laysBook_51 : decode cX10_laysBook 51 = .ok (.bipush 45, 2) := by decide +kernel
theorem dX10_laysBook_53 : decode cX10_laysBook 53 = .ok (.if_icmp .ge 44, 3) := by decide +kernel
theorem dX10_laysBook_56 : decode cX10_laysBook 56 = .ok (.iload 6, 2) := by decide +kernel
theorem dX10_laysBook_58 : decode cX10_laysBook 58 = .ok (.ifCond .eq 30, 3) := by decide +kernel
theorem dX10_laysBook_61 : decode cX10_laysBook 61 = .ok (.aload_n 0, 1) := by decide +kernel
theorem dX10_laysBook_62 : decode cX10_laysBook 62 = .ok (.getfield 86, 3) := by decide +kernel
theorem dX10_laysBook_65 : decode cX10_laysBook 65 = .ok (.bipush 45, 2) := by decide +kernel
theorem dX10_laysBook_67 : decode cX10_laysBook 67 = .ok (.iload 5, 2) := by decide +kernel
theorem dX10_laysBook_69 : decode cX10_laysBook 69 = .ok (.imul, 1) := by decide +kernel
theorem dX10_laysBook_70 : decode cX10_laysBook 70 = .ok (.iload 7, 2) := by decide +kernel
theorem dX10_laysBook_72 : decode cX10_laysBook 72 = .ok (.iadd, 1) := by decide +kernel
theorem dX10_laysBook_73 : decode cX10_laysBook 73 = .ok (.iaload, 1) := by decide +kernel
theorem dX10_laysBook_74 : decode cX10_laysBook 74 = .ok (.aload_n 0, 1) := by decide +kernel
theorem dX10_laysBook_75 : decode cX10_laysBook 75 = .ok (.getfield 74, 3) := by decide +kernel
theorem dX10_laysBook_78 : decode cX10_laysBook 78 = .ok (.iload 7, 2) := by decide +kernel
theorem dX10_laysBook_80 : decode cX10_laysBook 80 = .ok (.iaload, 1) := by decide +kernel
theorem dX10_laysBook_81 : decode cX10_laysBook 81 = .ok (.if_icmp .ne 7, 3) := by decide +kernel
theorem dX10_laysBook_84 : decode cX10_laysBook 84 = .ok (.iconst 1, 1) := by decide +kernel
theorem dX10_laysBook_85 : decode cX10_laysBook 85 = .ok (.goto 4, 3) := by decide +kernel
theorem dX10_laysBook_88 : decode cX10_laysBook 88 = .ok (.iconst 0, 1) := by decide +kernel
theorem dX10_laysBook_89 : decode cX10_laysBook 89 = .ok (.istore 6, 2) := by decide +kernel
theorem dX10_laysBook_91 : decode cX10_laysBook 91 = .ok (.iinc 7 1, 3) := by decide +kernel
theorem dX10_laysBook_94 : decode cX10_laysBook 94 = .ok (.goto (-45), 3) := by decide +kernel
theorem dX10_laysBook_97 : decode cX10_laysBook 97 = .ok (.iload 6, 2) := by decide +kernel
theorem dX10_laysBook_99 : decode cX10_laysBook 99 = .ok (.ifCond .ne 7, 3) := by decide +kernel
theorem dX10_laysBook_102 : decode cX10_laysBook 102 = .ok (.iconst 1, 1) := by decide +kernel
theorem dX10_laysBook_103 : decode cX10_laysBook 103 = .ok (.goto 4, 3) := by decide +kernel
theorem dX10_laysBook_106 : decode cX10_laysBook 106 = .ok (.iconst 0, 1) := by decide +kernel
theorem dX10_laysBook_107 : decode cX10_laysBook 107 = .ok (.istore 4, 2) := by decide +kernel
theorem dX10_laysBook_109 : decode cX10_laysBook 109 = .ok (.iinc 5 1, 3) := by decide +kernel
theorem dX10_laysBook_112 : decode cX10_laysBook 112 = .ok (.goto (-80), 3) := by decide +kernel
theorem dX10_laysBook_115 : decode cX10_laysBook 115 = .ok (.iload 4, 2) := by decide +kernel
theorem dX10_laysBook_117 : decode cX10_laysBook 117 = .ok (.ifCond .ne 6, 3) := by decide +kernel
theorem dX10_laysBook_120 : decode cX10_laysBook 120 = .ok (.goto 48, 3) := by decide +kernel
theorem dX10_laysBook_123 : decode cX10_laysBook 123 = .ok (.iconst 0, 1) := by decide +kernel
theorem dX10_laysBook_124 : decode cX10_laysBook 124 = .ok (.istore 5, 2) := by decide +kernel
theorem dX10_laysBook_126 : decode cX10_laysBook 126 = .ok (.iload 5, 2) := by decide +kernel
theorem dX10_laysBook_128 : decode cX10_laysBook 128 = .ok (.bipush 45, 2) := by decide +kernel
theorem dX10_laysBook_130 : decode cX10_laysBook 130 = .ok (.if_icmp .ge 28, 3) := by decide +kernel
theorem dX10_laysBook_133 : decode cX10_laysBook 133 = .ok (.aload_n 0, 1) := by decide +kernel
theorem dX10_laysBook_134 : decode cX10_laysBook 134 = .ok (.getfield 86, 3) := by decide +kernel
theorem dX10_laysBook_137 : decode cX10_laysBook 137 = .ok (.bipush 45, 2) := by decide +kernel
theorem dX10_laysBook_139 : decode cX10_laysBook 139 = .ok (.iload_n 2, 1) := by decide +kernel
theorem dX10_laysBook_140 : decode cX10_laysBook 140 = .ok (.imul, 1) := by decide +kernel
theorem dX10_laysBook_141 : decode cX10_laysBook 141 = .ok (.iload 5, 2) := by decide +kernel
theorem dX10_laysBook_143 : decode cX10_laysBook 143 = .ok (.iadd, 1) := by decide +kernel
theorem dX10_laysBook_144 : decode cX10_laysBook 144 = .ok (.aload_n 0, 1) := by decide +kernel
theorem dX10_laysBook_145 : decode cX10_laysBook 145 = .ok (.getfield 74, 3) := by decide +kernel
theorem dX10_laysBook_148 : decode cX10_laysBook 148 = .ok (.iload 5, 2) := by decide +kernel
theorem dX10_laysBook_150 : decode cX10_laysBook 150 = .ok (.iaload, 1) := by decide +kernel
theorem dX10_laysBook_151 : decode cX10_laysBook 151 = .ok (.iastore, 1) := by decide +kernel
theorem dX10_laysBook_152 : decode cX10_laysBook 152 = .ok (.iinc 5 1, 3) := by decide +kernel
theorem dX10_laysBook_155 : decode cX10_laysBook 155 = .ok (.goto (-29), 3) := by decide +kernel
theorem dX10_laysBook_158 : decode cX10_laysBook 158 = .ok (.aload_n 0, 1) := by decide +kernel
theorem dX10_laysBook_159 : decode cX10_laysBook 159 = .ok (.getfield 89, 3) := by decide +kernel
theorem dX10_laysBook_162 : decode cX10_laysBook 162 = .ok (.iload_n 2, 1) := by decide +kernel
theorem dX10_laysBook_163 : decode cX10_laysBook 163 = .ok (.iload_n 3, 1) := by decide +kernel
theorem dX10_laysBook_164 : decode cX10_laysBook 164 = .ok (.iastore, 1) := by decide +kernel
theorem dX10_laysBook_165 : decode cX10_laysBook 165 = .ok (.iinc 2 1, 3) := by decide +kernel
theorem dX10_laysBook_168 : decode cX10_laysBook 168 = .ok (.iinc 3 1, 3) := by decide +kernel
theorem dX10_laysBook_171 : decode cX10_laysBook 171 = .ok (.goto (-167), 3) := by decide +kernel
theorem dX10_laysBook_174 : decode cX10_laysBook 174 = .ok (.iload_n 2, 1) := by decide +kernel
theorem dX10_laysBook_175 : decode cX10_laysBook 175 = .ok (.ireturn, 1) := by decide +kernel
theorem dX10_book_0 : decode cX10_book 0 = .ok (.aload_n 0, 1) := by decide +kernel
theorem dX10_book_1 : decode cX10_book 1 = .ok (.iconst 0, 1) := by decide +kernel
theorem dX10_book_2 : decode cX10_book 2 = .ok (.putfield 95, 3) := by decide +kernel
theorem dX10_book_5 : decode cX10_book 5 = .ok (.aload_n 0, 1) := by decide +kernel
theorem dX10_book_6 : decode cX10_book 6 = .ok (.iload_n 1, 1) := by decide +kernel
theorem dX10_book_7 : decode cX10_book 7 = .ok (.invokevirtual 342, 3) := by decide +kernel
theorem dX10_book_10 : decode cX10_book 10 = .ok (.ifCond .ne 6, 3) := by decide +kernel
theorem dX10_book_13 : decode cX10_book 13 = .ok (.bipush (-2), 2) := by decide +kernel
theorem dX10_book_15 : decode cX10_book 15 = .ok (.ireturn, 1) := by decide +kernel
theorem dX10_book_16 : decode cX10_book 16 = .ok (.iload_n 2, 1) := by decide +kernel
theorem dX10_book_17 : decode cX10_book 17 = .ok (.i2l, 1) := by decide +kernel
theorem dX10_book_18 : decode cX10_book 18 = .ok (.lconst 0, 1) := by decide +kernel
theorem dX10_book_19 : decode cX10_book 19 = .ok (.ldc2_w 389, 3) := by decide +kernel
theorem dX10_book_22 : decode cX10_book 22 = .ok (.invokestatic 100, 3) := by decide +kernel
theorem dX10_book_25 : decode cX10_book 25 = .ok (.ifCond .eq 21, 3) := by decide +kernel
theorem dX10_book_28 : decode cX10_book 28 = .ok (.iload_n 2, 1) := by decide +kernel
theorem dX10_book_29 : decode cX10_book 29 = .ok (.aload_n 0, 1) := by decide +kernel
theorem dX10_book_30 : decode cX10_book 30 = .ok (.iload_n 1, 1) := by decide +kernel
theorem dX10_book_31 : decode cX10_book 31 = .ok (.invokevirtual 391, 3) := by decide +kernel
theorem dX10_book_34 : decode cX10_book 34 = .ok (.if_icmp .ge 12, 3) := by decide +kernel
theorem dX10_book_37 : decode cX10_book 37 = .ok (.aload_n 0, 1) := by decide +kernel
theorem dX10_book_38 : decode cX10_book 38 = .ok (.getfield 89, 3) := by decide +kernel
theorem dX10_book_41 : decode cX10_book 41 = .ok (.iload_n 2, 1) := by decide +kernel
theorem dX10_book_42 : decode cX10_book 42 = .ok (.iaload, 1) := by decide +kernel
theorem dX10_book_43 : decode cX10_book 43 = .ok (.goto 4, 3) := by decide +kernel
theorem dX10_book_46 : decode cX10_book 46 = .ok (.iconst (-1), 1) := by decide +kernel
theorem dX10_book_47 : decode cX10_book 47 = .ok (.ireturn, 1) := by decide +kernel
theorem dX10_whyNotShape_0 : decode cX10_whyNotShape 0 = .ok (.aload_n 0, 1) := by decide +kernel
theorem dX10_whyNotShape_1 : decode cX10_whyNotShape 1 = .ok (.iload_n 1, 1) := by decide +kernel
theorem dX10_whyNotShape_2 : decode cX10_whyNotShape 2 = .ok (.invokevirtual 339, 3) := by decide +kernel
theorem dX10_whyNotShape_5 : decode cX10_whyNotShape 5 = .ok (.istore_n 2, 1) := by decide +kernel
theorem dX10_whyNotShape_6 : decode cX10_whyNotShape 6 = .ok (.iload_n 2, 1) := by decide +kernel
theorem dX10_whyNotShape_7 : decode cX10_whyNotShape 7 = .ok (.ifCond .eq 5, 3) := by decide +kernel
theorem dX10_whyNotShape_10 : decode cX10_whyNotShape 10 = .ok (.iload_n 2, 1) := by decide +kernel
theorem dX10_whyNotShape_11 : decode cX10_whyNotShape 11 = .ok (.ireturn, 1) := by decide +kernel
theorem dX10_whyNotShape_12 : decode cX10_whyNotShape 12 = .ok (.iconst 0, 1) := by decide +kernel
theorem dX10_whyNotShape_13 : decode cX10_whyNotShape 13 = .ok (.istore_n 3, 1) := by decide +kernel
theorem dX10_whyNotShape_14 : decode cX10_whyNotShape 14 = .ok (.iload_n 3, 1) := by decide +kernel
theorem dX10_whyNotShape_15 : decode cX10_whyNotShape 15 = .ok (.aload_n 0, 1) := by decide +kernel
theorem dX10_whyNotShape_16 : decode cX10_whyNotShape 16 = .ok (.getfield 13, 3) := by decide +kernel
theorem dX10_whyNotShape_19 : decode cX10_whyNotShape 19 = .ok (.iload_n 1, 1) := by decide +kernel
theorem dX10_whyNotShape_20 : decode cX10_whyNotShape 20 = .ok (.iaload, 1) := by decide +kernel
theorem dX10_whyNotShape_21 : decode cX10_whyNotShape 21 = .ok (.if_icmp .ge 71, 3) := by decide +kernel
theorem dX10_whyNotShape_24 : decode cX10_whyNotShape 24 = .ok (.aload_n 0, 1) := by decide +kernel
theorem dX10_whyNotShape_25 : decode cX10_whyNotShape 25 = .ok (.getfield 16, 3) := by decide +kernel
theorem dX10_whyNotShape_28 : decode cX10_whyNotShape 28 = .ok (.bipush 60, 2) := by decide +kernel
theorem dX10_whyNotShape_30 : decode cX10_whyNotShape 30 = .ok (.iload_n 1, 1) := by decide +kernel
theorem dX10_whyNotShape_31 : decode cX10_whyNotShape 31 = .ok (.imul, 1) := by decide +kernel
theorem dX10_whyNotShape_32 : decode cX10_whyNotShape 32 = .ok (.iload_n 3, 1) := by decide +kernel
theorem dX10_whyNotShape_33 : decode cX10_whyNotShape 33 = .ok (.iadd, 1) := by decide +kernel
theorem dX10_whyNotShape_34 : decode cX10_whyNotShape 34 = .ok (.laload, 1) := by decide +kernel
theorem dX10_whyNotShape_35 : decode cX10_whyNotShape 35 = .ok (.lstore 4, 2) := by decide +kernel
theorem dX10_whyNotShape_37 : decode cX10_whyNotShape 37 = .ok (.lload 4, 2) := by decide +kernel
theorem dX10_whyNotShape_39 : decode cX10_whyNotShape 39 = .ok (.lconst 0, 1) := by decide +kernel
theorem dX10_whyNotShape_40 : decode cX10_whyNotShape 40 = .ok (.ldc2_w 394, 3) := by decide +kernel
theorem dX10_whyNotShape_43 : decode cX10_whyNotShape 43 = .ok (.invokestatic 100, 3) := by decide +kernel
theorem dX10_whyNotShape_46 : decode cX10_whyNotShape 46 = .ok (.ifCond .eq 37, 3) := by decide +kernel
theorem dX10_whyNotShape_49 : decode cX10_whyNotShape 49 = .ok (.lload 4, 2) := by decide +kernel
theorem dX10_whyNotShape_51 : decode cX10_whyNotShape 51 = .ok (.ldc2_w 396, 3) := by decide +kernel
theorem dX10_whyNotShape_54 : decode cX10_whyNotShape 54 = .ok (.ldiv, 1) := by decide +kernel
theorem dX10_whyNotShape_55 : decode cX10_whyNotShape 55 = .ok (.aload_n 0, 1) := by decide +kernel
theorem dX10_whyNotShape_56 : decode cX10_whyNotShape 56 = .ok (.getfield 34, 3) := by decide +kernel
theorem dX10_whyNotShape_59 : decode cX10_whyNotShape 59 = .ok (.iconst 1, 1) := by decide +kernel
theorem dX10_whyNotShape_60 : decode cX10_whyNotShape 60 = .ok (.iaload, 1) := by decide +kernel
theorem dX10_whyNotShape_61 : decode cX10_whyNotShape 61 = .ok (.i2l, 1) := by decide +kernel
theorem dX10_whyNotShape_62 : decode cX10_whyNotShape 62 = .ok (.lcmp, 1) := by decide +kernel
theorem dX10_whyNotShape_63 : decode cX10_whyNotShape 63 = .ok (.ifCond .ge 20, 3) := by decide +kernel
theorem dX10_whyNotShape_66 : decode cX10_whyNotShape 66 = .ok (.lload 4, 2) := by decide +kernel
theorem dX10_whyNotShape_68 : decode cX10_whyNotShape 68 = .ok (.ldc2_w 396, 3) := by decide +kernel
theorem dX10_whyNotShape_71 : decode cX10_whyNotShape 71 = .ok (.lrem, 1) := by decide +kernel
theorem dX10_whyNotShape_72 : decode cX10_whyNotShape 72 = .ok (.aload_n 0, 1) := by decide +kernel
theorem dX10_whyNotShape_73 : decode cX10_whyNotShape 73 = .ok (.getfield 34, 3) := by decide +kernel
theorem dX10_whyNotShape_76 : decode cX10_whyNotShape 76 = .ok (.iconst 3, 1) := by decide +kernel
theorem dX10_whyNotShape_77 : decode cX10_whyNotShape 77 = .ok (.iaload, 1) := by decide +kernel
theorem dX10_whyNotShape_78 : decode cX10_whyNotShape 78 = .ok (.i2l, 1) := by decide +kernel
theorem dX10_whyNotShape_79 : decode cX10_whyNotShape 79 = .ok (.lcmp, 1) := by decide +kernel
theorem dX10_whyNotShape_80 : decode cX10_whyNotShape 80 = .ok (.ifCond .lt 6, 3) := by decide +kernel
theorem dX10_whyNotShape_83 : decode cX10_whyNotShape 83 = .ok (.bipush (-2), 2) := by decide +kernel
theorem dX10_whyNotShape_85 : decode cX10_whyNotShape 85 = .ok (.ireturn, 1) := by decide +kernel
theorem dX10_whyNotShape_86 : decode cX10_whyNotShape 86 = .ok (.iinc 3 1, 3) := by decide +kernel
theorem dX10_whyNotShape_89 : decode cX10_whyNotShape 89 = .ok (.goto (-75), 3) := by decide +kernel
theorem dX10_whyNotShape_92 : decode cX10_whyNotShape 92 = .ok (.iconst 0, 1) := by decide +kernel
theorem dX10_whyNotShape_93 : decode cX10_whyNotShape 93 = .ok (.ireturn, 1) := by decide +kernel
theorem dX10_shapedOf_0 : decode cX10_shapedOf 0 = .ok (.iconst 0, 1) := by decide +kernel
theorem dX10_shapedOf_1 : decode cX10_shapedOf 1 = .ok (.istore_n 3, 1) := by decide +kernel
theorem dX10_shapedOf_2 : decode cX10_shapedOf 2 = .ok (.iconst 0, 1) := by decide +kernel
theorem dX10_shapedOf_3 : decode cX10_shapedOf 3 = .ok (.istore 4, 2) := by decide +kernel
theorem dX10_shapedOf_5 : decode cX10_shapedOf 5 = .ok (.iload 4, 2) := by decide +kernel
theorem dX10_shapedOf_7 : decode cX10_shapedOf 7 = .ok (.aload_n 0, 1) := by decide +kernel
theorem dX10_shapedOf_8 : decode cX10_shapedOf 8 = .ok (.getfield 13, 3) := by decide +kernel
theorem dX10_shapedOf_11 : decode cX10_shapedOf 11 = .ok (.iload_n 2, 1) := by decide +kernel
theorem dX10_shapedOf_12 : decode cX10_shapedOf 12 = .ok (.iaload, 1) := by decide +kernel
theorem dX10_shapedOf_13 : decode cX10_shapedOf 13 = .ok (.if_icmp .ge 51, 3) := by decide +kernel
theorem dX10_shapedOf_16 : decode cX10_shapedOf 16 = .ok (.aload_n 0, 1) := by decide +kernel
theorem dX10_shapedOf_17 : decode cX10_shapedOf 17 = .ok (.getfield 16, 3) := by decide +kernel
theorem dX10_shapedOf_20 : decode cX10_shapedOf 20 = .ok (.bipush 60, 2) := by decide +kernel
theorem dX10_shapedOf_22 : decode cX10_shapedOf 22 = .ok (.iload_n 2, 1) := by decide +kernel
theorem dX10_shapedOf_23 : decode cX10_shapedOf 23 = .ok (.imul, 1) := by decide +kernel
theorem dX10_shapedOf_24 : decode cX10_shapedOf 24 = .ok (.iload 4, 2) := by decide +kernel
theorem dX10_shapedOf_26 : decode cX10_shapedOf 26 = .ok (.iadd, 1) := by decide +kernel
theorem dX10_shapedOf_27 : decode cX10_shapedOf 27 = .ok (.laload, 1) := by decide +kernel
theorem dX10_shapedOf_28 : decode cX10_shapedOf 28 = .ok (.l2i, 1) := by decide +kernel
theorem dX10_shapedOf_29 : decode cX10_shapedOf 29 = .ok (.istore 5, 2) := by decide +kernel
theorem dX10_shapedOf_31 : decode cX10_shapedOf 31 = .ok (.aload_n 0, 1) := by decide +kernel
theorem dX10_shapedOf_32 : decode cX10_shapedOf 32 = .ok (.iload_n 3, 1) := by decide +kernel
theorem dX10_shapedOf_33 : decode cX10_shapedOf 33 = .ok (.aload_n 0, 1) := by decide +kernel
theorem dX10_shapedOf_34 : decode cX10_shapedOf 34 = .ok (.getfield 74, 3) := by decide +kernel
theorem dX10_shapedOf_37 : decode cX10_shapedOf 37 = .ok (.aload_n 0, 1) := by decide +kernel
theorem dX10_shapedOf_38 : decode cX10_shapedOf 38 = .ok (.iconst 0, 1) := by decide +kernel
theorem dX10_shapedOf_39 : decode cX10_shapedOf 39 = .ok (.iload_n 1, 1) := by decide +kernel
theorem dX10_shapedOf_40 : decode cX10_shapedOf 40 = .ok (.iload 5, 2) := by decide +kernel
theorem dX10_shapedOf_42 : decode cX10_shapedOf 42 = .ok (.bipush 10, 2) := by decide +kernel
theorem dX10_shapedOf_44 : decode cX10_shapedOf 44 = .ok (.idiv, 1) := by decide +kernel
theorem dX10_shapedOf_45 : decode cX10_shapedOf 45 = .ok (.iload 5, 2) := by decide +kernel
theorem dX10_shapedOf_47 : decode cX10_shapedOf 47 = .ok (.bipush 10, 2) := by decide +kernel
theorem dX10_shapedOf_49 : decode cX10_shapedOf 49 = .ok (.irem, 1) := by decide +kernel
theorem dX10_shapedOf_50 : decode cX10_shapedOf 50 = .ok (.invokevirtual 314, 3) := by decide +kernel
theorem dX10_shapedOf_53 : decode cX10_shapedOf 53 = .ok (.iaload, 1) := by decide +kernel
theorem dX10_shapedOf_54 : decode cX10_shapedOf 54 = .ok (.invokevirtual 398, 3) := by decide +kernel
theorem dX10_shapedOf_57 : decode cX10_shapedOf 57 = .ok (.istore_n 3, 1) := by decide +kernel
theorem dX10_shapedOf_58 : decode cX10_shapedOf 58 = .ok (.iinc 4 1, 3) := by decide +kernel
theorem dX10_shapedOf_61 : decode cX10_shapedOf 61 = .ok (.goto (-56), 3) := by decide +kernel
theorem dX10_shapedOf_64 : decode cX10_shapedOf 64 = .ok (.iload_n 3, 1) := by decide +kernel
theorem dX10_shapedOf_65 : decode cX10_shapedOf 65 = .ok (.ireturn, 1) := by decide +kernel
theorem dX10_later_0 : decode cX10_later 0 = .ok (.iload_n 2, 1) := by decide +kernel
theorem dX10_later_1 : decode cX10_later 1 = .ok (.ifCond .le 22, 3) := by decide +kernel
theorem dX10_later_4 : decode cX10_later 4 = .ok (.aload_n 0, 1) := by decide +kernel
theorem dX10_later_5 : decode cX10_later 5 = .ok (.iconst 0, 1) := by decide +kernel
theorem dX10_later_6 : decode cX10_later 6 = .ok (.iload_n 2, 1) := by decide +kernel
theorem dX10_later_7 : decode cX10_later 7 = .ok (.invokevirtual 350, 3) := by decide +kernel
theorem dX10_later_10 : decode cX10_later 10 = .ok (.iload_n 1, 1) := by decide +kernel
theorem dX10_later_11 : decode cX10_later 11 = .ok (.if_icmp .le 12, 3) := by decide +kernel
theorem dX10_later_14 : decode cX10_later 14 = .ok (.aload_n 0, 1) := by decide +kernel
theorem dX10_later_15 : decode cX10_later 15 = .ok (.iconst 0, 1) := by decide +kernel
theorem dX10_later_16 : decode cX10_later 16 = .ok (.iload_n 2, 1) := by decide +kernel
theorem dX10_later_17 : decode cX10_later 17 = .ok (.invokevirtual 350, 3) := by decide +kernel
theorem dX10_later_20 : decode cX10_later 20 = .ok (.goto 4, 3) := by decide +kernel
theorem dX10_later_23 : decode cX10_later 23 = .ok (.iload_n 1, 1) := by decide +kernel
theorem dX10_later_24 : decode cX10_later 24 = .ok (.ireturn, 1) := by decide +kernel
theorem dX10_shaped_0 : decode cX10_shaped 0 = .ok (.aload_n 0, 1) := by decide +kernel
theorem dX10_shaped_1 : decode cX10_shaped 1 = .ok (.iconst 0, 1) := by decide +kernel
theorem dX10_shaped_2 : decode cX10_shaped 2 = .ok (.putfield 95, 3) := by decide +kernel
theorem dX10_shaped_5 : decode cX10_shaped 5 = .ok (.aload_n 0, 1) := by decide +kernel
theorem dX10_shaped_6 : decode cX10_shaped 6 = .ok (.iload_n 1, 1) := by decide +kernel
theorem dX10_shaped_7 : decode cX10_shaped 7 = .ok (.invokevirtual 342, 3) := by decide +kernel
theorem dX10_shaped_10 : decode cX10_shaped 10 = .ok (.ifCond .eq 11, 3) := by decide +kernel
theorem dX10_shaped_13 : decode cX10_shaped 13 = .ok (.aload_n 0, 1) := by decide +kernel
theorem dX10_shaped_14 : decode cX10_shaped 14 = .ok (.iload_n 2, 1) := by decide +kernel
theorem dX10_shaped_15 : decode cX10_shaped 15 = .ok (.invokevirtual 336, 3) := by decide +kernel
theorem dX10_shaped_18 : decode cX10_shaped 18 = .ok (.ifCond .ne 6, 3) := by decide +kernel
theorem dX10_shaped_21 : decode cX10_shaped 21 = .ok (.bipush (-2), 2) := by decide +kernel
theorem dX10_shaped_23 : decode cX10_shaped 23 = .ok (.ireturn, 1) := by decide +kernel
theorem dX10_shaped_24 : decode cX10_shaped 24 = .ok (.aload_n 0, 1) := by decide +kernel
theorem dX10_shaped_25 : decode cX10_shaped 25 = .ok (.iload_n 3, 1) := by decide +kernel
theorem dX10_shaped_26 : decode cX10_shaped 26 = .ok (.invokevirtual 401, 3) := by decide +kernel
theorem dX10_shaped_29 : decode cX10_shaped 29 = .ok (.istore 4, 2) := by decide +kernel
theorem dX10_shaped_31 : decode cX10_shaped 31 = .ok (.iload 4, 2) := by decide +kernel
theorem dX10_shaped_33 : decode cX10_shaped 33 = .ok (.ifCond .eq 6, 3) := by decide +kernel
theorem dX10_shaped_36 : decode cX10_shaped 36 = .ok (.iload 4, 2) := by decide +kernel
theorem dX10_shaped_38 : decode cX10_shaped 38 = .ok (.ireturn, 1) := by decide +kernel
theorem dX10_shaped_39 : decode cX10_shaped 39 = .ok (.aload_n 0, 1) := by decide +kernel
theorem dX10_shaped_40 : decode cX10_shaped 40 = .ok (.iconst 0, 1) := by decide +kernel
theorem dX10_shaped_41 : decode cX10_shaped 41 = .ok (.iload_n 1, 1) := by decide +kernel
theorem dX10_shaped_42 : decode cX10_shaped 42 = .ok (.iconst 0, 1) := by decide +kernel
theorem dX10_shaped_43 : decode cX10_shaped 43 = .ok (.invokevirtual 317, 3) := by decide +kernel
theorem dX10_shaped_46 : decode cX10_shaped 46 = .ok (.aload_n 0, 1) := by decide +kernel
theorem dX10_shaped_47 : decode cX10_shaped 47 = .ok (.iload_n 2, 1) := by decide +kernel
theorem dX10_shaped_48 : decode cX10_shaped 48 = .ok (.iload_n 3, 1) := by decide +kernel
theorem dX10_shaped_49 : decode cX10_shaped 49 = .ok (.invokevirtual 404, 3) := by decide +kernel
theorem dX10_shaped_52 : decode cX10_shaped 52 = .ok (.ireturn, 1) := by decide +kernel
theorem dX10_shape_0 : decode cX10_shape 0 = .ok (.aload_n 0, 1) := by decide +kernel
theorem dX10_shape_1 : decode cX10_shape 1 = .ok (.iconst 0, 1) := by decide +kernel
theorem dX10_shape_2 : decode cX10_shape 2 = .ok (.putfield 95, 3) := by decide +kernel
theorem dX10_shape_5 : decode cX10_shape 5 = .ok (.iload_n 2, 1) := by decide +kernel
theorem dX10_shape_6 : decode cX10_shape 6 = .ok (.i2l, 1) := by decide +kernel
theorem dX10_shape_7 : decode cX10_shape 7 = .ok (.lconst 0, 1) := by decide +kernel
theorem dX10_shape_8 : decode cX10_shape 8 = .ok (.lconst 1, 1) := by decide +kernel
theorem dX10_shape_9 : decode cX10_shape 9 = .ok (.invokestatic 100, 3) := by decide +kernel
theorem dX10_shape_12 : decode cX10_shape 12 = .ok (.ifCond .eq 11, 3) := by decide +kernel
theorem dX10_shape_15 : decode cX10_shape 15 = .ok (.aload_n 0, 1) := by decide +kernel
theorem dX10_shape_16 : decode cX10_shape 16 = .ok (.iload_n 1, 1) := by decide +kernel
theorem dX10_shape_17 : decode cX10_shape 17 = .ok (.invokevirtual 401, 3) := by decide +kernel
theorem dX10_shape_20 : decode cX10_shape 20 = .ok (.goto 5, 3) := by decide +kernel
theorem dX10_shape_23 : decode cX10_shape 23 = .ok (.bipush (-2), 2) := by decide +kernel
theorem dX10_shape_25 : decode cX10_shape 25 = .ok (.istore_n 3, 1) := by decide +kernel
theorem dX10_shape_26 : decode cX10_shape 26 = .ok (.iload_n 3, 1) := by decide +kernel
theorem dX10_shape_27 : decode cX10_shape 27 = .ok (.ifCond .eq 5, 3) := by decide +kernel
theorem dX10_shape_30 : decode cX10_shape 30 = .ok (.iload_n 3, 1) := by decide +kernel
theorem dX10_shape_31 : decode cX10_shape 31 = .ok (.ireturn, 1) := by decide +kernel
theorem dX10_shape_32 : decode cX10_shape 32 = .ok (.iconst (-1), 1) := by decide +kernel
theorem dX10_shape_33 : decode cX10_shape 33 = .ok (.istore 4, 2) := by decide +kernel
theorem dX10_shape_35 : decode cX10_shape 35 = .ok (.iconst (-1), 1) := by decide +kernel
theorem dX10_shape_36 : decode cX10_shape 36 = .ok (.istore 5, 2) := by decide +kernel
theorem dX10_shape_38 : decode cX10_shape 38 = .ok (.iconst 0, 1) := by decide +kernel
theorem dX10_shape_39 : decode cX10_shape 39 = .ok (.istore 6, 2) := by decide +kernel
theorem dX10_shape_41 : decode cX10_shape 41 = .ok (.iload 6, 2) := by decide +kernel
theorem dX10_shape_43 : decode cX10_shape 43 = .ok (.aload_n 0, 1) := by decide +kernel
theorem dX10_shape_44 : decode cX10_shape 44 = .ok (.getfield 34, 3) := by decide +kernel
theorem dX10_shape_47 : decode cX10_shape 47 = .ok (.iconst 4, 1) := by decide +kernel
theorem dX10_shape_48 : decode cX10_shape 48 = .ok (.iaload, 1) := by decide +kernel
theorem dX10_shape_49 : decode cX10_shape 49 = .ok (.if_icmp .ge 81, 3) := by decide +kernel
theorem dX10_shape_52 : decode cX10_shape 52 = .ok (.aload_n 0, 1) := by decide +kernel
theorem dX10_shape_53 : decode cX10_shape 53 = .ok (.iconst 0, 1) := by decide +kernel
theorem dX10_shape_54 : decode cX10_shape 54 = .ok (.aload_n 0, 1) := by decide +kernel
theorem dX10_shape_55 : decode cX10_shape 55 = .ok (.getfield 43, 3) := by decide +kernel
theorem dX10_shape_58 : decode cX10_shape 58 = .ok (.iload 6, 2) := by decide +kernel
theorem dX10_shape_60 : decode cX10_shape 60 = .ok (.iaload, 1) := by decide +kernel
theorem dX10_shape_61 : decode cX10_shape 61 = .ok (.iconst 0, 1) := by decide +kernel
theorem dX10_shape_62 : decode cX10_shape 62 = .ok (.invokevirtual 317, 3) := by decide +kernel
theorem dX10_shape_65 : decode cX10_shape 65 = .ok (.iconst 0, 1) := by decide +kernel
theorem dX10_shape_66 : decode cX10_shape 66 = .ok (.istore 7, 2) := by decide +kernel
theorem dX10_shape_68 : decode cX10_shape 68 = .ok (.iload 7, 2) := by decide +kernel
theorem dX10_shape_70 : decode cX10_shape 70 = .ok (.aload_n 0, 1) := by decide +kernel
theorem dX10_shape_71 : decode cX10_shape 71 = .ok (.getfield 34, 3) := by decide +kernel
theorem dX10_shape_74 : decode cX10_shape 74 = .ok (.iconst 0, 1) := by decide +kernel
theorem dX10_shape_75 : decode cX10_shape 75 = .ok (.iaload, 1) := by decide +kernel
theorem dX10_shape_76 : decode cX10_shape 76 = .ok (.if_icmp .ge 48, 3) := by decide +kernel
theorem dX10_shape_79 : decode cX10_shape 79 = .ok (.aload_n 0, 1) := by decide +kernel
theorem dX10_shape_80 : decode cX10_shape 80 = .ok (.iload 7, 2) := by decide +kernel
theorem dX10_shape_82 : decode cX10_shape 82 = .ok (.iload_n 1, 1) := by decide +kernel
theorem dX10_shape_83 : decode cX10_shape 83 = .ok (.invokevirtual 404, 3) := by decide +kernel
theorem dX10_shape_86 : decode cX10_shape 86 = .ok (.istore 8, 2) := by decide +kernel
theorem dX10_shape_88 : decode cX10_shape 88 = .ok (.iload 4, 2) := by decide +kernel
theorem dX10_shape_90 : decode cX10_shape 90 = .ok (.iconst (-1), 1) := by decide +kernel
theorem dX10_shape_91 : decode cX10_shape 91 = .ok (.if_icmp .eq 13, 3) := by decide +kernel
theorem dX10_shape_94 : decode cX10_shape 94 = .ok (.iload 8, 2) := by decide +kernel
theorem dX10_shape_96 : decode cX10_shape 96 = .ok (.iload 4, 2) := by decide +kernel
theorem dX10_shape_98 : decode cX10_shape 98 = .ok (.if_icmp .lt 6, 3) := by decide +kernel
theorem dX10_shape_101 : decode cX10_shape 101 = .ok (.goto 17, 3) := by decide +kernel
theorem dX10_shape_104 : decode cX10_shape 104 = .ok (.iload 8, 2) := by decide +kernel
theorem dX10_shape_106 : decode cX10_shape 106 = .ok (.istore 4, 2) := by decide +kernel
theorem dX10_shape_108 : decode cX10_shape 108 = .ok (.bipush 10, 2) := by decide +kernel
theorem dX10_shape_110 : decode cX10_shape 110 = .ok (.iload 6, 2) := by decide +kernel
theorem dX10_shape_112 : decode cX10_shape 112 = .ok (.imul, 1) := by decide +kernel
theorem dX10_shape_113 : decode cX10_shape 113 = .ok (.iload 7, 2) := by decide +kernel
theorem dX10_shape_115 : decode cX10_shape 115 = .ok (.iadd, 1) := by decide +kernel
theorem dX10_shape_116 : decode cX10_shape 116 = .ok (.istore 5, 2) := by decide +kernel
theorem dX10_shape_118 : decode cX10_shape 118 = .ok (.iinc 7 1, 3) := by decide +kernel
theorem dX10_shape_121 : decode cX10_shape 121 = .ok (.goto (-53), 3) := by decide +kernel
theorem dX10_shape_124 : decode cX10_shape 124 = .ok (.iinc 6 1, 3) := by decide +kernel
theorem dX10_shape_127 : decode cX10_shape 127 = .ok (.goto (-86), 3) := by decide +kernel
theorem dX10_shape_130 : decode cX10_shape 130 = .ok (.iload_n 2, 1) := by decide +kernel
theorem dX10_shape_131 : decode cX10_shape 131 = .ok (.ifCond .ne 8, 3) := by decide +kernel
theorem dX10_shape_134 : decode cX10_shape 134 = .ok (.iload 4, 2) := by decide +kernel
theorem dX10_shape_136 : decode cX10_shape 136 = .ok (.goto 5, 3) := by decide +kernel
theorem dX10_shape_139 : decode cX10_shape 139 = .ok (.iload 5, 2) := by decide +kernel
theorem dX10_shape_141 : decode cX10_shape 141 = .ok (.ireturn, 1) := by decide +kernel
theorem dX10_endOf_0 : decode cX10_endOf 0 = .ok (.iload_n 3, 1) := by decide +kernel
theorem dX10_endOf_1 : decode cX10_endOf 1 = .ok (.ifCond .le 7, 3) := by decide +kernel
theorem dX10_endOf_4 : decode cX10_endOf 4 = .ok (.iconst 0, 1) := by decide +kernel
theorem dX10_endOf_5 : decode cX10_endOf 5 = .ok (.goto 4, 3) := by decide +kernel
theorem dX10_endOf_8 : decode cX10_endOf 8 = .ok (.iconst 4, 1) := by decide +kernel
theorem dX10_endOf_9 : decode cX10_endOf 9 = .ok (.istore 4, 2) := by decide +kernel
theorem dX10_endOf_11 : decode cX10_endOf 11 = .ok (.aload_n 0, 1) := by decide +kernel
theorem dX10_endOf_12 : decode cX10_endOf 12 = .ok (.getfield 74, 3) := by decide +kernel
theorem dX10_endOf_15 : decode cX10_endOf 15 = .ok (.aload_n 0, 1) := by decide +kernel
theorem dX10_endOf_16 : decode cX10_endOf 16 = .ok (.iconst 0, 1) := by decide +kernel
theorem dX10_endOf_17 : decode cX10_endOf 17 = .ok (.iload_n 1, 1) := by decide +kernel
theorem dX10_endOf_18 : decode cX10_endOf 18 = .ok (.iload_n 2, 1) := by decide +kernel
theorem dX10_endOf_19 : decode cX10_endOf 19 = .ok (.iload 4, 2) := by decide +kernel
theorem dX10_endOf_21 : decode cX10_endOf 21 = .ok (.invokevirtual 314, 3) := by decide +kernel
theorem dX10_endOf_24 : decode cX10_endOf 24 = .ok (.iaload, 1) := by decide +kernel
theorem dX10_endOf_25 : decode cX10_endOf 25 = .ok (.ifCond .ne 12, 3) := by decide +kernel
theorem dX10_endOf_28 : decode cX10_endOf 28 = .ok (.iload 4, 2) := by decide +kernel
theorem dX10_endOf_30 : decode cX10_endOf 30 = .ok (.iload_n 3, 1) := by decide +kernel
theorem dX10_endOf_31 : decode cX10_endOf 31 = .ok (.iadd, 1) := by decide +kernel
theorem dX10_endOf_32 : decode cX10_endOf 32 = .ok (.istore 4, 2) := by decide +kernel
theorem dX10_endOf_34 : decode cX10_endOf 34 = .ok (.goto (-23), 3) := by decide +kernel
theorem dX10_endOf_37 : decode cX10_endOf 37 = .ok (.aload_n 0, 1) := by decide +kernel
theorem dX10_endOf_38 : decode cX10_endOf 38 = .ok (.getfield 74, 3) := by decide +kernel
theorem dX10_endOf_41 : decode cX10_endOf 41 = .ok (.aload_n 0, 1) := by decide +kernel
theorem dX10_endOf_42 : decode cX10_endOf 42 = .ok (.iconst 0, 1) := by decide +kernel
theorem dX10_endOf_43 : decode cX10_endOf 43 = .ok (.iload_n 1, 1) := by decide +kernel
theorem dX10_endOf_44 : decode cX10_endOf 44 = .ok (.iload_n 2, 1) := by decide +kernel
theorem dX10_endOf_45 : decode cX10_endOf 45 = .ok (.iload 4, 2) := by decide +kernel
theorem dX10_endOf_47 : decode cX10_endOf 47 = .ok (.invokevirtual 314, 3) := by decide +kernel
theorem dX10_endOf_50 : decode cX10_endOf 50 = .ok (.iaload, 1) := by decide +kernel
theorem dX10_endOf_51 : decode cX10_endOf 51 = .ok (.ireturn, 1) := by decide +kernel
theorem dX10_corners_0 : decode cX10_corners 0 = .ok (.aload_n 0, 1) := by decide +kernel
theorem dX10_corners_1 : decode cX10_corners 1 = .ok (.iconst 0, 1) := by decide +kernel
theorem dX10_corners_2 : decode cX10_corners 2 = .ok (.putfield 95, 3) := by decide +kernel
theorem dX10_corners_5 : decode cX10_corners 5 = .ok (.aload_n 0, 1) := by decide +kernel
theorem dX10_corners_6 : decode cX10_corners 6 = .ok (.iload_n 1, 1) := by decide +kernel
theorem dX10_corners_7 : decode cX10_corners 7 = .ok (.invokevirtual 342, 3) := by decide +kernel
theorem dX10_corners_10 : decode cX10_corners 10 = .ok (.ifCond .eq 11, 3) := by decide +kernel
theorem dX10_corners_13 : decode cX10_corners 13 = .ok (.aload_n 0, 1) := by decide +kernel
theorem dX10_corners_14 : decode cX10_corners 14 = .ok (.iload_n 2, 1) := by decide +kernel
theorem dX10_corners_15 : decode cX10_corners 15 = .ok (.invokevirtual 336, 3) := by decide +kernel
theorem dX10_corners_18 : decode cX10_corners 18 = .ok (.ifCond .ne 6, 3) := by decide +kernel
theorem dX10_corners_21 : decode cX10_corners 21 = .ok (.bipush (-2), 2) := by decide +kernel
theorem dX10_corners_23 : decode cX10_corners 23 = .ok (.ireturn, 1) := by decide +kernel
theorem dX10_corners_24 : decode cX10_corners 24 = .ok (.aload_n 0, 1) := by decide +kernel
theorem dX10_corners_25 : decode cX10_corners 25 = .ok (.iconst 0, 1) := by decide +kernel
theorem dX10_corners_26 : decode cX10_corners 26 = .ok (.iload_n 1, 1) := by decide +kernel
theorem dX10_corners_27 : decode cX10_corners 27 = .ok (.iconst 0, 1) := by decide +kernel
theorem dX10_corners_28 : decode cX10_corners 28 = .ok (.invokevirtual 317, 3) := by decide +kernel
theorem dX10_corners_31 : decode cX10_corners 31 = .ok (.aload_n 0, 1) := by decide +kernel
theorem dX10_corners_32 : decode cX10_corners 32 = .ok (.getfield 34, 3) := by decide +kernel
theorem dX10_corners_35 : decode cX10_corners 35 = .ok (.iconst 1, 1) := by decide +kernel
theorem dX10_corners_36 : decode cX10_corners 36 = .ok (.iaload, 1) := by decide +kernel
theorem dX10_corners_37 : decode cX10_corners 37 = .ok (.iconst 1, 1) := by decide +kernel
theorem dX10_corners_38 : decode cX10_corners 38 = .ok (.isub, 1) := by decide +kernel
theorem dX10_corners_39 : decode cX10_corners 39 = .ok (.istore_n 3, 1) := by decide +kernel
theorem dX10_corners_40 : decode cX10_corners 40 = .ok (.aload_n 0, 1) := by decide +kernel
theorem dX10_corners_41 : decode cX10_corners 41 = .ok (.aload_n 0, 1) := by decide +kernel
theorem dX10_corners_42 : decode cX10_corners 42 = .ok (.aload_n 0, 1) := by decide +kernel
theorem dX10_corners_43 : decode cX10_corners 43 = .ok (.aload_n 0, 1) := by decide +kernel
theorem dX10_corners_44 : decode cX10_corners 44 = .ok (.iconst 0, 1) := by decide +kernel
theorem dX10_corners_45 : decode cX10_corners 45 = .ok (.aload_n 0, 1) := by decide +kernel
theorem dX10_corners_46 : decode cX10_corners 46 = .ok (.iload_n 2, 1) := by decide +kernel
theorem dX10_corners_47 : decode cX10_corners 47 = .ok (.iconst 0, 1) := by decide +kernel
theorem dX10_corners_48 : decode cX10_corners 48 = .ok (.iconst 1, 1) := by decide +kernel
theorem dX10_corners_49 : decode cX10_corners 49 = .ok (.invokevirtual 407, 3) := by decide +kernel
theorem dX10_corners_52 : decode cX10_corners 52 = .ok (.invokevirtual 398, 3) := by decide +kernel
theorem dX10_corners_55 : decode cX10_corners 55 = .ok (.aload_n 0, 1) := by decide +kernel
theorem dX10_corners_56 : decode cX10_corners 56 = .ok (.iload_n 2, 1) := by decide +kernel
theorem dX10_corners_57 : decode cX10_corners 57 = .ok (.iconst 0, 1) := by decide +kernel
theorem dX10_corners_58 : decode cX10_corners 58 = .ok (.iconst (-1), 1) := by decide +kernel
theorem dX10_corners_59 : decode cX10_corners 59 = .ok (.invokevirtual 407, 3) := by decide +kernel
theorem dX10_corners_62 : decode cX10_corners 62 = .ok (.invokevirtual 398, 3) := by decide +kernel
theorem dX10_corners_65 : decode cX10_corners 65 = .ok (.aload_n 0, 1) := by decide +kernel
theorem dX10_corners_66 : decode cX10_corners 66 = .ok (.iload_n 2, 1) := by decide +kernel
theorem dX10_corners_67 : decode cX10_corners 67 = .ok (.iload_n 3, 1) := by decide +kernel
theorem dX10_corners_68 : decode cX10_corners 68 = .ok (.iconst 1, 1) := by decide +kernel
theorem dX10_corners_69 : decode cX10_corners 69 = .ok (.invokevirtual 407, 3) := by decide +kernel
theorem dX10_corners_72 : decode cX10_corners 72 = .ok (.invokevirtual 398, 3) := by decide +kernel
theorem dX10_corners_75 : decode cX10_corners 75 = .ok (.aload_n 0, 1) := by decide +kernel
theorem dX10_corners_76 : decode cX10_corners 76 = .ok (.iload_n 2, 1) := by decide +kernel
theorem dX10_corners_77 : decode cX10_corners 77 = .ok (.iload_n 3, 1) := by decide +kernel
theorem dX10_corners_78 : decode cX10_corners 78 = .ok (.iconst (-1), 1) := by decide +kernel
theorem dX10_corners_79 : decode cX10_corners 79 = .ok (.invokevirtual 407, 3) := by decide +kernel
theorem dX10_corners_82 : decode cX10_corners 82 = .ok (.invokevirtual 398, 3) := by decide +kernel
theorem dX10_corners_85 : decode cX10_corners 85 = .ok (.ireturn, 1) := by decide +kernel
theorem dX10_filled_0 : decode cX10_filled 0 = .ok (.aload_n 0, 1) := by decide +kernel
theorem dX10_filled_1 : decode cX10_filled 1 = .ok (.iconst 0, 1) := by decide +kernel
theorem dX10_filled_2 : decode cX10_filled 2 = .ok (.putfield 95, 3) := by decide +kernel
theorem dX10_filled_5 : decode cX10_filled 5 = .ok (.aload_n 0, 1) := by decide +kernel
theorem dX10_filled_6 : decode cX10_filled 6 = .ok (.iload_n 1, 1) := by decide +kernel
theorem dX10_filled_7 : decode cX10_filled 7 = .ok (.invokevirtual 342, 3) := by decide +kernel
theorem dX10_filled_10 : decode cX10_filled 10 = .ok (.ifCond .eq 19, 3) := by decide +kernel
theorem dX10_filled_13 : decode cX10_filled 13 = .ok (.aload_n 0, 1) := by decide +kernel
theorem dX10_filled_14 : decode cX10_filled 14 = .ok (.iload_n 2, 1) := by decide +kernel
theorem dX10_filled_15 : decode cX10_filled 15 = .ok (.invokevirtual 336, 3) := by decide +kernel
theorem dX10_filled_18 : decode cX10_filled 18 = .ok (.ifCond .eq 11, 3) := by decide +kernel
theorem dX10_filled_21 : decode cX10_filled 21 = .ok (.aload_n 0, 1) := by decide +kernel
theorem dX10_filled_22 : decode cX10_filled 22 = .ok (.iload_n 3, 1) := by decide +kernel
theorem dX10_filled_23 : decode cX10_filled 23 = .ok (.invokevirtual 329, 3) := by decide +kernel
theorem dX10_filled_26 : decode cX10_filled 26 = .ok (.ifCond .ne 6, 3) := by decide +kernel
theorem dX10_filled_29 : decode cX10_filled 29 = .ok (.bipush (-2), 2) := by decide +kernel
theorem dX10_filled_31 : decode cX10_filled 31 = .ok (.ireturn, 1) := by decide +kernel
theorem dX10_filled_32 : decode cX10_filled 32 = .ok (.aload_n 0, 1) := by decide +kernel
theorem dX10_filled_33 : decode cX10_filled 33 = .ok (.iconst 0, 1) := by decide +kernel
theorem dX10_filled_34 : decode cX10_filled 34 = .ok (.iload_n 1, 1) := by decide +kernel
theorem dX10_filled_35 : decode cX10_filled 35 = .ok (.iconst 0, 1) := by decide +kernel
theorem dX10_filled_36 : decode cX10_filled 36 = .ok (.invokevirtual 317, 3) := by decide +kernel
theorem dX10_filled_39 : decode cX10_filled 39 = .ok (.iconst 0, 1) := by decide +kernel
theorem dX10_filled_40 : decode cX10_filled 40 = .ok (.istore 4, 2) := by decide +kernel
theorem dX10_filled_42 : decode cX10_filled 42 = .ok (.iconst 0, 1) := by decide +kernel
theorem dX10_filled_43 : decode cX10_filled 43 = .ok (.istore 5, 2) := by decide +kernel
theorem dX10_filled_45 : decode cX10_filled 45 = .ok (.iload 5, 2) := by decide +kernel
theorem dX10_filled_47 : decode cX10_filled 47 = .ok (.iconst 3, 1) := by decide +kernel
theorem dX10_filled_48 : decode cX10_filled 48 = .ok (.if_icmp .ge 31, 3) := by decide +kernel
theorem dX10_filled_51 : decode cX10_filled 51 = .ok (.aload_n 0, 1) := by decide +kernel
theorem dX10_filled_52 : decode cX10_filled 52 = .ok (.iload 4, 2) := by decide +kernel
theorem dX10_filled_54 : decode cX10_filled 54 = .ok (.aload_n 0, 1) := by decide +kernel
theorem dX10_filled_55 : decode cX10_filled 55 = .ok (.getfield 74, 3) := by decide +kernel
theorem dX10_filled_58 : decode cX10_filled 58 = .ok (.aload_n 0, 1) := by decide +kernel
theorem dX10_filled_59 : decode cX10_filled 59 = .ok (.iconst 0, 1) := by decide +kernel
theorem dX10_filled_60 : decode cX10_filled 60 = .ok (.iload_n 2, 1) := by decide +kernel
theorem dX10_filled_61 : decode cX10_filled 61 = .ok (.iload 5, 2) := by decide +kernel
theorem dX10_filled_63 : decode cX10_filled 63 = .ok (.iload_n 3, 1) := by decide +kernel
theorem dX10_filled_64 : decode cX10_filled 64 = .ok (.invokevirtual 314, 3) := by decide +kernel
theorem dX10_filled_67 : decode cX10_filled 67 = .ok (.iaload, 1) := by decide +kernel
theorem dX10_filled_68 : decode cX10_filled 68 = .ok (.invokevirtual 398, 3) := by decide +kernel
theorem dX10_filled_71 : decode cX10_filled 71 = .ok (.istore 4, 2) := by decide +kernel
theorem dX10_filled_73 : decode cX10_filled 73 = .ok (.iinc 5 1, 3) := by decide +kernel
theorem dX10_filled_76 : decode cX10_filled 76 = .ok (.goto (-31), 3) := by decide +kernel
theorem dX10_filled_79 : decode cX10_filled 79 = .ok (.iload 4, 2) := by decide +kernel
theorem dX10_filled_81 : decode cX10_filled 81 = .ok (.ireturn, 1) := by decide +kernel
theorem dX10_last_0 : decode cX10_last 0 = .ok (.aload_n 0, 1) := by decide +kernel
theorem dX10_last_1 : decode cX10_last 1 = .ok (.iconst 0, 1) := by decide +kernel
theorem dX10_last_2 : decode cX10_last 2 = .ok (.putfield 95, 3) := by decide +kernel
theorem dX10_last_5 : decode cX10_last 5 = .ok (.aload_n 0, 1) := by decide +kernel
theorem dX10_last_6 : decode cX10_last 6 = .ok (.iload_n 1, 1) := by decide +kernel
theorem dX10_last_7 : decode cX10_last 7 = .ok (.invokevirtual 342, 3) := by decide +kernel
theorem dX10_last_10 : decode cX10_last 10 = .ok (.ifCond .eq 11, 3) := by decide +kernel
theorem dX10_last_13 : decode cX10_last 13 = .ok (.aload_n 0, 1) := by decide +kernel
theorem dX10_last_14 : decode cX10_last 14 = .ok (.iload_n 2, 1) := by decide +kernel
theorem dX10_last_15 : decode cX10_last 15 = .ok (.invokevirtual 336, 3) := by decide +kernel
theorem dX10_last_18 : decode cX10_last 18 = .ok (.ifCond .ne 6, 3) := by decide +kernel
theorem dX10_last_21 : decode cX10_last 21 = .ok (.bipush (-2), 2) := by decide +kernel
theorem dX10_last_23 : decode cX10_last 23 = .ok (.ireturn, 1) := by decide +kernel
theorem dX10_last_24 : decode cX10_last 24 = .ok (.aload_n 0, 1) := by decide +kernel
theorem dX10_last_25 : decode cX10_last 25 = .ok (.iconst 0, 1) := by decide +kernel
theorem dX10_last_26 : decode cX10_last 26 = .ok (.iload_n 1, 1) := by decide +kernel
theorem dX10_last_27 : decode cX10_last 27 = .ok (.iconst 0, 1) := by decide +kernel
theorem dX10_last_28 : decode cX10_last 28 = .ok (.invokevirtual 317, 3) := by decide +kernel
theorem dX10_last_31 : decode cX10_last 31 = .ok (.iconst 0, 1) := by decide +kernel
theorem dX10_last_32 : decode cX10_last 32 = .ok (.istore_n 3, 1) := by decide +kernel
theorem dX10_last_33 : decode cX10_last 33 = .ok (.iconst 0, 1) := by decide +kernel
theorem dX10_last_34 : decode cX10_last 34 = .ok (.istore 4, 2) := by decide +kernel
theorem dX10_last_36 : decode cX10_last 36 = .ok (.iload 4, 2) := by decide +kernel
theorem dX10_last_38 : decode cX10_last 38 = .ok (.bipush 15, 2) := by decide +kernel
theorem dX10_last_40 : decode cX10_last 40 = .ok (.if_icmp .ge 27, 3) := by decide +kernel
theorem dX10_last_43 : decode cX10_last 43 = .ok (.aload_n 0, 1) := by decide +kernel
theorem dX10_last_44 : decode cX10_last 44 = .ok (.iload_n 3, 1) := by decide +kernel
theorem dX10_last_45 : decode cX10_last 45 = .ok (.aload_n 0, 1) := by decide +kernel
theorem dX10_last_46 : decode cX10_last 46 = .ok (.getfield 74, 3) := by decide +kernel
theorem dX10_last_49 : decode cX10_last 49 = .ok (.bipush 15, 2) := by decide +kernel
theorem dX10_last_51 : decode cX10_last 51 = .ok (.iload_n 2, 1) := by decide +kernel
theorem dX10_last_52 : decode cX10_last 52 = .ok (.imul, 1) := by decide +kernel
theorem dX10_last_53 : decode cX10_last 53 = .ok (.iload 4, 2) := by decide +kernel
theorem dX10_last_55 : decode cX10_last 55 = .ok (.iadd, 1) := by decide +kernel
theorem dX10_last_56 : decode cX10_last 56 = .ok (.iaload, 1) := by decide +kernel
theorem dX10_last_57 : decode cX10_last 57 = .ok (.invokevirtual 398, 3) := by decide +kernel
theorem dX10_last_60 : decode cX10_last 60 = .ok (.istore_n 3, 1) := by decide +kernel
theorem dX10_last_61 : decode cX10_last 61 = .ok (.iinc 4 1, 3) := by decide +kernel
theorem dX10_last_64 : decode cX10_last 64 = .ok (.goto (-28), 3) := by decide +kernel
theorem dX10_last_67 : decode cX10_last 67 = .ok (.aload_n 0, 1) := by decide +kernel
theorem dX10_last_68 : decode cX10_last 68 = .ok (.getfield 46, 3) := by decide +kernel
theorem dX10_last_71 : decode cX10_last 71 = .ok (.iload_n 3, 1) := by decide +kernel
theorem dX10_last_72 : decode cX10_last 72 = .ok (.iconst 1, 1) := by decide +kernel
theorem dX10_last_73 : decode cX10_last 73 = .ok (.isub, 1) := by decide +kernel
theorem dX10_last_74 : decode cX10_last 74 = .ok (.iaload, 1) := by decide +kernel
theorem dX10_last_75 : decode cX10_last 75 = .ok (.ireturn, 1) := by decide +kernel
theorem dX10_isBy_0 : decode cX10_isBy 0 = .ok (.aload_n 0, 1) := by decide +kernel
theorem dX10_isBy_1 : decode cX10_isBy 1 = .ok (.invokevirtual 324, 3) := by decide +kernel
theorem dX10_isBy_4 : decode cX10_isBy 4 = .ok (.ifCond .eq 28, 3) := by decide +kernel
theorem dX10_isBy_7 : decode cX10_isBy 7 = .ok (.iload_n 1, 1) := by decide +kernel
theorem dX10_isBy_8 : decode cX10_isBy 8 = .ok (.invokestatic 361, 3) := by decide +kernel
theorem dX10_isBy_11 : decode cX10_isBy 11 = .ok (.ifCond .eq 21, 3) := by decide +kernel
theorem dX10_isBy_14 : decode cX10_isBy 14 = .ok (.iload_n 2, 1) := by decide +kernel
theorem dX10_isBy_15 : decode cX10_isBy 15 = .ok (.i2l, 1) := by decide +kernel
theorem dX10_isBy_16 : decode cX10_isBy 16 = .ok (.lconst 0, 1) := by decide +kernel
theorem dX10_isBy_17 : decode cX10_isBy 17 = .ok (.aload_n 0, 1) := by decide +kernel
theorem dX10_isBy_18 : decode cX10_isBy 18 = .ok (.invokevirtual 332, 3) := by decide +kernel
theorem dX10_isBy_21 : decode cX10_isBy 21 = .ok (.i2l, 1) := by decide +kernel
theorem dX10_isBy_22 : decode cX10_isBy 22 = .ok (.invokestatic 100, 3) := by decide +kernel
theorem dX10_isBy_25 : decode cX10_isBy 25 = .ok (.ifCond .eq 7, 3) := by decide +kernel
theorem dX10_isBy_28 : decode cX10_isBy 28 = .ok (.iconst 1, 1) := by decide +kernel
theorem dX10_isBy_29 : decode cX10_isBy 29 = .ok (.goto 4, 3) := by decide +kernel
theorem dX10_isBy_32 : decode cX10_isBy 32 = .ok (.iconst 0, 1) := by decide +kernel
theorem dX10_isBy_33 : decode cX10_isBy 33 = .ok (.ireturn, 1) := by decide +kernel
theorem dX10_sweat_0 : decode cX10_sweat 0 = .ok (.aload_n 0, 1) := by decide +kernel
theorem dX10_sweat_1 : decode cX10_sweat 1 = .ok (.iconst 0, 1) := by decide +kernel
theorem dX10_sweat_2 : decode cX10_sweat 2 = .ok (.putfield 95, 3) := by decide +kernel
theorem dX10_sweat_5 : decode cX10_sweat 5 = .ok (.aload_n 0, 1) := by decide +kernel
theorem dX10_sweat_6 : decode cX10_sweat 6 = .ok (.iload_n 1, 1) := by decide +kernel
theorem dX10_sweat_7 : decode cX10_sweat 7 = .ok (.iload_n 2, 1) := by decide +kernel
theorem dX10_sweat_8 : decode cX10_sweat 8 = .ok (.invokevirtual 410, 3) := by decide +kernel
theorem dX10_sweat_11 : decode cX10_sweat 11 = .ok (.ifCond .ne 6, 3) := by decide +kernel
theorem dX10_sweat_14 : decode cX10_sweat 14 = .ok (.bipush (-2), 2) := by decide +kernel
theorem dX10_sweat_16 : decode cX10_sweat 16 = .ok (.ireturn, 1) := by decide +kernel
theorem dX10_sweat_17 : decode cX10_sweat 17 = .ok (.iconst 0, 1) := by decide +kernel
theorem dX10_sweat_18 : decode cX10_sweat 18 = .ok (.istore_n 3, 1) := by decide +kernel
theorem dX10_sweat_19 : decode cX10_sweat 19 = .ok (.iconst 0, 1) := by decide +kernel
theorem dX10_sweat_20 : decode cX10_sweat 20 = .ok (.istore 4, 2) := by decide +kernel
theorem dX10_sweat_22 : decode cX10_sweat 22 = .ok (.iload 4, 2) := by decide +kernel
theorem dX10_sweat_24 : decode cX10_sweat 24 = .ok (.aload_n 0, 1) := by decide +kernel
theorem dX10_sweat_25 : decode cX10_sweat 25 = .ok (.getfield 34, 3) := by decide +kernel
theorem dX10_sweat_28 : decode cX10_sweat 28 = .ok (.iconst 4, 1) := by decide +kernel
theorem dX10_sweat_29 : decode cX10_sweat 29 = .ok (.iaload, 1) := by decide +kernel
theorem dX10_sweat_30 : decode cX10_sweat 30 = .ok (.if_icmp .ge 63, 3) := by decide +kernel
theorem dX10_sweat_33 : decode cX10_sweat 33 = .ok (.aload_n 0, 1) := by decide +kernel
theorem dX10_sweat_34 : decode cX10_sweat 34 = .ok (.iconst 0, 1) := by decide +kernel
theorem dX10_sweat_35 : decode cX10_sweat 35 = .ok (.aload_n 0, 1) := by decide +kernel
theorem dX10_sweat_36 : decode cX10_sweat 36 = .ok (.getfield 43, 3) := by decide +kernel
theorem dX10_sweat_39 : decode cX10_sweat 39 = .ok (.iload 4, 2) := by decide +kernel
theorem dX10_sweat_41 : decode cX10_sweat 41 = .ok (.iaload, 1) := by decide +kernel
theorem dX10_sweat_42 : decode cX10_sweat 42 = .ok (.iconst 0, 1) := by decide +kernel
theorem dX10_sweat_43 : decode cX10_sweat 43 = .ok (.invokevirtual 317, 3) := by decide +kernel
theorem dX10_sweat_46 : decode cX10_sweat 46 = .ok (.iconst 0, 1) := by decide +kernel
theorem dX10_sweat_47 : decode cX10_sweat 47 = .ok (.istore 5, 2) := by decide +kernel
theorem dX10_sweat_49 : decode cX10_sweat 49 = .ok (.iload 5, 2) := by decide +kernel
theorem dX10_sweat_51 : decode cX10_sweat 51 = .ok (.aload_n 0, 1) := by decide +kernel
theorem dX10_sweat_52 : decode cX10_sweat 52 = .ok (.getfield 34, 3) := by decide +kernel
theorem dX10_sweat_55 : decode cX10_sweat 55 = .ok (.iconst 0, 1) := by decide +kernel
theorem dX10_sweat_56 : decode cX10_sweat 56 = .ok (.iaload, 1) := by decide +kernel
theorem dX10_sweat_57 : decode cX10_sweat 57 = .ok (.if_icmp .ge 30, 3) := by decide +kernel
theorem dX10_sweat_60 : decode cX10_sweat 60 = .ok (.iload_n 3, 1) := by decide +kernel
theorem dX10_sweat_61 : decode cX10_sweat 61 = .ok (.aload_n 0, 1) := by decide +kernel
theorem dX10_sweat_62 : decode cX10_sweat 62 = .ok (.iconst 0, 1) := by decide +kernel
theorem dX10_sweat_63 : decode cX10_sweat 63 = .ok (.iload 5, 2) := by decide +kernel
theorem dX10_sweat_65 : decode cX10_sweat 65 = .ok (.iload_n 1, 1) := by decide +kernel
theorem dX10_sweat_66 : decode cX10_sweat 66 = .ok (.iload_n 2, 1) := by decide +kernel
theorem dX10_sweat_67 : decode cX10_sweat 67 = .ok (.invokevirtual 364, 3) := by decide +kernel
theorem dX10_sweat_70 : decode cX10_sweat 70 = .ok (.iconst 1, 1) := by decide +kernel
theorem dX10_sweat_71 : decode cX10_sweat 71 = .ok (.if_icmp .ne 7, 3) := by decide +kernel
theorem dX10_sweat_74 : decode cX10_sweat 74 = .ok (.iconst 1, 1) := by decide +kernel
theorem dX10_sweat_75 : decode cX10_sweat 75 = .ok (.goto 4, 3) := by decide +kernel
theorem dX10_sweat_78 : decode cX10_sweat 78 = .ok (.iconst 0, 1) := by decide +kernel
theorem dX10_sweat_79 : decode cX10_sweat 79 = .ok (.iadd, 1) := by decide +kernel
theorem dX10_sweat_80 : decode cX10_sweat 80 = .ok (.istore_n 3, 1) := by decide +kernel
theorem dX10_sweat_81 : decode cX10_sweat 81 = .ok (.iinc 5 1, 3) := by decide +kernel
theorem dX10_sweat_84 : decode cX10_sweat 84 = .ok (.goto (-35), 3) := by decide +kernel
theorem dX10_sweat_87 : decode cX10_sweat 87 = .ok (.iinc 4 1, 3) := by decide +kernel
theorem dX10_sweat_90 : decode cX10_sweat 90 = .ok (.goto (-68), 3) := by decide +kernel
theorem dX10_sweat_93 : decode cX10_sweat 93 = .ok (.iload_n 3, 1) := by decide +kernel
theorem dX10_sweat_94 : decode cX10_sweat 94 = .ok (.ireturn, 1) := by decide +kernel
theorem dX10_nearest_0 : decode cX10_nearest 0 = .ok (.aload_n 0, 1) := by decide +kernel
theorem dX10_nearest_1 : decode cX10_nearest 1 = .ok (.iconst 0, 1) := by decide +kernel
theorem dX10_nearest_2 : decode cX10_nearest 2 = .ok (.putfield 95, 3) := by decide +kernel
theorem dX10_nearest_5 : decode cX10_nearest 5 = .ok (.aload_n 0, 1) := by decide +kernel
theorem dX10_nearest_6 : decode cX10_nearest 6 = .ok (.iload_n 1, 1) := by decide +kernel
theorem dX10_nearest_7 : decode cX10_nearest 7 = .ok (.iload_n 2, 1) := by decide +kernel
theorem dX10_nearest_8 : decode cX10_nearest 8 = .ok (.invokevirtual 410, 3) := by decide +kernel
theorem dX10_nearest_11 : decode cX10_nearest 11 = .ok (.ifCond .ne 6, 3) := by decide +kernel
theorem dX10_nearest_14 : decode cX10_nearest 14 = .ok (.bipush (-2), 2) := by decide +kernel
theorem dX10_nearest_16 : decode cX10_nearest 16 = .ok (.ireturn, 1) := by decide +kernel
theorem dX10_nearest_17 : decode cX10_nearest 17 = .ok (.iconst (-1), 1) := by decide +kernel
theorem dX10_nearest_18 : decode cX10_nearest 18 = .ok (.istore_n 3, 1) := by decide +kernel
theorem dX10_nearest_19 : decode cX10_nearest 19 = .ok (.iconst 0, 1) := by decide +kernel
theorem dX10_nearest_20 : decode cX10_nearest 20 = .ok (.istore 4, 2) := by decide +kernel
theorem dX10_nearest_22 : decode cX10_nearest 22 = .ok (.iload 4, 2) := by decide +kernel
theorem dX10_nearest_24 : decode cX10_nearest 24 = .ok (.aload_n 0, 1) := by decide +kernel
theorem dX10_nearest_25 : decode cX10_nearest 25 = .ok (.getfield 34, 3) := by decide +kernel
theorem dX10_nearest_28 : decode cX10_nearest 28 = .ok (.iconst 4, 1) := by decide +kernel
theorem dX10_nearest_29 : decode cX10_nearest 29 = .ok (.iaload, 1) := by decide +kernel
theorem dX10_nearest_30 : decode cX10_nearest 30 = .ok (.if_icmp .ge 77, 3) := by decide +kernel
theorem dX10_nearest_33 : decode cX10_nearest 33 = .ok (.aload_n 0, 1) := by decide +kernel
theorem dX10_nearest_34 : decode cX10_nearest 34 = .ok (.iconst 0, 1) := by decide +kernel
theorem dX10_nearest_35 : decode cX10_nearest 35 = .ok (.aload_n 0, 1) := by decide +kernel
theorem dX10_nearest_36 : decode cX10_nearest 36 = .ok (.getfield 43, 3) := by decide +kernel
theorem dX10_nearest_39 : decode cX10_nearest 39 = .ok (.iload 4, 2) := by decide +kernel
theorem dX10_nearest_41 : decode cX10_nearest 41 = .ok (.iaload, 1) := by decide +kernel
theorem dX10_nearest_42 : decode cX10_nearest 42 = .ok (.iconst 0, 1) := by decide +kernel
theorem dX10_nearest_43 : decode cX10_nearest 43 = .ok (.invokevirtual 317, 3) := by decide +kernel
theorem dX10_nearest_46 : decode cX10_nearest 46 = .ok (.iconst 0, 1) := by decide +kernel
theorem dX10_nearest_47 : decode cX10_nearest 47 = .ok (.istore 5, 2) := by decide +kernel
theorem dX10_nearest_49 : decode cX10_nearest 49 = .ok (.iload 5, 2) := by decide +kernel
theorem dX10_nearest_51 : decode cX10_nearest 51 = .ok (.aload_n 0, 1) := by decide +kernel
theorem dX10_nearest_52 : decode cX10_nearest 52 = .ok (.getfield 34, 3) := by decide +kernel
theorem dX10_nearest_55 : decode cX10_nearest 55 = .ok (.iconst 0, 1) := by decide +kernel
theorem dX10_nearest_56 : decode cX10_nearest 56 = .ok (.iaload, 1) := by decide +kernel
theorem dX10_nearest_57 : decode cX10_nearest 57 = .ok (.if_icmp .ge 44, 3) := by decide +kernel
theorem dX10_nearest_60 : decode cX10_nearest 60 = .ok (.aload_n 0, 1) := by decide +kernel
theorem dX10_nearest_61 : decode cX10_nearest 61 = .ok (.iconst 0, 1) := by decide +kernel
theorem dX10_nearest_62 : decode cX10_nearest 62 = .ok (.iload 5, 2) := by decide +kernel
theorem dX10_nearest_64 : decode cX10_nearest 64 = .ok (.iload_n 1, 1) := by decide +kernel
theorem dX10_nearest_65 : decode cX10_nearest 65 = .ok (.iload_n 2, 1) := by decide +kernel
theorem dX10_nearest_66 : decode cX10_nearest 66 = .ok (.invokevirtual 364, 3) := by decide +kernel
theorem dX10_nearest_69 : decode cX10_nearest 69 = .ok (.istore 6, 2) := by decide +kernel
theorem dX10_nearest_71 : decode cX10_nearest 71 = .ok (.iload 6, 2) := by decide +kernel
theorem dX10_nearest_73 : decode cX10_nearest 73 = .ok (.iconst (-1), 1) := by decide +kernel
theorem dX10_nearest_74 : decode cX10_nearest 74 = .ok (.if_icmp .eq 19, 3) := by decide +kernel
theorem dX10_nearest_77 : decode cX10_nearest 77 = .ok (.iload_n 3, 1) := by decide +kernel
theorem dX10_nearest_78 : decode cX10_nearest 78 = .ok (.iconst (-1), 1) := by decide +kernel
theorem dX10_nearest_79 : decode cX10_nearest 79 = .ok (.if_icmp .eq 9, 3) := by decide +kernel
theorem dX10_nearest_82 : decode cX10_nearest 82 = .ok (.iload 6, 2) := by decide +kernel
theorem dX10_nearest_84 : decode cX10_nearest 84 = .ok (.iload_n 3, 1) := by decide +kernel
theorem dX10_nearest_85 : decode cX10_nearest 85 = .ok (.if_icmp .ge 8, 3) := by decide +kernel
theorem dX10_nearest_88 : decode cX10_nearest 88 = .ok (.iload 6, 2) := by decide +kernel
theorem dX10_nearest_90 : decode cX10_nearest 90 = .ok (.goto 4, 3) := by decide +kernel
theorem dX10_nearest_93 : decode cX10_nearest 93 = .ok (.iload_n 3, 1) := by decide +kernel
theorem dX10_nearest_94 : decode cX10_nearest 94 = .ok (.istore_n 3, 1) := by decide +kernel
theorem dX10_nearest_95 : decode cX10_nearest 95 = .ok (.iinc 5 1, 3) := by decide +kernel
theorem dX10_nearest_98 : decode cX10_nearest 98 = .ok (.goto (-49), 3) := by decide +kernel
theorem dX10_nearest_101 : decode cX10_nearest 101 = .ok (.iinc 4 1, 3) := by decide +kernel
theorem dX10_nearest_104 : decode cX10_nearest 104 = .ok (.goto (-82), 3) := by decide +kernel
theorem dX10_nearest_107 : decode cX10_nearest 107 = .ok (.iload_n 3, 1) := by decide +kernel
theorem dX10_nearest_108 : decode cX10_nearest 108 = .ok (.ireturn, 1) := by decide +kernel
theorem dX10_laysSlow_0 : decode cX10_laysSlow 0 = .ok (.iconst 0, 1) := by decide +kernel
theorem dX10_laysSlow_1 : decode cX10_laysSlow 1 = .ok (.istore_n 3, 1) := by decide +kernel
theorem dX10_laysSlow_2 : decode cX10_laysSlow 2 = .ok (.iconst 0, 1) := by decide +kernel
theorem dX10_laysSlow_3 : decode cX10_laysSlow 3 = .ok (.istore 4, 2) := by decide +kernel
theorem dX10_laysSlow_5 : decode cX10_laysSlow 5 = .ok (.iconst 1, 1) := by decide +kernel
theorem dX10_laysSlow_6 : decode cX10_laysSlow 6 = .ok (.istore 5, 2) := by decide +kernel
theorem dX10_laysSlow_8 : decode cX10_laysSlow 8 = .ok (.iload 4, 2) := by decide +kernel
theorem dX10_laysSlow_10 : decode cX10_laysSlow 10 = .ok (.aload_n 0, 1) := by decide +kernel
theorem dX10_laysSlow_11 : decode cX10_laysSlow 11 = .ok (.invokevirtual 332, 3) := by decide +kernel
theorem dX10_laysSlow_14 : decode cX10_laysSlow 14 = .ok (.iload_n 1, 1) := by decide +kernel
theorem dX10_laysSlow_15 : decode cX10_laysSlow 15 = .ok (.imul, 1) := by decide +kernel
theorem dX10_laysSlow_16 : decode cX10_laysSlow 16 = .ok (.if_icmp .ge 69, 3) := by decide +kernel
theorem dX10_laysSlow_19 : decode cX10_laysSlow 19 = .ok (.iload 5, 2) := by decide +kernel
theorem dX10_laysSlow_21 : decode cX10_laysSlow 21 = .ok (.aload_n 0, 1) := by decide +kernel
theorem dX10_laysSlow_22 : decode cX10_laysSlow 22 = .ok (.invokevirtual 332, 3) := by decide +kernel
theorem dX10_laysSlow_25 : decode cX10_laysSlow 25 = .ok (.if_icmp .ge 8, 3) := by decide +kernel
theorem dX10_laysSlow_28 : decode cX10_laysSlow 28 = .ok (.iload 5, 2) := by decide +kernel
theorem dX10_laysSlow_30 : decode cX10_laysSlow 30 = .ok (.goto 7, 3) := by decide +kernel
theorem dX10_laysSlow_33 : decode cX10_laysSlow 33 = .ok (.aload_n 0, 1) := by decide +kernel
theorem dX10_laysSlow_34 : decode cX10_laysSlow 34 = .ok (.invokevirtual 332, 3) := by decide +kernel
theorem dX10_laysSlow_37 : decode cX10_laysSlow 37 = .ok (.iload_n 1, 1) := by decide +kernel
theorem dX10_laysSlow_38 : decode cX10_laysSlow 38 = .ok (.imul, 1) := by decide +kernel
theorem dX10_laysSlow_39 : decode cX10_laysSlow 39 = .ok (.istore 6, 2) := by decide +kernel
theorem dX10_laysSlow_41 : decode cX10_laysSlow 41 = .ok (.iload_n 3, 1) := by decide +kernel
theorem dX10_laysSlow_42 : decode cX10_laysSlow 42 = .ok (.iload_n 2, 1) := by decide +kernel
theorem dX10_laysSlow_43 : decode cX10_laysSlow 43 = .ok (.iadd, 1) := by decide +kernel
theorem dX10_laysSlow_44 : decode cX10_laysSlow 44 = .ok (.iload 6, 2) := by decide +kernel
theorem dX10_laysSlow_46 : decode cX10_laysSlow 46 = .ok (.if_icmp .ge 9, 3) := by decide +kernel
theorem dX10_laysSlow_49 : decode cX10_laysSlow 49 = .ok (.iload_n 3, 1) := by decide +kernel
theorem dX10_laysSlow_50 : decode cX10_laysSlow 50 = .ok (.iload_n 2, 1) := by decide +kernel
theorem dX10_laysSlow_51 : decode cX10_laysSlow 51 = .ok (.iadd, 1) := by decide +kernel
theorem dX10_laysSlow_52 : decode cX10_laysSlow 52 = .ok (.goto 5, 3) := by decide +kernel
theorem dX10_laysSlow_55 : decode cX10_laysSlow 55 = .ok (.iload 6, 2) := by decide +kernel
theorem dX10_laysSlow_57 : decode cX10_laysSlow 57 = .ok (.istore_n 3, 1) := by decide +kernel
theorem dX10_laysSlow_58 : decode cX10_laysSlow 58 = .ok (.iload 4, 2) := by decide +kernel
theorem dX10_laysSlow_60 : decode cX10_laysSlow 60 = .ok (.iload_n 3, 1) := by decide +kernel
theorem dX10_laysSlow_61 : decode cX10_laysSlow 61 = .ok (.if_icmp .ge 18, 3) := by decide +kernel
theorem dX10_laysSlow_64 : decode cX10_laysSlow 64 = .ok (.aload_n 0, 1) := by decide +kernel
theorem dX10_laysSlow_65 : decode cX10_laysSlow 65 = .ok (.getfield 92, 3) := by decide +kernel
theorem dX10_laysSlow_68 : decode cX10_laysSlow 68 = .ok (.iload 4, 2) := by decide +kernel
theorem dX10_laysSlow_70 : decode cX10_laysSlow 70 = .ok (.iload 5, 2) := by decide +kernel
theorem dX10_laysSlow_72 : decode cX10_laysSlow 72 = .ok (.iastore, 1) := by decide +kernel
theorem dX10_laysSlow_73 : decode cX10_laysSlow 73 = .ok (.iinc 4 1, 3) := by decide +kernel
theorem dX10_laysSlow_76 : decode cX10_laysSlow 76 = .ok (.goto (-18), 3) := by decide +kernel
theorem dX10_laysSlow_79 : decode cX10_laysSlow 79 = .ok (.iinc 5 1, 3) := by decide +kernel
theorem dX10_laysSlow_82 : decode cX10_laysSlow 82 = .ok (.goto (-74), 3) := by decide +kernel
theorem dX10_laysSlow_85 : decode cX10_laysSlow 85 = .ok (.return_, 1) := by decide +kernel
theorem dX10_slow_0 : decode cX10_slow 0 = .ok (.aload_n 0, 1) := by decide +kernel
theorem dX10_slow_1 : decode cX10_slow 1 = .ok (.iconst 0, 1) := by decide +kernel
theorem dX10_slow_2 : decode cX10_slow 2 = .ok (.putfield 95, 3) := by decide +kernel
theorem dX10_slow_5 : decode cX10_slow 5 = .ok (.aload_n 0, 1) := by decide +kernel
theorem dX10_slow_6 : decode cX10_slow 6 = .ok (.invokevirtual 324, 3) := by decide +kernel
theorem dX10_slow_9 : decode cX10_slow 9 = .ok (.ifCond .eq 53, 3) := by decide +kernel
theorem dX10_slow_12 : decode cX10_slow 12 = .ok (.iload_n 2, 1) := by decide +kernel
theorem dX10_slow_13 : decode cX10_slow 13 = .ok (.i2l, 1) := by decide +kernel
theorem dX10_slow_14 : decode cX10_slow 14 = .ok (.lconst 1, 1) := by decide +kernel
theorem dX10_slow_15 : decode cX10_slow 15 = .ok (.ldc2_w 413, 3) := by decide +kernel
theorem dX10_slow_18 : decode cX10_slow 18 = .ok (.invokestatic 100, 3) := by decide +kernel
theorem dX10_slow_21 : decode cX10_slow 21 = .ok (.ifCond .eq 41, 3) := by decide +kernel
theorem dX10_slow_24 : decode cX10_slow 24 = .ok (.iload_n 1, 1) := by decide +kernel
theorem dX10_slow_25 : decode cX10_slow 25 = .ok (.i2l, 1) := by decide +kernel
theorem dX10_slow_26 : decode cX10_slow 26 = .ok (.lconst 0, 1) := by decide +kernel
theorem dX10_slow_27 : decode cX10_slow 27 = .ok (.aload_n 0, 1) := by decide +kernel
theorem dX10_slow_28 : decode cX10_slow 28 = .ok (.getfield 34, 3) := by decide +kernel
theorem dX10_slow_31 : decode cX10_slow 31 = .ok (.iconst 4, 1) := by decide +kernel
theorem dX10_slow_32 : decode cX10_slow 32 = .ok (.iaload, 1) := by decide +kernel
theorem dX10_slow_33 : decode cX10_slow 33 = .ok (.iload_n 2, 1) := by decide +kernel
theorem dX10_slow_34 : decode cX10_slow 34 = .ok (.isub, 1) := by decide +kernel
theorem dX10_slow_35 : decode cX10_slow 35 = .ok (.i2l, 1) := by decide +kernel
theorem dX10_slow_36 : decode cX10_slow 36 = .ok (.invokestatic 100, 3) := by decide +kernel
theorem dX10_slow_39 : decode cX10_slow 39 = .ok (.ifCond .eq 23, 3) := by decide +kernel
theorem dX10_slow_42 : decode cX10_slow 42 = .ok (.iload_n 3, 1) := by decide +kernel
theorem dX10_slow_43 : decode cX10_slow 43 = .ok (.i2l, 1) := by decide +kernel
theorem dX10_slow_44 : decode cX10_slow 44 = .ok (.lconst 1, 1) := by decide +kernel
theorem dX10_slow_45 : decode cX10_slow 45 = .ok (.ldc2_w 413, 3) := by decide +kernel
theorem dX10_slow_48 : decode cX10_slow 48 = .ok (.invokestatic 100, 3) := by decide +kernel
theorem dX10_slow_51 : decode cX10_slow 51 = .ok (.ifCond .eq 11, 3) := by decide +kernel
theorem dX10_slow_54 : decode cX10_slow 54 = .ok (.iload 4, 2) := by decide +kernel
theorem dX10_slow_56 : decode cX10_slow 56 = .ok (.invokestatic 361, 3) := by decide +kernel
theorem dX10_slow_59 : decode cX10_slow 59 = .ok (.ifCond .ne 6, 3) := by decide +kernel
theorem dX10_slow_62 : decode cX10_slow 62 = .ok (.bipush (-2), 2) := by decide +kernel
theorem dX10_slow_64 : decode cX10_slow 64 = .ok (.ireturn, 1) := by decide +kernel
theorem dX10_slow_65 : decode cX10_slow 65 = .ok (.iload 4, 2) := by decide +kernel
theorem dX10_slow_67 : decode cX10_slow 67 = .ok (.iconst 1, 1) := by decide +kernel
theorem dX10_slow_68 : decode cX10_slow 68 = .ok (.if_icmp .ne 15, 3) := by decide +kernel
theorem dX10_slow_71 : decode cX10_slow 71 = .ok (.aload_n 0, 1) := by decide +kernel
theorem dX10_slow_72 : decode cX10_slow 72 = .ok (.getfield 34, 3) := by decide +kernel
theorem dX10_slow_75 : decode cX10_slow 75 = .ok (.iconst 1, 1) := by decide +kernel
theorem dX10_slow_76 : decode cX10_slow 76 = .ok (.iaload, 1) := by decide +kernel
theorem dX10_slow_77 : decode cX10_slow 77 = .ok (.iconst 2, 1) := by decide +kernel
theorem dX10_slow_78 : decode cX10_slow 78 = .ok (.if_icmp .ge 5, 3) := by decide +kernel
theorem dX10_slow_81 : decode cX10_slow 81 = .ok (.iconst (-1), 1) := by decide +kernel
theorem dX10_slow_82 : decode cX10_slow 82 = .ok (.ireturn, 1) := by decide +kernel
theorem dX10_slow_83 : decode cX10_slow 83 = .ok (.aload_n 0, 1) := by decide +kernel
theorem dX10_slow_84 : decode cX10_slow 84 = .ok (.iload_n 2, 1) := by decide +kernel
theorem dX10_slow_85 : decode cX10_slow 85 = .ok (.iload_n 3, 1) := by decide +kernel
theorem dX10_slow_86 : decode cX10_slow 86 = .ok (.invokevirtual 415, 3) := by decide +kernel
theorem dX10_slow_89 : decode cX10_slow 89 = .ok (.iconst (-1), 1) := by decide +kernel
theorem dX10_slow_90 : decode cX10_slow 90 = .ok (.istore 5, 2) := by decide +kernel
theorem dX10_slow_92 : decode cX10_slow 92 = .ok (.iconst 0, 1) := by decide +kernel
theorem dX10_slow_93 : decode cX10_slow 93 = .ok (.istore 6, 2) := by decide +kernel
theorem dX10_slow_95 : decode cX10_slow 95 = .ok (.iload 6, 2) := by decide +kernel
theorem dX10_slow_97 : decode cX10_slow 97 = .ok (.iload_n 2, 1) := by decide +kernel
theorem dX10_slow_98 : decode cX10_slow 98 = .ok (.if_icmp .ge 89, 3) := by decide +kernel
theorem dX10_slow_101 : decode cX10_slow 101 = .ok (.aload_n 0, 1) := by decide +kernel
theorem dX10_slow_102 : decode cX10_slow 102 = .ok (.iconst 0, 1) := by decide +kernel
theorem dX10_slow_103 : decode cX10_slow 103 = .ok (.aload_n 0, 1) := by decide +kernel
theorem dX10_slow_104 : decode cX10_slow 104 = .ok (.getfield 43, 3) := by decide +kernel
theorem dX10_slow_107 : decode cX10_slow 107 = .ok (.iload_n 1, 1) := by decide +kernel
theorem dX10_slow_108 : decode cX10_slow 108 = .ok (.iload 6, 2) := by decide +kernel
theorem dX10_slow_110 : decode cX10_slow 110 = .ok (.iadd, 1) := by decide +kernel
theorem dX10_slow_111 : decode cX10_slow 111 = .ok (.iaload, 1) := by decide +kernel
theorem dX10_slow_112 : decode cX10_slow 112 = .ok (.iconst 0, 1) := by decide +kernel
theorem dX10_slow_113 : decode cX10_slow 113 = .ok (.invokevirtual 317, 3) := by decide +kernel
theorem dX10_slow_116 : decode cX10_slow 116 = .ok (.iconst 0, 1) := by decide +kernel
theorem dX10_slow_117 : decode cX10_slow 117 = .ok (.istore 7, 2) := by decide +kernel
theorem dX10_slow_119 : decode cX10_slow 119 = .ok (.iload 7, 2) := by decide +kernel
theorem dX10_slow_121 : decode cX10_slow 121 = .ok (.aload_n 0, 1) := by decide +kernel
theorem dX10_slow_122 : decode cX10_slow 122 = .ok (.getfield 34, 3) := by decide +kernel
theorem dX10_slow_125 : decode cX10_slow 125 = .ok (.iconst 0, 1) := by decide +kernel
theorem dX10_slow_126 : decode cX10_slow 126 = .ok (.iaload, 1) := by decide +kernel
theorem dX10_slow_127 : decode cX10_slow 127 = .ok (.if_icmp .ge 54, 3) := by decide +kernel
theorem dX10_slow_130 : decode cX10_slow 130 = .ok (.aload_n 0, 1) := by decide +kernel
theorem dX10_slow_131 : decode cX10_slow 131 = .ok (.getfield 92, 3) := by decide +kernel
theorem dX10_slow_134 : decode cX10_slow 134 = .ok (.aload_n 0, 1) := by decide +kernel
theorem dX10_slow_135 : decode cX10_slow 135 = .ok (.iconst 0, 1) := by decide +kernel
theorem dX10_slow_136 : decode cX10_slow 136 = .ok (.iload 7, 2) := by decide +kernel
theorem dX10_slow_138 : decode cX10_slow 138 = .ok (.iload 4, 2) := by decide +kernel
theorem dX10_slow_140 : decode cX10_slow 140 = .ok (.invokevirtual 367, 3) := by decide +kernel
theorem dX10_slow_143 : decode cX10_slow 143 = .ok (.iconst 1, 1) := by decide +kernel
theorem dX10_slow_144 : decode cX10_slow 144 = .ok (.isub, 1) := by decide +kernel
theorem dX10_slow_145 : decode cX10_slow 145 = .ok (.iload_n 2, 1) := by decide +kernel
theorem dX10_slow_146 : decode cX10_slow 146 = .ok (.imul, 1) := by decide +kernel
theorem dX10_slow_147 : decode cX10_slow 147 = .ok (.iload 6, 2) := by decide +kernel
theorem dX10_slow_149 : decode cX10_slow 149 = .ok (.iadd, 1) := by decide +kernel
theorem dX10_slow_150 : decode cX10_slow 150 = .ok (.iaload, 1) := by decide +kernel
theorem dX10_slow_151 : decode cX10_slow 151 = .ok (.istore 8, 2) := by decide +kernel
theorem dX10_slow_153 : decode cX10_slow 153 = .ok (.iload 5, 2) := by decide +kernel
theorem dX10_slow_155 : decode cX10_slow 155 = .ok (.iconst (-1), 1) := by decide +kernel
theorem dX10_slow_156 : decode cX10_slow 156 = .ok (.if_icmp .eq 10, 3) := by decide +kernel
theorem dX10_slow_159 : decode cX10_slow 159 = .ok (.iload 8, 2) := by decide +kernel
theorem dX10_slow_161 : decode cX10_slow 161 = .ok (.iload 5, 2) := by decide +kernel
theorem dX10_slow_163 : decode cX10_slow 163 = .ok (.if_icmp .ge 8, 3) := by decide +kernel
theorem dX10_slow_166 : decode cX10_slow 166 = .ok (.iload 8, 2) := by decide +kernel
theorem dX10_slow_168 : decode cX10_slow 168 = .ok (.goto 5, 3) := by decide +kernel
theorem dX10_slow_171 : decode cX10_slow 171 = .ok (.iload 5, 2) := by decide +kernel
theorem dX10_slow_173 : decode cX10_slow 173 = .ok (.istore 5, 2) := by decide +kernel
theorem dX10_slow_175 : decode cX10_slow 175 = .ok (.iinc 7 1, 3) := by decide +kernel
theorem dX10_slow_178 : decode cX10_slow 178 = .ok (.goto (-59), 3) := by decide +kernel
theorem dX10_slow_181 : decode cX10_slow 181 = .ok (.iinc 6 1, 3) := by decide +kernel
theorem dX10_slow_184 : decode cX10_slow 184 = .ok (.goto (-89), 3) := by decide +kernel
theorem dX10_slow_187 : decode cX10_slow 187 = .ok (.iload 5, 2) := by decide +kernel
theorem dX10_slow_189 : decode cX10_slow 189 = .ok (.ireturn, 1) := by decide +kernel
theorem dX10_whenOf_0 : decode cX10_whenOf 0 = .ok (.iconst (-1), 1) := by decide +kernel
theorem dX10_whenOf_1 : decode cX10_whenOf 1 = .ok (.istore_n 2, 1) := by decide +kernel
theorem dX10_whenOf_2 : decode cX10_whenOf 2 = .ok (.iconst 0, 1) := by decide +kernel
theorem dX10_whenOf_3 : decode cX10_whenOf 3 = .ok (.istore_n 3, 1) := by decide +kernel
theorem dX10_whenOf_4 : decode cX10_whenOf 4 = .ok (.iload_n 3, 1) := by decide +kernel
theorem dX10_whenOf_5 : decode cX10_whenOf 5 = .ok (.aload_n 0, 1) := by decide +kernel
theorem dX10_whenOf_6 : decode cX10_whenOf 6 = .ok (.getfield 34, 3) := by decide +kernel
theorem dX10_whenOf_9 : decode cX10_whenOf 9 = .ok (.iconst 0, 1) := by decide +kernel
theorem dX10_whenOf_10 : decode cX10_whenOf 10 = .ok (.iaload, 1) := by decide +kernel
theorem dX10_whenOf_11 : decode cX10_whenOf 11 = .ok (.if_icmp .ge 45, 3) := by decide +kernel
theorem dX10_whenOf_14 : decode cX10_whenOf 14 = .ok (.aload_n 0, 1) := by decide +kernel
theorem dX10_whenOf_15 : decode cX10_whenOf 15 = .ok (.getfield 83, 3) := by decide +kernel
theorem dX10_whenOf_18 : decode cX10_whenOf 18 = .ok (.iconst 3, 1) := by decide +kernel
theorem dX10_whenOf_19 : decode cX10_whenOf 19 = .ok (.iload_n 1, 1) := by decide +kernel
theorem dX10_whenOf_20 : decode cX10_whenOf 20 = .ok (.imul, 1) := by decide +kernel
theorem dX10_whenOf_21 : decode cX10_whenOf 21 = .ok (.iload_n 3, 1) := by decide +kernel
theorem dX10_whenOf_22 : decode cX10_whenOf 22 = .ok (.iadd, 1) := by decide +kernel
theorem dX10_whenOf_23 : decode cX10_whenOf 23 = .ok (.iaload, 1) := by decide +kernel
theorem dX10_whenOf_24 : decode cX10_whenOf 24 = .ok (.istore 4, 2) := by decide +kernel
theorem dX10_whenOf_26 : decode cX10_whenOf 26 = .ok (.iload 4, 2) := by decide +kernel
theorem dX10_whenOf_28 : decode cX10_whenOf 28 = .ok (.iconst (-1), 1) := by decide +kernel
theorem dX10_whenOf_29 : decode cX10_whenOf 29 = .ok (.if_icmp .eq 19, 3) := by decide +kernel
theorem dX10_whenOf_32 : decode cX10_whenOf 32 = .ok (.iload_n 2, 1) := by decide +kernel
theorem dX10_whenOf_33 : decode cX10_whenOf 33 = .ok (.iconst (-1), 1) := by decide +kernel
theorem dX10_whenOf_34 : decode cX10_whenOf 34 = .ok (.if_icmp .eq 9, 3) := by decide +kernel
theorem dX10_whenOf_37 : decode cX10_whenOf 37 = .ok (.iload 4, 2) := by decide +kernel
theorem dX10_whenOf_39 : decode cX10_whenOf 39 = .ok (.iload_n 2, 1) := by decide +kernel
theorem dX10_whenOf_40 : decode cX10_whenOf 40 = .ok (.if_icmp .ge 8, 3) := by decide +kernel
theorem dX10_whenOf_43 : decode cX10_whenOf 43 = .ok (.iload 4, 2) := by decide +kernel
theorem dX10_whenOf_45 : decode cX10_whenOf 45 = .ok (.goto 4, 3) := by decide +kernel
theorem dX10_whenOf_48 : decode cX10_whenOf 48 = .ok (.iload_n 2, 1) := by decide +kernel
theorem dX10_whenOf_49 : decode cX10_whenOf 49 = .ok (.istore_n 2, 1) := by decide +kernel
theorem dX10_whenOf_50 : decode cX10_whenOf 50 = .ok (.iinc 3 1, 3) := by decide +kernel
theorem dX10_whenOf_53 : decode cX10_whenOf 53 = .ok (.goto (-49), 3) := by decide +kernel
theorem dX10_whenOf_56 : decode cX10_whenOf 56 = .ok (.iload_n 2, 1) := by decide +kernel
theorem dX10_whenOf_57 : decode cX10_whenOf 57 = .ok (.ireturn, 1) := by decide +kernel
theorem dX10_race_0 : decode cX10_race 0 = .ok (.aload_n 0, 1) := by decide +kernel
theorem dX10_race_1 : decode cX10_race 1 = .ok (.iconst 0, 1) := by decide +kernel
theorem dX10_race_2 : decode cX10_race 2 = .ok (.putfield 95, 3) := by decide +kernel
theorem dX10_race_5 : decode cX10_race 5 = .ok (.aload_n 0, 1) := by decide +kernel
theorem dX10_race_6 : decode cX10_race 6 = .ok (.invokevirtual 324, 3) := by decide +kernel
theorem dX10_race_9 : decode cX10_race 9 = .ok (.ifCond .eq 10, 3) := by decide +kernel
theorem dX10_race_12 : decode cX10_race 12 = .ok (.iload_n 1, 1) := by decide +kernel
theorem dX10_race_13 : decode cX10_race 13 = .ok (.invokestatic 361, 3) := by decide +kernel
theorem dX10_race_16 : decode cX10_race 16 = .ok (.ifCond .ne 6, 3) := by decide +kernel
theorem dX10_race_19 : decode cX10_race 19 = .ok (.bipush (-2), 2) := by decide +kernel
theorem dX10_race_21 : decode cX10_race 21 = .ok (.ireturn, 1) := by decide +kernel
theorem dX10_race_22 : decode cX10_race 22 = .ok (.aload_n 0, 1) := by decide +kernel
theorem dX10_race_23 : decode cX10_race 23 = .ok (.iconst 0, 1) := by decide +kernel
theorem dX10_race_24 : decode cX10_race 24 = .ok (.iload_n 1, 1) := by decide +kernel
theorem dX10_race_25 : decode cX10_race 25 = .ok (.invokevirtual 377, 3) := by decide +kernel
theorem dX10_race_28 : decode cX10_race 28 = .ok (.iconst 0, 1) := by decide +kernel
theorem dX10_race_29 : decode cX10_race 29 = .ok (.istore_n 3, 1) := by decide +kernel
theorem dX10_race_30 : decode cX10_race 30 = .ok (.iload_n 3, 1) := by decide +kernel
theorem dX10_race_31 : decode cX10_race 31 = .ok (.aload_n 0, 1) := by decide +kernel
theorem dX10_race_32 : decode cX10_race 32 = .ok (.getfield 34, 3) := by decide +kernel
theorem dX10_race_35 : decode cX10_race 35 = .ok (.iconst 4, 1) := by decide +kernel
theorem dX10_race_36 : decode cX10_race 36 = .ok (.iaload, 1) := by decide +kernel
theorem dX10_race_37 : decode cX10_race 37 = .ok (.if_icmp .ge 93, 3) := by decide +kernel
theorem dX10_race_40 : decode cX10_race 40 = .ok (.iconst 0, 1) := by decide +kernel
theorem dX10_race_41 : decode cX10_race 41 = .ok (.istore 4, 2) := by decide +kernel
theorem dX10_race_43 : decode cX10_race 43 = .ok (.iconst 0, 1) := by decide +kernel
theorem dX10_race_44 : decode cX10_race 44 = .ok (.istore 5, 2) := by decide +kernel
theorem dX10_race_46 : decode cX10_race 46 = .ok (.iload 5, 2) := by decide +kernel
theorem dX10_race_48 : decode cX10_race 48 = .ok (.aload_n 0, 1) := by decide +kernel
theorem dX10_race_49 : decode cX10_race 49 = .ok (.getfield 34, 3) := by decide +kernel
theorem dX10_race_52 : decode cX10_race 52 = .ok (.iconst 4, 1) := by decide +kernel
theorem dX10_race_53 : decode cX10_race 53 = .ok (.iaload, 1) := by decide +kernel
theorem dX10_race_54 : decode cX10_race 54 = .ok (.if_icmp .ge 53, 3) := by decide +kernel
theorem dX10_race_57 : decode cX10_race 57 = .ok (.iload 4, 2) := by decide +kernel
theorem dX10_race_59 : decode cX10_race 59 = .ok (.aload_n 0, 1) := by decide +kernel
theorem dX10_race_60 : decode cX10_race 60 = .ok (.iload 5, 2) := by decide +kernel
theorem dX10_race_62 : decode cX10_race 62 = .ok (.invokevirtual 418, 3) := by decide +kernel
theorem dX10_race_65 : decode cX10_race 65 = .ok (.aload_n 0, 1) := by decide +kernel
theorem dX10_race_66 : decode cX10_race 66 = .ok (.iload_n 3, 1) := by decide +kernel
theorem dX10_race_67 : decode cX10_race 67 = .ok (.invokevirtual 418, 3) := by decide +kernel
theorem dX10_race_70 : decode cX10_race 70 = .ok (.if_icmp .lt 23, 3) := by decide +kernel
theorem dX10_race_73 : decode cX10_race 73 = .ok (.aload_n 0, 1) := by decide +kernel
theorem dX10_race_74 : decode cX10_race 74 = .ok (.iload 5, 2) := by decide +kernel
theorem dX10_race_76 : decode cX10_race 76 = .ok (.invokevirtual 418, 3) := by decide +kernel
theorem dX10_race_79 : decode cX10_race 79 = .ok (.aload_n 0, 1) := by decide +kernel
theorem dX10_race_80 : decode cX10_race 80 = .ok (.iload_n 3, 1) := by decide +kernel
theorem dX10_race_81 : decode cX10_race 81 = .ok (.invokevirtual 418, 3) := by decide +kernel
theorem dX10_race_84 : decode cX10_race 84 = .ok (.if_icmp .ne 13, 3) := by decide +kernel
theorem dX10_race_87 : decode cX10_race 87 = .ok (.iload 5, 2) := by decide +kernel
theorem dX10_race_89 : decode cX10_race 89 = .ok (.iload_n 3, 1) := by decide +kernel
theorem dX10_race_90 : decode cX10_race 90 = .ok (.if_icmp .ge 7, 3) := by decide +kernel
theorem dX10_race_93 : decode cX10_race 93 = .ok (.iconst 1, 1) := by decide +kernel
theorem dX10_race_94 : decode cX10_race 94 = .ok (.goto 4, 3) := by decide +kernel
theorem dX10_race_97 : decode cX10_race 97 = .ok (.iconst 0, 1) := by decide +kernel
theorem dX10_race_98 : decode cX10_race 98 = .ok (.iadd, 1) := by decide +kernel
theorem dX10_race_99 : decode cX10_race 99 = .ok (.istore 4, 2) := by decide +kernel
theorem dX10_race_101 : decode cX10_race 101 = .ok (.iinc 5 1, 3) := by decide +kernel
theorem dX10_race_104 : decode cX10_race 104 = .ok (.goto (-58), 3) := by decide +kernel
theorem dX10_race_107 : decode cX10_race 107 = .ok (.iload 4, 2) := by decide +kernel
theorem dX10_race_109 : decode cX10_race 109 = .ok (.iload_n 2, 1) := by decide +kernel
theorem dX10_race_110 : decode cX10_race 110 = .ok (.if_icmp .ne 14, 3) := by decide +kernel
theorem dX10_race_113 : decode cX10_race 113 = .ok (.aload_n 0, 1) := by decide +kernel
theorem dX10_race_114 : decode cX10_race 114 = .ok (.iload_n 3, 1) := by decide +kernel
theorem dX10_race_115 : decode cX10_race 115 = .ok (.invokevirtual 418, 3) := by decide +kernel
theorem dX10_race_118 : decode cX10_race 118 = .ok (.iconst (-1), 1) := by decide +kernel
theorem dX10_race_119 : decode cX10_race 119 = .ok (.if_icmp .eq 5, 3) := by decide +kernel
theorem dX10_race_122 : decode cX10_race 122 = .ok (.iload_n 3, 1) := by decide +kernel
theorem dX10_race_123 : decode cX10_race 123 = .ok (.ireturn, 1) := by decide +kernel
theorem dX10_race_124 : decode cX10_race 124 = .ok (.iinc 3 1, 3) := by decide +kernel
theorem dX10_race_127 : decode cX10_race 127 = .ok (.goto (-97), 3) := by decide +kernel
theorem dX10_race_130 : decode cX10_race 130 = .ok (.iconst (-1), 1) := by decide +kernel
theorem dX10_race_131 : decode cX10_race 131 = .ok (.ireturn, 1) := by decide +kernel
theorem dX10_winsInAll_0 : decode cX10_winsInAll 0 = .ok (.iconst 0, 1) := by decide +kernel
theorem dX10_winsInAll_1 : decode cX10_winsInAll 1 = .ok (.istore_n 1, 1) := by decide +kernel
theorem dX10_winsInAll_2 : decode cX10_winsInAll 2 = .ok (.iconst 0, 1) := by decide +kernel
theorem dX10_winsInAll_3 : decode cX10_winsInAll 3 = .ok (.istore_n 2, 1) := by decide +kernel
theorem dX10_winsInAll_4 : decode cX10_winsInAll 4 = .ok (.iload_n 2, 1) := by decide +kernel
theorem dX10_winsInAll_5 : decode cX10_winsInAll 5 = .ok (.iconst 3, 1) := by decide +kernel
theorem dX10_winsInAll_6 : decode cX10_winsInAll 6 = .ok (.if_icmp .ge 47, 3) := by decide +kernel
theorem dX10_winsInAll_9 : decode cX10_winsInAll 9 = .ok (.aload_n 0, 1) := by decide +kernel
theorem dX10_winsInAll_10 : decode cX10_winsInAll 10 = .ok (.iconst 0, 1) := by decide +kernel
theorem dX10_winsInAll_11 : decode cX10_winsInAll 11 = .ok (.iload_n 2, 1) := by decide +kernel
theorem dX10_winsInAll_12 : decode cX10_winsInAll 12 = .ok (.invokevirtual 377, 3) := by decide +kernel
theorem dX10_winsInAll_15 : decode cX10_winsInAll 15 = .ok (.iload_n 1, 1) := by decide +kernel
theorem dX10_winsInAll_16 : decode cX10_winsInAll 16 = .ok (.aload_n 0, 1) := by decide +kernel
theorem dX10_winsInAll_17 : decode cX10_winsInAll 17 = .ok (.getfield 374, 3) := by decide +kernel
theorem dX10_winsInAll_20 : decode cX10_winsInAll 20 = .ok (.aload_n 0, 1) := by decide +kernel
theorem dX10_winsInAll_21 : decode cX10_winsInAll 21 = .ok (.aload_n 0, 1) := by decide +kernel
theorem dX10_winsInAll_22 : decode cX10_winsInAll 22 = .ok (.getfield 40, 3) := by decide +kernel
theorem dX10_winsInAll_25 : decode cX10_winsInAll 25 = .ok (.iload_n 2, 1) := by decide +kernel
theorem dX10_winsInAll_26 : decode cX10_winsInAll 26 = .ok (.iaload, 1) := by decide +kernel
theorem dX10_winsInAll_27 : decode cX10_winsInAll 27 = .ok (.invokevirtual 383, 3) := by decide +kernel
theorem dX10_winsInAll_30 : decode cX10_winsInAll 30 = .ok (.iload_n 2, 1) := by decide +kernel
theorem dX10_winsInAll_31 : decode cX10_winsInAll 31 = .ok (.iconst 2, 1) := by decide +kernel
theorem dX10_winsInAll_32 : decode cX10_winsInAll 32 = .ok (.if_icmp .ne 10, 3) := by decide +kernel
theorem dX10_winsInAll_35 : decode cX10_winsInAll 35 = .ok (.aload_n 0, 1) := by decide +kernel
theorem dX10_winsInAll_36 : decode cX10_winsInAll 36 = .ok (.invokevirtual 386, 3) := by decide +kernel
theorem dX10_winsInAll_39 : decode cX10_winsInAll 39 = .ok (.goto 4, 3) := by decide +kernel
theorem dX10_winsInAll_42 : decode cX10_winsInAll 42 = .ok (.iconst 0, 1) := by decide +kernel
theorem dX10_winsInAll_43 : decode cX10_winsInAll 43 = .ok (.iadd, 1) := by decide +kernel
theorem dX10_winsInAll_44 : decode cX10_winsInAll 44 = .ok (.imul, 1) := by decide +kernel
theorem dX10_winsInAll_45 : decode cX10_winsInAll 45 = .ok (.iadd, 1) := by decide +kernel
theorem dX10_winsInAll_46 : decode cX10_winsInAll 46 = .ok (.istore_n 1, 1) := by decide +kernel
theorem dX10_winsInAll_47 : decode cX10_winsInAll 47 = .ok (.iinc 2 1, 3) := by decide +kernel
theorem dX10_winsInAll_50 : decode cX10_winsInAll 50 = .ok (.goto (-46), 3) := by decide +kernel
theorem dX10_winsInAll_53 : decode cX10_winsInAll 53 = .ok (.iload_n 1, 1) := by decide +kernel
theorem dX10_winsInAll_54 : decode cX10_winsInAll 54 = .ok (.ireturn, 1) := by decide +kernel
theorem dX10_share_0 : decode cX10_share 0 = .ok (.aload_n 0, 1) := by decide +kernel
theorem dX10_share_1 : decode cX10_share 1 = .ok (.iconst 0, 1) := by decide +kernel
theorem dX10_share_2 : decode cX10_share 2 = .ok (.putfield 95, 3) := by decide +kernel
theorem dX10_share_5 : decode cX10_share 5 = .ok (.aload_n 0, 1) := by decide +kernel
theorem dX10_share_6 : decode cX10_share 6 = .ok (.iload_n 1, 1) := by decide +kernel
theorem dX10_share_7 : decode cX10_share 7 = .ok (.invokevirtual 339, 3) := by decide +kernel
theorem dX10_share_10 : decode cX10_share 10 = .ok (.istore_n 3, 1) := by decide +kernel
theorem dX10_share_11 : decode cX10_share 11 = .ok (.iload_n 3, 1) := by decide +kernel
theorem dX10_share_12 : decode cX10_share 12 = .ok (.ifCond .eq 5, 3) := by decide +kernel
theorem dX10_share_15 : decode cX10_share 15 = .ok (.iload_n 3, 1) := by decide +kernel
theorem dX10_share_16 : decode cX10_share 16 = .ok (.ireturn, 1) := by decide +kernel
theorem dX10_share_17 : decode cX10_share 17 = .ok (.aload_n 0, 1) := by decide +kernel
theorem dX10_share_18 : decode cX10_share 18 = .ok (.getfield 13, 3) := by decide +kernel
theorem dX10_share_21 : decode cX10_share 21 = .ok (.iload_n 1, 1) := by decide +kernel
theorem dX10_share_22 : decode cX10_share 22 = .ok (.iaload, 1) := by decide +kernel
theorem dX10_share_23 : decode cX10_share 23 = .ok (.i2l, 1) := by decide +kernel
theorem dX10_share_24 : decode cX10_share 24 = .ok (.lconst 1, 1) := by decide +kernel
theorem dX10_share_25 : decode cX10_share 25 = .ok (.ldc2_w 413, 3) := by decide +kernel
theorem dX10_share_28 : decode cX10_share 28 = .ok (.invokestatic 100, 3) := by decide +kernel
theorem dX10_share_31 : decode cX10_share 31 = .ok (.ifCond .ne 6, 3) := by decide +kernel
theorem dX10_share_34 : decode cX10_share 34 = .ok (.bipush (-2), 2) := by decide +kernel
theorem dX10_share_36 : decode cX10_share 36 = .ok (.ireturn, 1) := by decide +kernel
theorem dX10_share_37 : decode cX10_share 37 = .ok (.lconst 0, 1) := by decide +kernel
theorem dX10_share_38 : decode cX10_share 38 = .ok (.lstore 4, 2) := by decide +kernel
theorem dX10_share_40 : decode cX10_share 40 = .ok (.iconst 0, 1) := by decide +kernel
theorem dX10_share_41 : decode cX10_share 41 = .ok (.istore 6, 2) := by decide +kernel
theorem dX10_share_43 : decode cX10_share 43 = .ok (.iload 6, 2) := by decide +kernel
theorem dX10_share_45 : decode cX10_share 45 = .ok (.aload_n 0, 1) := by decide +kernel
theorem dX10_share_46 : decode cX10_share 46 = .ok (.getfield 13, 3) := by decide +kernel
theorem dX10_share_49 : decode cX10_share 49 = .ok (.iload_n 1, 1) := by decide +kernel
theorem dX10_share_50 : decode cX10_share 50 = .ok (.iaload, 1) := by decide +kernel
theorem dX10_share_51 : decode cX10_share 51 = .ok (.if_icmp .ge 51, 3) := by decide +kernel
theorem dX10_share_54 : decode cX10_share 54 = .ok (.aload_n 0, 1) := by decide +kernel
theorem dX10_share_55 : decode cX10_share 55 = .ok (.getfield 16, 3) := by decide +kernel
theorem dX10_share_58 : decode cX10_share 58 = .ok (.bipush 60, 2) := by decide +kernel
theorem dX10_share_60 : decode cX10_share 60 = .ok (.iload_n 1, 1) := by decide +kernel
theorem dX10_share_61 : decode cX10_share 61 = .ok (.imul, 1) := by decide +kernel
theorem dX10_share_62 : decode cX10_share 62 = .ok (.iload 6, 2) := by decide +kernel
theorem dX10_share_64 : decode cX10_share 64 = .ok (.iadd, 1) := by decide +kernel
theorem dX10_share_65 : decode cX10_share 65 = .ok (.laload, 1) := by decide +kernel
theorem dX10_share_66 : decode cX10_share 66 = .ok (.lconst 1, 1) := by decide +kernel
theorem dX10_share_67 : decode cX10_share 67 = .ok (.ldc2_w 327, 3) := by decide +kernel
theorem dX10_share_70 : decode cX10_share 70 = .ok (.invokestatic 100, 3) := by decide +kernel
theorem dX10_share_73 : decode cX10_share 73 = .ok (.ifCond .ne 6, 3) := by decide +kernel
theorem dX10_share_76 : decode cX10_share 76 = .ok (.bipush (-2), 2) := by decide +kernel
theorem dX10_share_78 : decode cX10_share 78 = .ok (.ireturn, 1) := by decide +kernel
theorem dX10_share_79 : decode cX10_share 79 = .ok (.lload 4, 2) := by decide +kernel
theorem dX10_share_81 : decode cX10_share 81 = .ok (.aload_n 0, 1) := by decide +kernel
theorem dX10_share_82 : decode cX10_share 82 = .ok (.getfield 16, 3) := by decide +kernel
theorem dX10_share_85 : decode cX10_share 85 = .ok (.bipush 60, 2) := by decide +kernel
theorem dX10_share_87 : decode cX10_share 87 = .ok (.iload_n 1, 1) := by decide +kernel
theorem dX10_share_88 : decode cX10_share 88 = .ok (.imul, 1) := by decide +kernel
theorem dX10_share_89 : decode cX10_share 89 = .ok (.iload 6, 2) := by decide +kernel
theorem dX10_share_91 : decode cX10_share 91 = .ok (.iadd, 1) := by decide +kernel
theorem dX10_share_92 : decode cX10_share 92 = .ok (.laload, 1) := by decide +kernel
theorem dX10_share_93 : decode cX10_share 93 = .ok (.ladd, 1) := by decide +kernel
theorem dX10_share_94 : decode cX10_share 94 = .ok (.lstore 4, 2) := by decide +kernel
theorem dX10_share_96 : decode cX10_share 96 = .ok (.iinc 6 1, 3) := by decide +kernel
theorem dX10_share_99 : decode cX10_share 99 = .ok (.goto (-56), 3) := by decide +kernel
theorem dX10_share_102 : decode cX10_share 102 = .ok (.iload_n 2, 1) := by decide +kernel
theorem dX10_share_103 : decode cX10_share 103 = .ok (.i2l, 1) := by decide +kernel
theorem dX10_share_104 : decode cX10_share 104 = .ok (.lconst 0, 1) := by decide +kernel
theorem dX10_share_105 : decode cX10_share 105 = .ok (.aload_n 0, 1) := by decide +kernel
theorem dX10_share_106 : decode cX10_share 106 = .ok (.getfield 13, 3) := by decide +kernel
theorem dX10_share_109 : decode cX10_share 109 = .ok (.iload_n 1, 1) := by decide +kernel
theorem dX10_share_110 : decode cX10_share 110 = .ok (.iaload, 1) := by decide +kernel
theorem dX10_share_111 : decode cX10_share 111 = .ok (.iconst 1, 1) := by decide +kernel
theorem dX10_share_112 : decode cX10_share 112 = .ok (.isub, 1) := by decide +kernel
theorem dX10_share_113 : decode cX10_share 113 = .ok (.i2l, 1) := by decide +kernel
theorem dX10_share_114 : decode cX10_share 114 = .ok (.invokestatic 100, 3) := by decide +kernel
theorem dX10_share_117 : decode cX10_share 117 = .ok (.ifCond .ne 5, 3) := by decide +kernel
theorem dX10_share_120 : decode cX10_share 120 = .ok (.iconst (-1), 1) := by decide +kernel
theorem dX10_share_121 : decode cX10_share 121 = .ok (.ireturn, 1) := by decide +kernel
theorem dX10_share_122 : decode cX10_share 122 = .ok (.aload_n 0, 1) := by decide +kernel
theorem dX10_share_123 : decode cX10_share 123 = .ok (.invokevirtual 421, 3) := by decide +kernel
theorem dX10_share_126 : decode cX10_share 126 = .ok (.istore 6, 2) := by decide +kernel
theorem dX10_share_128 : decode cX10_share 128 = .ok (.iconst 0, 1) := by decide +kernel
theorem dX10_share_129 : decode cX10_share 129 = .ok (.istore 7, 2) := by decide +kernel
theorem dX10_share_131 : decode cX10_share 131 = .ok (.iconst 0, 1) := by decide +kernel
theorem dX10_share_132 : decode cX10_share 132 = .ok (.istore 8, 2) := by decide +kernel
theorem dX10_share_134 : decode cX10_share 134 = .ok (.iload 8, 2) := by decide +kernel
theorem dX10_share_136 : decode cX10_share 136 = .ok (.aload_n 0, 1) := by decide +kernel
theorem dX10_share_137 : decode cX10_share 137 = .ok (.getfield 13, 3) := by decide +kernel
theorem dX10_share_140 : decode cX10_share 140 = .ok (.iload_n 1, 1) := by decide +kernel
theorem dX10_share_141 : decode cX10_share 141 = .ok (.iaload, 1) := by decide +kernel
theorem dX10_share_142 : decode cX10_share 142 = .ok (.if_icmp .ge 60, 3) := by decide +kernel
theorem dX10_share_145 : decode cX10_share 145 = .ok (.iload 6, 2) := by decide +kernel
theorem dX10_share_147 : decode cX10_share 147 = .ok (.i2l, 1) := by decide +kernel
theorem dX10_share_148 : decode cX10_share 148 = .ok (.aload_n 0, 1) := by decide +kernel
theorem dX10_share_149 : decode cX10_share 149 = .ok (.getfield 16, 3) := by decide +kernel
theorem dX10_share_152 : decode cX10_share 152 = .ok (.bipush 60, 2) := by decide +kernel
theorem dX10_share_154 : decode cX10_share 154 = .ok (.iload_n 1, 1) := by decide +kernel
theorem dX10_share_155 : decode cX10_share 155 = .ok (.imul, 1) := by decide +kernel
theorem dX10_share_156 : decode cX10_share 156 = .ok (.iload 8, 2) := by decide +kernel
theorem dX10_share_158 : decode cX10_share 158 = .ok (.iadd, 1) := by decide +kernel
theorem dX10_share_159 : decode cX10_share 159 = .ok (.laload, 1) := by decide +kernel
theorem dX10_share_160 : decode cX10_share 160 = .ok (.lmul, 1) := by decide +kernel
theorem dX10_share_161 : decode cX10_share 161 = .ok (.lload 4, 2) := by decide +kernel
theorem dX10_share_163 : decode cX10_share 163 = .ok (.ldiv, 1) := by decide +kernel
theorem dX10_share_164 : decode cX10_share 164 = .ok (.l2i, 1) := by decide +kernel
theorem dX10_share_165 : decode cX10_share 165 = .ok (.istore 9, 2) := by decide +kernel
theorem dX10_share_167 : decode cX10_share 167 = .ok (.iload 8, 2) := by decide +kernel
theorem dX10_share_169 : decode cX10_share 169 = .ok (.iload_n 2, 1) := by decide +kernel
theorem dX10_share_170 : decode cX10_share 170 = .ok (.if_icmp .ne 10, 3) := by decide +kernel
theorem dX10_share_173 : decode cX10_share 173 = .ok (.iload_n 2, 1) := by decide +kernel
theorem dX10_share_174 : decode cX10_share 174 = .ok (.ifCond .le 6, 3) := by decide +kernel
theorem dX10_share_177 : decode cX10_share 177 = .ok (.iload 9, 2) := by decide +kernel
theorem dX10_share_179 : decode cX10_share 179 = .ok (.ireturn, 1) := by decide +kernel
theorem dX10_share_180 : decode cX10_share 180 = .ok (.iload 7, 2) := by decide +kernel
theorem dX10_share_182 : decode cX10_share 182 = .ok (.iload 8, 2) := by decide +kernel
theorem dX10_share_184 : decode cX10_share 184 = .ok (.ifCond .le 8, 3) := by decide +kernel
theorem dX10_share_187 : decode cX10_share 187 = .ok (.iload 9, 2) := by decide +kernel
theorem dX10_share_189 : decode cX10_share 189 = .ok (.goto 4, 3) := by decide +kernel
theorem dX10_share_192 : decode cX10_share 192 = .ok (.iconst 0, 1) := by decide +kernel
theorem dX10_share_193 : decode cX10_share 193 = .ok (.iadd, 1) := by decide +kernel
theorem dX10_share_194 : decode cX10_share 194 = .ok (.istore 7, 2) := by decide +kernel
theorem dX10_share_196 : decode cX10_share 196 = .ok (.iinc 8 1, 3) := by decide +kernel
theorem dX10_share_199 : decode cX10_share 199 = .ok (.goto (-65), 3) := by decide +kernel
theorem dX10_share_202 : decode cX10_share 202 = .ok (.iload 6, 2) := by decide +kernel
theorem dX10_share_204 : decode cX10_share 204 = .ok (.iload 7, 2) := by decide +kernel
theorem dX10_share_206 : decode cX10_share 206 = .ok (.isub, 1) := by decide +kernel
theorem dX10_share_207 : decode cX10_share 207 = .ok (.ireturn, 1) := by decide +kernel
theorem dX10_choose_0 : decode cX10_choose 0 = .ok (.iload_n 1, 1) := by decide +kernel
theorem dX10_choose_1 : decode cX10_choose 1 = .ok (.ifCond .lt 8, 3) := by decide +kernel
theorem dX10_choose_4 : decode cX10_choose 4 = .ok (.iload_n 1, 1) := by decide +kernel
theorem dX10_choose_5 : decode cX10_choose 5 = .ok (.iload_n 0, 1) := by decide +kernel
theorem dX10_choose_6 : decode cX10_choose 6 = .ok (.if_icmp .le 5, 3) := by decide +kernel
theorem dX10_choose_9 : decode cX10_choose 9 = .ok (.lconst 0, 1) := by decide +kernel
theorem dX10_choose_10 : decode cX10_choose 10 = .ok (.lreturn, 1) := by decide +kernel
theorem dX10_choose_11 : decode cX10_choose 11 = .ok (.lconst 1, 1) := by decide +kernel
theorem dX10_choose_12 : decode cX10_choose 12 = .ok (.lstore_n 2, 1) := by decide +kernel
theorem dX10_choose_13 : decode cX10_choose 13 = .ok (.iconst 0, 1) := by decide +kernel
theorem dX10_choose_14 : decode cX10_choose 14 = .ok (.istore 4, 2) := by decide +kernel
theorem dX10_choose_16 : decode cX10_choose 16 = .ok (.iload 4, 2) := by decide +kernel
theorem dX10_choose_18 : decode cX10_choose 18 = .ok (.iload_n 1, 1) := by decide +kernel
theorem dX10_choose_19 : decode cX10_choose 19 = .ok (.if_icmp .ge 23, 3) := by decide +kernel
theorem dX10_choose_22 : decode cX10_choose 22 = .ok (.lload_n 2, 1) := by decide +kernel
theorem dX10_choose_23 : decode cX10_choose 23 = .ok (.iload_n 0, 1) := by decide +kernel
theorem dX10_choose_24 : decode cX10_choose 24 = .ok (.iload 4, 2) := by decide +kernel
theorem dX10_choose_26 : decode cX10_choose 26 = .ok (.isub, 1) := by decide +kernel
theorem dX10_choose_27 : decode cX10_choose 27 = .ok (.i2l, 1) := by decide +kernel
theorem dX10_choose_28 : decode cX10_choose 28 = .ok (.lmul, 1) := by decide +kernel
theorem dX10_choose_29 : decode cX10_choose 29 = .ok (.iload 4, 2) := by decide +kernel
theorem dX10_choose_31 : decode cX10_choose 31 = .ok (.iconst 1, 1) := by decide +kernel
theorem dX10_choose_32 : decode cX10_choose 32 = .ok (.iadd, 1) := by decide +kernel
theorem dX10_choose_33 : decode cX10_choose 33 = .ok (.i2l, 1) := by decide +kernel
theorem dX10_choose_34 : decode cX10_choose 34 = .ok (.ldiv, 1) := by decide +kernel
theorem dX10_choose_35 : decode cX10_choose 35 = .ok (.lstore_n 2, 1) := by decide +kernel
theorem dX10_choose_36 : decode cX10_choose 36 = .ok (.iinc 4 1, 3) := by decide +kernel
theorem dX10_choose_39 : decode cX10_choose 39 = .ok (.goto (-23), 3) := by decide +kernel
theorem dX10_choose_42 : decode cX10_choose 42 = .ok (.lload_n 2, 1) := by decide +kernel
theorem dX10_choose_43 : decode cX10_choose 43 = .ok (.lreturn, 1) := by decide +kernel
theorem dX10_setsOf_0 : decode cX10_setsOf 0 = .ok (.lconst 0, 1) := by decide +kernel
theorem dX10_setsOf_1 : decode cX10_setsOf 1 = .ok (.lstore 5, 2) := by decide +kernel
theorem dX10_setsOf_3 : decode cX10_setsOf 3 = .ok (.iload_n 3, 1) := by decide +kernel
theorem dX10_setsOf_4 : decode cX10_setsOf 4 = .ok (.istore 7, 2) := by decide +kernel
theorem dX10_setsOf_6 : decode cX10_setsOf 6 = .ok (.iload 7, 2) := by decide +kernel
theorem dX10_setsOf_8 : decode cX10_setsOf 8 = .ok (.iload_n 1, 1) := by decide +kernel
theorem dX10_setsOf_9 : decode cX10_setsOf 9 = .ok (.if_icmp .gt 72, 3) := by decide +kernel
theorem dX10_setsOf_12 : decode cX10_setsOf 12 = .ok (.iload 7, 2) := by decide +kernel
theorem dX10_setsOf_14 : decode cX10_setsOf 14 = .ok (.iload_n 3, 1) := by decide +kernel
theorem dX10_setsOf_15 : decode cX10_setsOf 15 = .ok (.isub, 1) := by decide +kernel
theorem dX10_setsOf_16 : decode cX10_setsOf 16 = .ok (.iconst 2, 1) := by decide +kernel
theorem dX10_setsOf_17 : decode cX10_setsOf 17 = .ok (.irem, 1) := by decide +kernel
theorem dX10_setsOf_18 : decode cX10_setsOf 18 = .ok (.ifCond .ne 7, 3) := by decide +kernel
theorem dX10_setsOf_21 : decode cX10_setsOf 21 = .ok (.lconst 1, 1) := by decide +kernel
theorem dX10_setsOf_22 : decode cX10_setsOf 22 = .ok (.goto 6, 3) := by decide +kernel
theorem dX10_setsOf_25 : decode cX10_setsOf 25 = .ok (.ldc2_w 139, 3) := by decide +kernel
theorem dX10_setsOf_28 : decode cX10_setsOf 28 = .ok (.lstore 8, 2) := by decide +kernel
theorem dX10_setsOf_30 : decode cX10_setsOf 30 = .ok (.lload 5, 2) := by decide +kernel
theorem dX10_setsOf_32 : decode cX10_setsOf 32 = .ok (.lload 8, 2) := by decide +kernel
theorem dX10_setsOf_34 : decode cX10_setsOf 34 = .ok (.iload 7, 2) := by decide +kernel
theorem dX10_setsOf_36 : decode cX10_setsOf 36 = .ok (.iconst 1, 1) := by decide +kernel
theorem dX10_setsOf_37 : decode cX10_setsOf 37 = .ok (.isub, 1) := by decide +kernel
theorem dX10_setsOf_38 : decode cX10_setsOf 38 = .ok (.iload_n 3, 1) := by decide +kernel
theorem dX10_setsOf_39 : decode cX10_setsOf 39 = .ok (.iconst 1, 1) := by decide +kernel
theorem dX10_setsOf_40 : decode cX10_setsOf 40 = .ok (.isub, 1) := by decide +kernel
theorem dX10_setsOf_41 : decode cX10_setsOf 41 = .ok (.invokestatic 424, 3) := by decide +kernel
theorem dX10_setsOf_44 : decode cX10_setsOf 44 = .ok (.lmul, 1) := by decide +kernel
theorem dX10_setsOf_45 : decode cX10_setsOf 45 = .ok (.iload_n 1, 1) := by decide +kernel
theorem dX10_setsOf_46 : decode cX10_setsOf 46 = .ok (.iload 7, 2) := by decide +kernel
theorem dX10_setsOf_48 : decode cX10_setsOf 48 = .ok (.invokestatic 424, 3) := by decide +kernel
theorem dX10_setsOf_51 : decode cX10_setsOf 51 = .ok (.lmul, 1) := by decide +kernel
theorem dX10_setsOf_52 : decode cX10_setsOf 52 = .ok (.aload_n 0, 1) := by decide +kernel
theorem dX10_setsOf_53 : decode cX10_setsOf 53 = .ok (.invokevirtual 332, 3) := by decide +kernel
theorem dX10_setsOf_56 : decode cX10_setsOf 56 = .ok (.iload 7, 2) := by decide +kernel
theorem dX10_setsOf_58 : decode cX10_setsOf 58 = .ok (.iload_n 2, 1) := by decide +kernel
theorem dX10_setsOf_59 : decode cX10_setsOf 59 = .ok (.imul, 1) := by decide +kernel
theorem dX10_setsOf_60 : decode cX10_setsOf 60 = .ok (.isub, 1) := by decide +kernel
theorem dX10_setsOf_61 : decode cX10_setsOf 61 = .ok (.iload 4, 2) := by decide +kernel
theorem dX10_setsOf_63 : decode cX10_setsOf 63 = .ok (.iload 7, 2) := by decide +kernel
theorem dX10_setsOf_65 : decode cX10_setsOf 65 = .ok (.iload_n 2, 1) := by decide +kernel
theorem dX10_setsOf_66 : decode cX10_setsOf 66 = .ok (.imul, 1) := by decide +kernel
theorem dX10_setsOf_67 : decode cX10_setsOf 67 = .ok (.isub, 1) := by decide +kernel
theorem dX10_setsOf_68 : decode cX10_setsOf 68 = .ok (.invokestatic 424, 3) := by decide +kernel
theorem dX10_setsOf_71 : decode cX10_setsOf 71 = .ok (.lmul, 1) := by decide +kernel
theorem dX10_setsOf_72 : decode cX10_setsOf 72 = .ok (.ladd, 1) := by decide +kernel
theorem dX10_setsOf_73 : decode cX10_setsOf 73 = .ok (.lstore 5, 2) := by decide +kernel
theorem dX10_setsOf_75 : decode cX10_setsOf 75 = .ok (.iinc 7 1, 3) := by decide +kernel
theorem dX10_setsOf_78 : decode cX10_setsOf 78 = .ok (.goto (-72), 3) := by decide +kernel
theorem dX10_setsOf_81 : decode cX10_setsOf 81 = .ok (.lload 5, 2) := by decide +kernel
theorem dX10_setsOf_83 : decode cX10_setsOf 83 = .ok (.lreturn, 1) := by decide +kernel
theorem dX10_setsOfKind_0 : decode cX10_setsOfKind 0 = .ok (.aload_n 0, 1) := by decide +kernel
theorem dX10_setsOfKind_1 : decode cX10_setsOfKind 1 = .ok (.getfield 34, 3) := by decide +kernel
theorem dX10_setsOfKind_4 : decode cX10_setsOfKind 4 = .ok (.iconst 1, 1) := by decide +kernel
theorem dX10_setsOfKind_5 : decode cX10_setsOfKind 5 = .ok (.iaload, 1) := by decide +kernel
theorem dX10_setsOfKind_6 : decode cX10_setsOfKind 6 = .ok (.istore_n 3, 1) := by decide +kernel
theorem dX10_setsOfKind_7 : decode cX10_setsOfKind 7 = .ok (.iload_n 1, 1) := by decide +kernel
theorem dX10_setsOfKind_8 : decode cX10_setsOfKind 8 = .ok (.iconst 2, 1) := by decide +kernel
theorem dX10_setsOfKind_9 : decode cX10_setsOfKind 9 = .ok (.if_icmp .ne 21, 3) := by decide +kernel
theorem dX10_setsOfKind_12 : decode cX10_setsOfKind 12 = .ok (.aload_n 0, 1) := by decide +kernel
theorem dX10_setsOfKind_13 : decode cX10_setsOfKind 13 = .ok (.iconst 1, 1) := by decide +kernel
theorem dX10_setsOfKind_14 : decode cX10_setsOfKind 14 = .ok (.iload_n 3, 1) := by decide +kernel
theorem dX10_setsOfKind_15 : decode cX10_setsOfKind 15 = .ok (.aload_n 0, 1) := by decide +kernel
theorem dX10_setsOfKind_16 : decode cX10_setsOfKind 16 = .ok (.getfield 34, 3) := by decide +kernel
theorem dX10_setsOfKind_19 : decode cX10_setsOfKind 19 = .ok (.iconst 2, 1) := by decide +kernel
theorem dX10_setsOfKind_20 : decode cX10_setsOfKind 20 = .ok (.iaload, 1) := by decide +kernel
theorem dX10_setsOfKind_21 : decode cX10_setsOfKind 21 = .ok (.imul, 1) := by decide +kernel
theorem dX10_setsOfKind_22 : decode cX10_setsOfKind 22 = .ok (.iconst 1, 1) := by decide +kernel
theorem dX10_setsOfKind_23 : decode cX10_setsOfKind 23 = .ok (.iload_n 2, 1) := by decide +kernel
theorem dX10_setsOfKind_24 : decode cX10_setsOfKind 24 = .ok (.invokevirtual 428, 3) := by decide +kernel
theorem dX10_setsOfKind_27 : decode cX10_setsOfKind 27 = .ok (.goto 18, 3) := by decide +kernel
theorem dX10_setsOfKind_30 : decode cX10_setsOfKind 30 = .ok (.aload_n 0, 1) := by decide +kernel
theorem dX10_setsOfKind_31 : decode cX10_setsOfKind 31 = .ok (.iload_n 3, 1) := by decide +kernel
theorem dX10_setsOfKind_32 : decode cX10_setsOfKind 32 = .ok (.aload_n 0, 1) := by decide +kernel
theorem dX10_setsOfKind_33 : decode cX10_setsOfKind 33 = .ok (.getfield 34, 3) := by decide +kernel
theorem dX10_setsOfKind_36 : decode cX10_setsOfKind 36 = .ok (.iconst 2, 1) := by decide +kernel
theorem dX10_setsOfKind_37 : decode cX10_setsOfKind 37 = .ok (.iaload, 1) := by decide +kernel
theorem dX10_setsOfKind_38 : decode cX10_setsOfKind 38 = .ok (.iload_n 1, 1) := by decide +kernel
theorem dX10_setsOfKind_39 : decode cX10_setsOfKind 39 = .ok (.iconst 1, 1) := by decide +kernel
theorem dX10_setsOfKind_40 : decode cX10_setsOfKind 40 = .ok (.iadd, 1) := by decide +kernel
theorem dX10_setsOfKind_41 : decode cX10_setsOfKind 41 = .ok (.iload_n 2, 1) := by decide +kernel
theorem dX10_setsOfKind_42 : decode cX10_setsOfKind 42 = .ok (.invokevirtual 428, 3) := by decide +kernel
theorem dX10_setsOfKind_45 : decode cX10_setsOfKind 45 = .ok (.lreturn, 1) := by decide +kernel
theorem dX10_common_0 : decode cX10_common 0 = .ok (.lload_n 0, 1) := by decide +kernel
theorem dX10_common_1 : decode cX10_common 1 = .ok (.lstore 4, 2) := by decide +kernel
theorem dX10_common_3 : decode cX10_common 3 = .ok (.lload_n 2, 1) := by decide +kernel
theorem dX10_common_4 : decode cX10_common 4 = .ok (.lstore 6, 2) := by decide +kernel
theorem dX10_common_6 : decode cX10_common 6 = .ok (.lload 6, 2) := by decide +kernel
theorem dX10_common_8 : decode cX10_common 8 = .ok (.lconst 0, 1) := by decide +kernel
theorem dX10_common_9 : decode cX10_common 9 = .ok (.lcmp, 1) := by decide +kernel
theorem dX10_common_10 : decode cX10_common 10 = .ok (.ifCond .eq 21, 3) := by decide +kernel
theorem dX10_common_13 : decode cX10_common 13 = .ok (.lload 4, 2) := by decide +kernel
theorem dX10_common_15 : decode cX10_common 15 = .ok (.lload 6, 2) := by decide +kernel
theorem dX10_common_17 : decode cX10_common 17 = .ok (.lrem, 1) := by decide +kernel
theorem dX10_common_18 : decode cX10_common 18 = .ok (.lstore 8, 2) := by decide +kernel
theorem dX10_common_20 : decode cX10_common 20 = .ok (.lload 6, 2) := by decide +kernel
theorem dX10_common_22 : decode cX10_common 22 = .ok (.lstore 4, 2) := by decide +kernel
theorem dX10_common_24 : decode cX10_common 24 = .ok (.lload 8, 2) := by decide +kernel
theorem dX10_common_26 : decode cX10_common 26 = .ok (.lstore 6, 2) := by decide +kernel
theorem dX10_common_28 : decode cX10_common 28 = .ok (.goto (-22), 3) := by decide +kernel
theorem dX10_common_31 : decode cX10_common 31 = .ok (.lload 4, 2) := by decide +kernel
theorem dX10_common_33 : decode cX10_common 33 = .ok (.lreturn, 1) := by decide +kernel
theorem dX10_told_0 : decode cX10_told 0 = .ok (.iload 4, 2) := by decide +kernel
theorem dX10_told_2 : decode cX10_told 2 = .ok (.ifCond .ne 7, 3) := by decide +kernel
theorem dX10_told_5 : decode cX10_told 5 = .ok (.lload_n 0, 1) := by decide +kernel
theorem dX10_told_6 : decode cX10_told 6 = .ok (.goto 4, 3) := by decide +kernel
theorem dX10_told_9 : decode cX10_told 9 = .ok (.lload_n 2, 1) := by decide +kernel
theorem dX10_told_10 : decode cX10_told 10 = .ok (.lload_n 0, 1) := by decide +kernel
theorem dX10_told_11 : decode cX10_told 11 = .ok (.lload_n 2, 1) := by decide +kernel
theorem dX10_told_12 : decode cX10_told 12 = .ok (.invokestatic 432, 3) := by decide +kernel
theorem dX10_told_15 : decode cX10_told 15 = .ok (.ldiv, 1) := by decide +kernel
theorem dX10_told_16 : decode cX10_told 16 = .ok (.lreturn, 1) := by decide +kernel
theorem dX10_setsOfStrip_0 : decode cX10_setsOfStrip 0 = .ok (.aload_n 0, 1) := by decide +kernel
theorem dX10_setsOfStrip_1 : decode cX10_setsOfStrip 1 = .ok (.getfield 34, 3) := by decide +kernel
theorem dX10_setsOfStrip_4 : decode cX10_setsOfStrip 4 = .ok (.iconst 1, 1) := by decide +kernel
theorem dX10_setsOfStrip_5 : decode cX10_setsOfStrip 5 = .ok (.iaload, 1) := by decide +kernel
theorem dX10_setsOfStrip_6 : decode cX10_setsOfStrip 6 = .ok (.istore_n 3, 1) := by decide +kernel
theorem dX10_setsOfStrip_7 : decode cX10_setsOfStrip 7 = .ok (.iload_n 1, 1) := by decide +kernel
theorem dX10_setsOfStrip_8 : decode cX10_setsOfStrip 8 = .ok (.ifCond .ne 26, 3) := by decide +kernel
theorem dX10_setsOfStrip_11 : decode cX10_setsOfStrip 11 = .ok (.aload_n 0, 1) := by decide +kernel
theorem dX10_setsOfStrip_12 : decode cX10_setsOfStrip 12 = .ok (.aload_n 0, 1) := by decide +kernel
theorem dX10_setsOfStrip_13 : decode cX10_setsOfStrip 13 = .ok (.getfield 34, 3) := by decide +kernel
theorem dX10_setsOfStrip_16 : decode cX10_setsOfStrip 16 = .ok (.iconst 0, 1) := by decide +kernel
theorem dX10_setsOfStrip_17 : decode cX10_setsOfStrip 17 = .ok (.iaload, 1) := by decide +kernel
theorem dX10_setsOfStrip_18 : decode cX10_setsOfStrip 18 = .ok (.iload_n 3, 1) := by decide +kernel
theorem dX10_setsOfStrip_19 : decode cX10_setsOfStrip 19 = .ok (.imul, 1) := by decide +kernel
theorem dX10_setsOfStrip_20 : decode cX10_setsOfStrip 20 = .ok (.aload_n 0, 1) := by decide +kernel
theorem dX10_setsOfStrip_21 : decode cX10_setsOfStrip 21 = .ok (.getfield 34, 3) := by decide +kernel
theorem dX10_setsOfStrip_24 : decode cX10_setsOfStrip 24 = .ok (.iconst 2, 1) := by decide +kernel
theorem dX10_setsOfStrip_25 : decode cX10_setsOfStrip 25 = .ok (.iaload, 1) := by decide +kernel
theorem dX10_setsOfStrip_26 : decode cX10_setsOfStrip 26 = .ok (.iconst 1, 1) := by decide +kernel
theorem dX10_setsOfStrip_27 : decode cX10_setsOfStrip 27 = .ok (.iload_n 2, 1) := by decide +kernel
theorem dX10_setsOfStrip_28 : decode cX10_setsOfStrip 28 = .ok (.invokevirtual 428, 3) := by decide +kernel
theorem dX10_setsOfStrip_31 : decode cX10_setsOfStrip 31 = .ok (.goto 23, 3) := by decide +kernel
theorem dX10_setsOfStrip_34 : decode cX10_setsOfStrip 34 = .ok (.aload_n 0, 1) := by decide +kernel
theorem dX10_setsOfStrip_35 : decode cX10_setsOfStrip 35 = .ok (.aload_n 0, 1) := by decide +kernel
theorem dX10_setsOfStrip_36 : decode cX10_setsOfStrip 36 = .ok (.getfield 34, 3) := by decide +kernel
theorem dX10_setsOfStrip_39 : decode cX10_setsOfStrip 39 = .ok (.iconst 0, 1) := by decide +kernel
theorem dX10_setsOfStrip_40 : decode cX10_setsOfStrip 40 = .ok (.iaload, 1) := by decide +kernel
theorem dX10_setsOfStrip_41 : decode cX10_setsOfStrip 41 = .ok (.iload_n 3, 1) := by decide +kernel
theorem dX10_setsOfStrip_42 : decode cX10_setsOfStrip 42 = .ok (.aload_n 0, 1) := by decide +kernel
theorem dX10_setsOfStrip_43 : decode cX10_setsOfStrip 43 = .ok (.getfield 34, 3) := by decide +kernel
theorem dX10_setsOfStrip_46 : decode cX10_setsOfStrip 46 = .ok (.iconst 2, 1) := by decide +kernel
theorem dX10_setsOfStrip_47 : decode cX10_setsOfStrip 47 = .ok (.iaload, 1) := by decide +kernel
theorem dX10_setsOfStrip_48 : decode cX10_setsOfStrip 48 = .ok (.imul, 1) := by decide +kernel
theorem dX10_setsOfStrip_49 : decode cX10_setsOfStrip 49 = .ok (.iconst 1, 1) := by decide +kernel
theorem dX10_setsOfStrip_50 : decode cX10_setsOfStrip 50 = .ok (.iload_n 2, 1) := by decide +kernel
theorem dX10_setsOfStrip_51 : decode cX10_setsOfStrip 51 = .ok (.invokevirtual 428, 3) := by decide +kernel
theorem dX10_setsOfStrip_54 : decode cX10_setsOfStrip 54 = .ok (.lreturn, 1) := by decide +kernel
theorem dX10_isChance_0 : decode cX10_isChance 0 = .ok (.aload_n 0, 1) := by decide +kernel
theorem dX10_isChance_1 : decode cX10_isChance 1 = .ok (.invokevirtual 324, 3) := by decide +kernel
theorem dX10_isChance_4 : decode cX10_isChance 4 = .ok (.ifCond .eq 38, 3) := by decide +kernel
theorem dX10_isChance_7 : decode cX10_isChance 7 = .ok (.iload_n 1, 1) := by decide +kernel
theorem dX10_isChance_8 : decode cX10_isChance 8 = .ok (.invokestatic 361, 3) := by decide +kernel
theorem dX10_isChance_11 : decode cX10_isChance 11 = .ok (.ifCond .eq 31, 3) := by decide +kernel
theorem dX10_isChance_14 : decode cX10_isChance 14 = .ok (.iload_n 2, 1) := by decide +kernel
theorem dX10_isChance_15 : decode cX10_isChance 15 = .ok (.i2l, 1) := by decide +kernel
theorem dX10_isChance_16 : decode cX10_isChance 16 = .ok (.lconst 0, 1) := by decide +kernel
theorem dX10_isChance_17 : decode cX10_isChance 17 = .ok (.aload_n 0, 1) := by decide +kernel
theorem dX10_isChance_18 : decode cX10_isChance 18 = .ok (.invokevirtual 332, 3) := by decide +kernel
theorem dX10_isChance_21 : decode cX10_isChance 21 = .ok (.i2l, 1) := by decide +kernel
theorem dX10_isChance_22 : decode cX10_isChance 22 = .ok (.invokestatic 100, 3) := by decide +kernel
theorem dX10_isChance_25 : decode cX10_isChance 25 = .ok (.ifCond .eq 17, 3) := by decide +kernel
theorem dX10_isChance_28 : decode cX10_isChance 28 = .ok (.iload_n 3, 1) := by decide +kernel
theorem dX10_isChance_29 : decode cX10_isChance 29 = .ok (.i2l, 1) := by decide +kernel
theorem dX10_isChance_30 : decode cX10_isChance 30 = .ok (.lconst 0, 1) := by decide +kernel
theorem dX10_isChance_31 : decode cX10_isChance 31 = .ok (.lconst 1, 1) := by decide +kernel
theorem dX10_isChance_32 : decode cX10_isChance 32 = .ok (.invokestatic 100, 3) := by decide +kernel
theorem dX10_isChance_35 : decode cX10_isChance 35 = .ok (.ifCond .eq 7, 3) := by decide +kernel
theorem dX10_isChance_38 : decode cX10_isChance 38 = .ok (.iconst 1, 1) := by decide +kernel
theorem dX10_isChance_39 : decode cX10_isChance 39 = .ok (.goto 4, 3) := by decide +kernel
theorem dX10_isChance_42 : decode cX10_isChance 42 = .ok (.iconst 0, 1) := by decide +kernel
theorem dX10_isChance_43 : decode cX10_isChance 43 = .ok (.ireturn, 1) := by decide +kernel
theorem dX10_chance_0 : decode cX10_chance 0 = .ok (.aload_n 0, 1) := by decide +kernel
theorem dX10_chance_1 : decode cX10_chance 1 = .ok (.iconst 0, 1) := by decide +kernel
theorem dX10_chance_2 : decode cX10_chance 2 = .ok (.putfield 95, 3) := by decide +kernel
theorem dX10_chance_5 : decode cX10_chance 5 = .ok (.aload_n 0, 1) := by decide +kernel
theorem dX10_chance_6 : decode cX10_chance 6 = .ok (.iload_n 1, 1) := by decide +kernel
theorem dX10_chance_7 : decode cX10_chance 7 = .ok (.iload_n 2, 1) := by decide +kernel
theorem dX10_chance_8 : decode cX10_chance 8 = .ok (.iload_n 3, 1) := by decide +kernel
theorem dX10_chance_9 : decode cX10_chance 9 = .ok (.invokevirtual 436, 3) := by decide +kernel
theorem dX10_chance_12 : decode cX10_chance 12 = .ok (.ifCond .eq 24, 3) := by decide +kernel
theorem dX10_chance_15 : decode cX10_chance 15 = .ok (.aload_n 0, 1) := by decide +kernel
theorem dX10_chance_16 : decode cX10_chance 16 = .ok (.iload_n 1, 1) := by decide +kernel
theorem dX10_chance_17 : decode cX10_chance 17 = .ok (.iload_n 2, 1) := by decide +kernel
theorem dX10_chance_18 : decode cX10_chance 18 = .ok (.invokevirtual 439, 3) := by decide +kernel
theorem dX10_chance_21 : decode cX10_chance 21 = .ok (.aload_n 0, 1) := by decide +kernel
theorem dX10_chance_22 : decode cX10_chance 22 = .ok (.invokevirtual 332, 3) := by decide +kernel
theorem dX10_chance_25 : decode cX10_chance 25 = .ok (.iload_n 2, 1) := by decide +kernel
theorem dX10_chance_26 : decode cX10_chance 26 = .ok (.invokestatic 424, 3) := by decide +kernel
theorem dX10_chance_29 : decode cX10_chance 29 = .ok (.iload_n 3, 1) := by decide +kernel
theorem dX10_chance_30 : decode cX10_chance 30 = .ok (.invokestatic 442, 3) := by decide +kernel
theorem dX10_chance_33 : decode cX10_chance 33 = .ok (.goto 6, 3) := by decide +kernel
theorem dX10_chance_36 : decode cX10_chance 36 = .ok (.ldc2_w 446, 3) := by decide +kernel
theorem dX10_chance_39 : decode cX10_chance 39 = .ok (.lreturn, 1) := by decide +kernel
theorem dX10_some_0 : decode cX10_some 0 = .ok (.aload_n 0, 1) := by decide +kernel
theorem dX10_some_1 : decode cX10_some 1 = .ok (.iconst 0, 1) := by decide +kernel
theorem dX10_some_2 : decode cX10_some 2 = .ok (.putfield 95, 3) := by decide +kernel
theorem dX10_some_5 : decode cX10_some 5 = .ok (.aload_n 0, 1) := by decide +kernel
theorem dX10_some_6 : decode cX10_some 6 = .ok (.iload_n 1, 1) := by decide +kernel
theorem dX10_some_7 : decode cX10_some 7 = .ok (.iload_n 2, 1) := by decide +kernel
theorem dX10_some_8 : decode cX10_some 8 = .ok (.iload_n 3, 1) := by decide +kernel
theorem dX10_some_9 : decode cX10_some 9 = .ok (.invokevirtual 436, 3) := by decide +kernel
theorem dX10_some_12 : decode cX10_some 12 = .ok (.ifCond .eq 8, 3) := by decide +kernel
theorem dX10_some_15 : decode cX10_some 15 = .ok (.iload_n 1, 1) := by decide +kernel
theorem dX10_some_16 : decode cX10_some 16 = .ok (.iconst 1, 1) := by decide +kernel
theorem dX10_some_17 : decode cX10_some 17 = .ok (.if_icmp .ne 7, 3) := by decide +kernel
theorem dX10_some_20 : decode cX10_some 20 = .ok (.ldc2_w 446, 3) := by decide +kernel
theorem dX10_some_23 : decode cX10_some 23 = .ok (.lreturn, 1) := by decide +kernel
theorem dX10_some_24 : decode cX10_some 24 = .ok (.aload_n 0, 1) := by decide +kernel
theorem dX10_some_25 : decode cX10_some 25 = .ok (.iload_n 1, 1) := by decide +kernel
theorem dX10_some_26 : decode cX10_some 26 = .ok (.iload_n 2, 1) := by decide +kernel
theorem dX10_some_27 : decode cX10_some 27 = .ok (.invokevirtual 448, 3) := by decide +kernel
theorem dX10_some_30 : decode cX10_some 30 = .ok (.aload_n 0, 1) := by decide +kernel
theorem dX10_some_31 : decode cX10_some 31 = .ok (.invokevirtual 332, 3) := by decide +kernel
theorem dX10_some_34 : decode cX10_some 34 = .ok (.iload_n 2, 1) := by decide +kernel
theorem dX10_some_35 : decode cX10_some 35 = .ok (.invokestatic 424, 3) := by decide +kernel
theorem dX10_some_38 : decode cX10_some 38 = .ok (.iload_n 3, 1) := by decide +kernel
theorem dX10_some_39 : decode cX10_some 39 = .ok (.invokestatic 442, 3) := by decide +kernel
theorem dX10_some_42 : decode cX10_some 42 = .ok (.lreturn, 1) := by decide +kernel
theorem dX10_just_0 : decode cX10_just 0 = .ok (.aload_n 0, 1) := by decide +kernel
theorem dX10_just_1 : decode cX10_just 1 = .ok (.iconst 0, 1) := by decide +kernel
theorem dX10_just_2 : decode cX10_just 2 = .ok (.putfield 95, 3) := by decide +kernel
theorem dX10_just_5 : decode cX10_just 5 = .ok (.aload_n 0, 1) := by decide +kernel
theorem dX10_just_6 : decode cX10_just 6 = .ok (.iload_n 1, 1) := by decide +kernel
theorem dX10_just_7 : decode cX10_just 7 = .ok (.iload_n 2, 1) := by decide +kernel
theorem dX10_just_8 : decode cX10_just 8 = .ok (.iload_n 3, 1) := by decide +kernel
theorem dX10_just_9 : decode cX10_just 9 = .ok (.invokevirtual 436, 3) := by decide +kernel
theorem dX10_just_12 : decode cX10_just 12 = .ok (.ifCond .eq 13, 3) := by decide +kernel
theorem dX10_just_15 : decode cX10_just 15 = .ok (.iload_n 1, 1) := by decide +kernel
theorem dX10_just_16 : decode cX10_just 16 = .ok (.iconst 1, 1) := by decide +kernel
theorem dX10_just_17 : decode cX10_just 17 = .ok (.if_icmp .eq 8, 3) := by decide +kernel
theorem dX10_just_20 : decode cX10_just 20 = .ok (.iload_n 2, 1) := by decide +kernel
theorem dX10_just_21 : decode cX10_just 21 = .ok (.iconst 1, 1) := by decide +kernel
theorem dX10_just_22 : decode cX10_just 22 = .ok (.if_icmp .ge 7, 3) := by decide +kernel
theorem dX10_just_25 : decode cX10_just 25 = .ok (.ldc2_w 446, 3) := by decide +kernel
theorem dX10_just_28 : decode cX10_just 28 = .ok (.lreturn, 1) := by decide +kernel
theorem dX10_just_29 : decode cX10_just 29 = .ok (.aload_n 0, 1) := by decide +kernel
theorem dX10_just_30 : decode cX10_just 30 = .ok (.iload_n 1, 1) := by decide +kernel
theorem dX10_just_31 : decode cX10_just 31 = .ok (.iload_n 2, 1) := by decide +kernel
theorem dX10_just_32 : decode cX10_just 32 = .ok (.invokevirtual 448, 3) := by decide +kernel
theorem dX10_just_35 : decode cX10_just 35 = .ok (.iload_n 2, 1) := by decide +kernel
theorem dX10_just_36 : decode cX10_just 36 = .ok (.i2l, 1) := by decide +kernel
theorem dX10_just_37 : decode cX10_just 37 = .ok (.lmul, 1) := by decide +kernel
theorem dX10_just_38 : decode cX10_just 38 = .ok (.aload_n 0, 1) := by decide +kernel
theorem dX10_just_39 : decode cX10_just 39 = .ok (.iload_n 1, 1) := by decide +kernel
theorem dX10_just_40 : decode cX10_just 40 = .ok (.iload_n 2, 1) := by decide +kernel
theorem dX10_just_41 : decode cX10_just 41 = .ok (.iconst 1, 1) := by decide +kernel
theorem dX10_just_42 : decode cX10_just 42 = .ok (.isub, 1) := by decide +kernel
theorem dX10_just_43 : decode cX10_just 43 = .ok (.invokevirtual 448, 3) := by decide +kernel
theorem dX10_just_46 : decode cX10_just 46 = .ok (.aload_n 0, 1) := by decide +kernel
theorem dX10_just_47 : decode cX10_just 47 = .ok (.invokevirtual 332, 3) := by decide +kernel
theorem dX10_just_50 : decode cX10_just 50 = .ok (.iload_n 2, 1) := by decide +kernel
theorem dX10_just_51 : decode cX10_just 51 = .ok (.isub, 1) := by decide +kernel
theorem dX10_just_52 : decode cX10_just 52 = .ok (.iconst 1, 1) := by decide +kernel
theorem dX10_just_53 : decode cX10_just 53 = .ok (.iadd, 1) := by decide +kernel
theorem dX10_just_54 : decode cX10_just 54 = .ok (.i2l, 1) := by decide +kernel
theorem dX10_just_55 : decode cX10_just 55 = .ok (.lmul, 1) := by decide +kernel
theorem dX10_just_56 : decode cX10_just 56 = .ok (.lsub, 1) := by decide +kernel
theorem dX10_just_57 : decode cX10_just 57 = .ok (.lstore 4, 2) := by decide +kernel
theorem dX10_just_59 : decode cX10_just 59 = .ok (.lload 4, 2) := by decide +kernel
theorem dX10_just_61 : decode cX10_just 61 = .ok (.aload_n 0, 1) := by decide +kernel
theorem dX10_just_62 : decode cX10_just 62 = .ok (.invokevirtual 332, 3) := by decide +kernel
theorem dX10_just_65 : decode cX10_just 65 = .ok (.iload_n 2, 1) := by decide +kernel
theorem dX10_just_66 : decode cX10_just 66 = .ok (.invokestatic 424, 3) := by decide +kernel
theorem dX10_just_69 : decode cX10_just 69 = .ok (.iload_n 2, 1) := by decide +kernel
theorem dX10_just_70 : decode cX10_just 70 = .ok (.i2l, 1) := by decide +kernel
theorem dX10_just_71 : decode cX10_just 71 = .ok (.lmul, 1) := by decide +kernel
theorem dX10_just_72 : decode cX10_just 72 = .ok (.iload_n 3, 1) := by decide +kernel
theorem dX10_just_73 : decode cX10_just 73 = .ok (.invokestatic 442, 3) := by decide +kernel
theorem dX10_just_76 : decode cX10_just 76 = .ok (.lreturn, 1) := by decide +kernel
theorem dX10_likely_0 : decode cX10_likely 0 = .ok (.aload_n 0, 1) := by decide +kernel
theorem dX10_likely_1 : decode cX10_likely 1 = .ok (.iconst 0, 1) := by decide +kernel
theorem dX10_likely_2 : decode cX10_likely 2 = .ok (.putfield 95, 3) := by decide +kernel
theorem dX10_likely_5 : decode cX10_likely 5 = .ok (.aload_n 0, 1) := by decide +kernel
theorem dX10_likely_6 : decode cX10_likely 6 = .ok (.invokevirtual 324, 3) := by decide +kernel
theorem dX10_likely_9 : decode cX10_likely 9 = .ok (.ifCond .eq 39, 3) := by decide +kernel
theorem dX10_likely_12 : decode cX10_likely 12 = .ok (.iload_n 1, 1) := by decide +kernel
theorem dX10_likely_13 : decode cX10_likely 13 = .ok (.invokestatic 361, 3) := by decide +kernel
theorem dX10_likely_16 : decode cX10_likely 16 = .ok (.ifCond .eq 32, 3) := by decide +kernel
theorem dX10_likely_19 : decode cX10_likely 19 = .ok (.iload_n 1, 1) := by decide +kernel
theorem dX10_likely_20 : decode cX10_likely 20 = .ok (.iconst 1, 1) := by decide +kernel
theorem dX10_likely_21 : decode cX10_likely 21 = .ok (.if_icmp .eq 27, 3) := by decide +kernel
theorem dX10_likely_24 : decode cX10_likely 24 = .ok (.iload_n 2, 1) := by decide +kernel
theorem dX10_likely_25 : decode cX10_likely 25 = .ok (.i2l, 1) := by decide +kernel
theorem dX10_likely_26 : decode cX10_likely 26 = .ok (.lconst 0, 1) := by decide +kernel
theorem dX10_likely_27 : decode cX10_likely 27 = .ok (.ldc2_w 451, 3) := by decide +kernel
theorem dX10_likely_30 : decode cX10_likely 30 = .ok (.invokestatic 100, 3) := by decide +kernel
theorem dX10_likely_33 : decode cX10_likely 33 = .ok (.ifCond .eq 15, 3) := by decide +kernel
theorem dX10_likely_36 : decode cX10_likely 36 = .ok (.iload_n 3, 1) := by decide +kernel
theorem dX10_likely_37 : decode cX10_likely 37 = .ok (.i2l, 1) := by decide +kernel
theorem dX10_likely_38 : decode cX10_likely 38 = .ok (.lconst 1, 1) := by decide +kernel
theorem dX10_likely_39 : decode cX10_likely 39 = .ok (.ldc2_w 451, 3) := by decide +kernel
theorem dX10_likely_42 : decode cX10_likely 42 = .ok (.invokestatic 100, 3) := by decide +kernel
theorem dX10_likely_45 : decode cX10_likely 45 = .ok (.ifCond .ne 6, 3) := by decide +kernel
theorem dX10_likely_48 : decode cX10_likely 48 = .ok (.bipush (-2), 2) := by decide +kernel
theorem dX10_likely_50 : decode cX10_likely 50 = .ok (.ireturn, 1) := by decide +kernel
theorem dX10_likely_51 : decode cX10_likely 51 = .ok (.iconst 0, 1) := by decide +kernel
theorem dX10_likely_52 : decode cX10_likely 52 = .ok (.istore 4, 2) := by decide +kernel
theorem dX10_likely_54 : decode cX10_likely 54 = .ok (.iload 4, 2) := by decide +kernel
theorem dX10_likely_56 : decode cX10_likely 56 = .ok (.aload_n 0, 1) := by decide +kernel
theorem dX10_likely_57 : decode cX10_likely 57 = .ok (.invokevirtual 332, 3) := by decide +kernel
theorem dX10_likely_60 : decode cX10_likely 60 = .ok (.if_icmp .gt 38, 3) := by decide +kernel
theorem dX10_likely_63 : decode cX10_likely 63 = .ok (.aload_n 0, 1) := by decide +kernel
theorem dX10_likely_64 : decode cX10_likely 64 = .ok (.iload_n 1, 1) := by decide +kernel
theorem dX10_likely_65 : decode cX10_likely 65 = .ok (.iload 4, 2) := by decide +kernel
theorem dX10_likely_67 : decode cX10_likely 67 = .ok (.invokevirtual 448, 3) := by decide +kernel
theorem dX10_likely_70 : decode cX10_likely 70 = .ok (.iload_n 3, 1) := by decide +kernel
theorem dX10_likely_71 : decode cX10_likely 71 = .ok (.i2l, 1) := by decide +kernel
theorem dX10_likely_72 : decode cX10_likely 72 = .ok (.lmul, 1) := by decide +kernel
theorem dX10_likely_73 : decode cX10_likely 73 = .ok (.iload_n 2, 1) := by decide +kernel
theorem dX10_likely_74 : decode cX10_likely 74 = .ok (.i2l, 1) := by decide +kernel
theorem dX10_likely_75 : decode cX10_likely 75 = .ok (.aload_n 0, 1) := by decide +kernel
theorem dX10_likely_76 : decode cX10_likely 76 = .ok (.invokevirtual 332, 3) := by decide +kernel
theorem dX10_likely_79 : decode cX10_likely 79 = .ok (.iload 4, 2) := by decide +kernel
theorem dX10_likely_81 : decode cX10_likely 81 = .ok (.invokestatic 424, 3) := by decide +kernel
theorem dX10_likely_84 : decode cX10_likely 84 = .ok (.lmul, 1) := by decide +kernel
theorem dX10_likely_85 : decode cX10_likely 85 = .ok (.lcmp, 1) := by decide +kernel
theorem dX10_likely_86 : decode cX10_likely 86 = .ok (.ifCond .lt 6, 3) := by decide +kernel
theorem dX10_likely_89 : decode cX10_likely 89 = .ok (.iload 4, 2) := by decide +kernel
theorem dX10_likely_91 : decode cX10_likely 91 = .ok (.ireturn, 1) := by decide +kernel
theorem dX10_likely_92 : decode cX10_likely 92 = .ok (.iinc 4 1, 3) := by decide +kernel
theorem dX10_likely_95 : decode cX10_likely 95 = .ok (.goto (-41), 3) := by decide +kernel
theorem dX10_likely_98 : decode cX10_likely 98 = .ok (.iconst (-1), 1) := by decide +kernel
theorem dX10_likely_99 : decode cX10_likely 99 = .ok (.ireturn, 1) := by decide +kernel
theorem dX10_mean_0 : decode cX10_mean 0 = .ok (.aload_n 0, 1) := by decide +kernel
theorem dX10_mean_1 : decode cX10_mean 1 = .ok (.iconst 0, 1) := by decide +kernel
theorem dX10_mean_2 : decode cX10_mean 2 = .ok (.putfield 95, 3) := by decide +kernel
theorem dX10_mean_5 : decode cX10_mean 5 = .ok (.aload_n 0, 1) := by decide +kernel
theorem dX10_mean_6 : decode cX10_mean 6 = .ok (.invokevirtual 324, 3) := by decide +kernel
theorem dX10_mean_9 : decode cX10_mean 9 = .ok (.ifCond .eq 27, 3) := by decide +kernel
theorem dX10_mean_12 : decode cX10_mean 12 = .ok (.iload_n 1, 1) := by decide +kernel
theorem dX10_mean_13 : decode cX10_mean 13 = .ok (.i2l, 1) := by decide +kernel
theorem dX10_mean_14 : decode cX10_mean 14 = .ok (.lconst 1, 1) := by decide +kernel
theorem dX10_mean_15 : decode cX10_mean 15 = .ok (.aload_n 0, 1) := by decide +kernel
theorem dX10_mean_16 : decode cX10_mean 16 = .ok (.invokevirtual 332, 3) := by decide +kernel
theorem dX10_mean_19 : decode cX10_mean 19 = .ok (.i2l, 1) := by decide +kernel
theorem dX10_mean_20 : decode cX10_mean 20 = .ok (.invokestatic 100, 3) := by decide +kernel
theorem dX10_mean_23 : decode cX10_mean 23 = .ok (.ifCond .eq 13, 3) := by decide +kernel
theorem dX10_mean_26 : decode cX10_mean 26 = .ok (.iload_n 2, 1) := by decide +kernel
theorem dX10_mean_27 : decode cX10_mean 27 = .ok (.i2l, 1) := by decide +kernel
theorem dX10_mean_28 : decode cX10_mean 28 = .ok (.lconst 0, 1) := by decide +kernel
theorem dX10_mean_29 : decode cX10_mean 29 = .ok (.lconst 1, 1) := by decide +kernel
theorem dX10_mean_30 : decode cX10_mean 30 = .ok (.invokestatic 100, 3) := by decide +kernel
theorem dX10_mean_33 : decode cX10_mean 33 = .ok (.ifCond .ne 6, 3) := by decide +kernel
theorem dX10_mean_36 : decode cX10_mean 36 = .ok (.bipush (-2), 2) := by decide +kernel
theorem dX10_mean_38 : decode cX10_mean 38 = .ok (.ireturn, 1) := by decide +kernel
theorem dX10_mean_39 : decode cX10_mean 39 = .ok (.iload_n 1, 1) := by decide +kernel
theorem dX10_mean_40 : decode cX10_mean 40 = .ok (.i2l, 1) := by decide +kernel
theorem dX10_mean_41 : decode cX10_mean 41 = .ok (.aload_n 0, 1) := by decide +kernel
theorem dX10_mean_42 : decode cX10_mean 42 = .ok (.invokevirtual 332, 3) := by decide +kernel
theorem dX10_mean_45 : decode cX10_mean 45 = .ok (.iconst 1, 1) := by decide +kernel
theorem dX10_mean_46 : decode cX10_mean 46 = .ok (.iadd, 1) := by decide +kernel
theorem dX10_mean_47 : decode cX10_mean 47 = .ok (.i2l, 1) := by decide +kernel
theorem dX10_mean_48 : decode cX10_mean 48 = .ok (.lmul, 1) := by decide +kernel
theorem dX10_mean_49 : decode cX10_mean 49 = .ok (.iload_n 1, 1) := by decide +kernel
theorem dX10_mean_50 : decode cX10_mean 50 = .ok (.i2l, 1) := by decide +kernel
theorem dX10_mean_51 : decode cX10_mean 51 = .ok (.lconst 1, 1) := by decide +kernel
theorem dX10_mean_52 : decode cX10_mean 52 = .ok (.ladd, 1) := by decide +kernel
theorem dX10_mean_53 : decode cX10_mean 53 = .ok (.iload_n 2, 1) := by decide +kernel
theorem dX10_mean_54 : decode cX10_mean 54 = .ok (.invokestatic 442, 3) := by decide +kernel
theorem dX10_mean_57 : decode cX10_mean 57 = .ok (.l2i, 1) := by decide +kernel
theorem dX10_mean_58 : decode cX10_mean 58 = .ok (.ireturn, 1) := by decide +kernel
theorem dX10_evenings_0 : decode cX10_evenings 0 = .ok (.aload_n 0, 1) := by decide +kernel
theorem dX10_evenings_1 : decode cX10_evenings 1 = .ok (.iconst 0, 1) := by decide +kernel
theorem dX10_evenings_2 : decode cX10_evenings 2 = .ok (.putfield 95, 3) := by decide +kernel
theorem dX10_evenings_5 : decode cX10_evenings 5 = .ok (.aload_n 0, 1) := by decide +kernel
theorem dX10_evenings_6 : decode cX10_evenings 6 = .ok (.invokevirtual 324, 3) := by decide +kernel
theorem dX10_evenings_9 : decode cX10_evenings 9 = .ok (.ifCond .eq 47, 3) := by decide +kernel
theorem dX10_evenings_12 : decode cX10_evenings 12 = .ok (.iload_n 1, 1) := by decide +kernel
theorem dX10_evenings_13 : decode cX10_evenings 13 = .ok (.i2l, 1) := by decide +kernel
theorem dX10_evenings_14 : decode cX10_evenings 14 = .ok (.lconst 0, 1) := by decide +kernel
theorem dX10_evenings_15 : decode cX10_evenings 15 = .ok (.ldc2_w 348, 3) := by decide +kernel
theorem dX10_evenings_18 : decode cX10_evenings 18 = .ok (.invokestatic 100, 3) := by decide +kernel
theorem dX10_evenings_21 : decode cX10_evenings 21 = .ok (.ifCond .eq 35, 3) := by decide +kernel
theorem dX10_evenings_24 : decode cX10_evenings 24 = .ok (.iload_n 2, 1) := by decide +kernel
theorem dX10_evenings_25 : decode cX10_evenings 25 = .ok (.i2l, 1) := by decide +kernel
theorem dX10_evenings_26 : decode cX10_evenings 26 = .ok (.lconst 1, 1) := by decide +kernel
theorem dX10_evenings_27 : decode cX10_evenings 27 = .ok (.ldc2_w 453, 3) := by decide +kernel
theorem dX10_evenings_30 : decode cX10_evenings 30 = .ok (.invokestatic 100, 3) := by decide +kernel
theorem dX10_evenings_33 : decode cX10_evenings 33 = .ok (.ifCond .eq 23, 3) := by decide +kernel
theorem dX10_evenings_36 : decode cX10_evenings 36 = .ok (.iload_n 3, 1) := by decide +kernel
theorem dX10_evenings_37 : decode cX10_evenings 37 = .ok (.invokestatic 361, 3) := by decide +kernel
theorem dX10_evenings_40 : decode cX10_evenings 40 = .ok (.ifCond .eq 16, 3) := by decide +kernel
theorem dX10_evenings_43 : decode cX10_evenings 43 = .ok (.iload 4, 2) := by decide +kernel
theorem dX10_evenings_45 : decode cX10_evenings 45 = .ok (.i2l, 1) := by decide +kernel
theorem dX10_evenings_46 : decode cX10_evenings 46 = .ok (.lconst 0, 1) := by decide +kernel
theorem dX10_evenings_47 : decode cX10_evenings 47 = .ok (.ldc2_w 359, 3) := by decide +kernel
theorem dX10_evenings_50 : decode cX10_evenings 50 = .ok (.invokestatic 100, 3) := by decide +kernel
theorem dX10_evenings_53 : decode cX10_evenings 53 = .ok (.ifCond .ne 6, 3) := by decide +kernel
theorem dX10_evenings_56 : decode cX10_evenings 56 = .ok (.bipush (-2), 2) := by decide +kernel
theorem dX10_evenings_58 : decode cX10_evenings 58 = .ok (.ireturn, 1) := by decide +kernel
theorem dX10_evenings_59 : decode cX10_evenings 59 = .ok (.aload_n 0, 1) := by decide +kernel
theorem dX10_evenings_60 : decode cX10_evenings 60 = .ok (.iconst 0, 1) := by decide +kernel
theorem dX10_evenings_61 : decode cX10_evenings 61 = .ok (.iconst 5, 1) := by decide +kernel
theorem dX10_evenings_62 : decode cX10_evenings 62 = .ok (.invokevirtual 256, 3) := by decide +kernel
theorem dX10_evenings_65 : decode cX10_evenings 65 = .ok (.iconst 0, 1) := by decide +kernel
theorem dX10_evenings_66 : decode cX10_evenings 66 = .ok (.istore 5, 2) := by decide +kernel
theorem dX10_evenings_68 : decode cX10_evenings 68 = .ok (.iconst (-1), 1) := by decide +kernel
theorem dX10_evenings_69 : decode cX10_evenings 69 = .ok (.istore 6, 2) := by decide +kernel
theorem dX10_evenings_71 : decode cX10_evenings 71 = .ok (.iconst 0, 1) := by decide +kernel
theorem dX10_evenings_72 : decode cX10_evenings 72 = .ok (.istore 7, 2) := by decide +kernel
theorem dX10_evenings_74 : decode cX10_evenings 74 = .ok (.iconst 0, 1) := by decide +kernel
theorem dX10_evenings_75 : decode cX10_evenings 75 = .ok (.istore 8, 2) := by decide +kernel
theorem dX10_evenings_77 : decode cX10_evenings 77 = .ok (.iload 8, 2) := by decide +kernel
theorem dX10_evenings_79 : decode cX10_evenings 79 = .ok (.iload_n 2, 1) := by decide +kernel
theorem dX10_evenings_80 : decode cX10_evenings 80 = .ok (.if_icmp .ge 96, 3) := by decide +kernel
theorem dX10_evenings_83 : decode cX10_evenings 83 = .ok (.aload_n 0, 1) := by decide +kernel
theorem dX10_evenings_84 : decode cX10_evenings 84 = .ok (.iconst 5, 1) := by decide +kernel
theorem dX10_evenings_85 : decode cX10_evenings 85 = .ok (.iload_n 1, 1) := by decide +kernel
theorem dX10_evenings_86 : decode cX10_evenings 86 = .ok (.i2l, 1) := by decide +kernel
theorem dX10_evenings_87 : decode cX10_evenings 87 = .ok (.iload 8, 2) := by decide +kernel
theorem dX10_evenings_89 : decode cX10_evenings 89 = .ok (.i2l, 1) := by decide +kernel
theorem dX10_evenings_90 : decode cX10_evenings 90 = .ok (.ladd, 1) := by decide +kernel
theorem dX10_evenings_91 : decode cX10_evenings 91 = .ok (.invokevirtual 252, 3) := by decide +kernel
theorem dX10_evenings_94 : decode cX10_evenings 94 = .ok (.aload_n 0, 1) := by decide +kernel
theorem dX10_evenings_95 : decode cX10_evenings 95 = .ok (.iconst 5, 1) := by decide +kernel
theorem dX10_evenings_96 : decode cX10_evenings 96 = .ok (.iload_n 3, 1) := by decide +kernel
theorem dX10_evenings_97 : decode cX10_evenings 97 = .ok (.invokevirtual 377, 3) := by decide +kernel
theorem dX10_evenings_100 : decode cX10_evenings 100 = .ok (.aload_n 0, 1) := by decide +kernel
theorem dX10_evenings_101 : decode cX10_evenings 101 = .ok (.getfield 371, 3) := by decide +kernel
theorem dX10_evenings_104 : decode cX10_evenings 104 = .ok (.iconst (-1), 1) := by decide +kernel
theorem dX10_evenings_105 : decode cX10_evenings 105 = .ok (.if_icmp .ne 12, 3) := by decide +kernel
theorem dX10_evenings_108 : decode cX10_evenings 108 = .ok (.aload_n 0, 1) := by decide +kernel
theorem dX10_evenings_109 : decode cX10_evenings 109 = .ok (.invokevirtual 332, 3) := by decide +kernel
theorem dX10_evenings_112 : decode cX10_evenings 112 = .ok (.iconst 1, 1) := by decide +kernel
theorem dX10_evenings_113 : decode cX10_evenings 113 = .ok (.iadd, 1) := by decide +kernel
theorem dX10_evenings_114 : decode cX10_evenings 114 = .ok (.goto 7, 3) := by decide +kernel
theorem dX10_evenings_117 : decode cX10_evenings 117 = .ok (.aload_n 0, 1) := by decide +kernel
theorem dX10_evenings_118 : decode cX10_evenings 118 = .ok (.getfield 371, 3) := by decide +kernel
theorem dX10_evenings_121 : decode cX10_evenings 121 = .ok (.istore 9, 2) := by decide +kernel
theorem dX10_evenings_123 : decode cX10_evenings 123 = .ok (.iload 5, 2) := by decide +kernel
theorem dX10_evenings_125 : decode cX10_evenings 125 = .ok (.iload 9, 2) := by decide +kernel
theorem dX10_evenings_127 : decode cX10_evenings 127 = .ok (.iadd, 1) := by decide +kernel
theorem dX10_evenings_128 : decode cX10_evenings 128 = .ok (.istore 5, 2) := by decide +kernel
theorem dX10_evenings_130 : decode cX10_evenings 130 = .ok (.iload 6, 2) := by decide +kernel
theorem dX10_evenings_132 : decode cX10_evenings 132 = .ok (.iconst (-1), 1) := by decide +kernel
theorem dX10_evenings_133 : decode cX10_evenings 133 = .ok (.if_icmp .eq 10, 3) := by decide +kernel
theorem dX10_evenings_136 : decode cX10_evenings 136 = .ok (.iload 9, 2) := by decide +kernel
theorem dX10_evenings_138 : decode cX10_evenings 138 = .ok (.iload 6, 2) := by decide +kernel
theorem dX10_evenings_140 : decode cX10_evenings 140 = .ok (.if_icmp .ge 8, 3) := by decide +kernel
theorem dX10_evenings_143 : decode cX10_evenings 143 = .ok (.iload 9, 2) := by decide +kernel
theorem dX10_evenings_145 : decode cX10_evenings 145 = .ok (.goto 5, 3) := by decide +kernel
theorem dX10_evenings_148 : decode cX10_evenings 148 = .ok (.iload 6, 2) := by decide +kernel
theorem dX10_evenings_150 : decode cX10_evenings 150 = .ok (.istore 6, 2) := by decide +kernel
theorem dX10_evenings_152 : decode cX10_evenings 152 = .ok (.iload 7, 2) := by decide +kernel
theorem dX10_evenings_154 : decode cX10_evenings 154 = .ok (.aload_n 0, 1) := by decide +kernel
theorem dX10_evenings_155 : decode cX10_evenings 155 = .ok (.getfield 374, 3) := by decide +kernel
theorem dX10_evenings_158 : decode cX10_evenings 158 = .ok (.iconst 1, 1) := by decide +kernel
theorem dX10_evenings_159 : decode cX10_evenings 159 = .ok (.if_icmp .le 7, 3) := by decide +kernel
theorem dX10_evenings_162 : decode cX10_evenings 162 = .ok (.iconst 1, 1) := by decide +kernel
theorem dX10_evenings_163 : decode cX10_evenings 163 = .ok (.goto 4, 3) := by decide +kernel
theorem dX10_evenings_166 : decode cX10_evenings 166 = .ok (.iconst 0, 1) := by decide +kernel
theorem dX10_evenings_167 : decode cX10_evenings 167 = .ok (.iadd, 1) := by decide +kernel
theorem dX10_evenings_168 : decode cX10_evenings 168 = .ok (.istore 7, 2) := by decide +kernel
theorem dX10_evenings_170 : decode cX10_evenings 170 = .ok (.iinc 8 1, 3) := by decide +kernel
theorem dX10_evenings_173 : decode cX10_evenings 173 = .ok (.goto (-96), 3) := by decide +kernel
theorem dX10_evenings_176 : decode cX10_evenings 176 = .ok (.iload 4, 2) := by decide +kernel
theorem dX10_evenings_178 : decode cX10_evenings 178 = .ok (.ifCond .ne 8, 3) := by decide +kernel
theorem dX10_evenings_181 : decode cX10_evenings 181 = .ok (.iload 5, 2) := by decide +kernel
theorem dX10_evenings_183 : decode cX10_evenings 183 = .ok (.goto 16, 3) := by decide +kernel
theorem dX10_evenings_186 : decode cX10_evenings 186 = .ok (.iload 4, 2) := by decide +kernel
theorem dX10_evenings_188 : decode cX10_evenings 188 = .ok (.iconst 1, 1) := by decide +kernel
theorem dX10_evenings_189 : decode cX10_evenings 189 = .ok (.if_icmp .ne 8, 3) := by decide +kernel
theorem dX10_evenings_192 : decode cX10_evenings 192 = .ok (.iload 6, 2) := by decide +kernel
theorem dX10_evenings_194 : decode cX10_evenings 194 = .ok (.goto 5, 3) := by decide +kernel
theorem dX10_evenings_197 : decode cX10_evenings 197 = .ok (.iload 7, 2) := by decide +kernel
theorem dX10_evenings_199 : decode cX10_evenings 199 = .ok (.ireturn, 1) := by decide +kernel
theorem dX10_judge_0 : decode cX10_judge 0 = .ok (.aload_n 0, 1) := by decide +kernel
theorem dX10_judge_1 : decode cX10_judge 1 = .ok (.iconst 0, 1) := by decide +kernel
theorem dX10_judge_2 : decode cX10_judge 2 = .ok (.putfield 95, 3) := by decide +kernel
theorem dX10_judge_5 : decode cX10_judge 5 = .ok (.aload_n 0, 1) := by decide +kernel
theorem dX10_judge_6 : decode cX10_judge 6 = .ok (.iload_n 1, 1) := by decide +kernel
theorem dX10_judge_7 : decode cX10_judge 7 = .ok (.invokevirtual 339, 3) := by decide +kernel
theorem dX10_judge_10 : decode cX10_judge 10 = .ok (.istore_n 2, 1) := by decide +kernel
theorem dX10_judge_11 : decode cX10_judge 11 = .ok (.iload_n 2, 1) := by decide +kernel
theorem dX10_judge_12 : decode cX10_judge 12 = .ok (.ifCond .eq 5, 3) := by decide +kernel
theorem dX10_judge_15 : decode cX10_judge 15 = .ok (.iload_n 2, 1) := by decide +kernel
theorem dX10_judge_16 : decode cX10_judge 16 = .ok (.ireturn, 1) := by decide +kernel
theorem dX10_judge_17 : decode cX10_judge 17 = .ok (.iconst 0, 1) := by decide +kernel
theorem dX10_judge_18 : decode cX10_judge 18 = .ok (.istore_n 3, 1) := by decide +kernel
theorem dX10_judge_19 : decode cX10_judge 19 = .ok (.iload_n 3, 1) := by decide +kernel
theorem dX10_judge_20 : decode cX10_judge 20 = .ok (.aload_n 0, 1) := by decide +kernel
theorem dX10_judge_21 : decode cX10_judge 21 = .ok (.getfield 13, 3) := by decide +kernel
theorem dX10_judge_24 : decode cX10_judge 24 = .ok (.iload_n 1, 1) := by decide +kernel
theorem dX10_judge_25 : decode cX10_judge 25 = .ok (.iaload, 1) := by decide +kernel
theorem dX10_judge_26 : decode cX10_judge 26 = .ok (.if_icmp .ge 39, 3) := by decide +kernel
theorem dX10_judge_29 : decode cX10_judge 29 = .ok (.iload_n 3, 1) := by decide +kernel
theorem dX10_judge_30 : decode cX10_judge 30 = .ok (.aload_n 0, 1) := by decide +kernel
theorem dX10_judge_31 : decode cX10_judge 31 = .ok (.invokevirtual 332, 3) := by decide +kernel
theorem dX10_judge_34 : decode cX10_judge 34 = .ok (.if_icmp .ge 31, 3) := by decide +kernel
theorem dX10_judge_37 : decode cX10_judge 37 = .ok (.aload_n 0, 1) := by decide +kernel
theorem dX10_judge_38 : decode cX10_judge 38 = .ok (.getfield 16, 3) := by decide +kernel
theorem dX10_judge_41 : decode cX10_judge 41 = .ok (.bipush 60, 2) := by decide +kernel
theorem dX10_judge_43 : decode cX10_judge 43 = .ok (.iload_n 1, 1) := by decide +kernel
theorem dX10_judge_44 : decode cX10_judge 44 = .ok (.imul, 1) := by decide +kernel
theorem dX10_judge_45 : decode cX10_judge 45 = .ok (.iload_n 3, 1) := by decide +kernel
theorem dX10_judge_46 : decode cX10_judge 46 = .ok (.iadd, 1) := by decide +kernel
theorem dX10_judge_47 : decode cX10_judge 47 = .ok (.laload, 1) := by decide +kernel
theorem dX10_judge_48 : decode cX10_judge 48 = .ok (.aload_n 0, 1) := by decide +kernel
theorem dX10_judge_49 : decode cX10_judge 49 = .ok (.getfield 46, 3) := by decide +kernel
theorem dX10_judge_52 : decode cX10_judge 52 = .ok (.iload_n 3, 1) := by decide +kernel
theorem dX10_judge_53 : decode cX10_judge 53 = .ok (.iaload, 1) := by decide +kernel
theorem dX10_judge_54 : decode cX10_judge 54 = .ok (.i2l, 1) := by decide +kernel
theorem dX10_judge_55 : decode cX10_judge 55 = .ok (.lcmp, 1) := by decide +kernel
theorem dX10_judge_56 : decode cX10_judge 56 = .ok (.ifCond .ne 9, 3) := by decide +kernel
theorem dX10_judge_59 : decode cX10_judge 59 = .ok (.iinc 3 1, 3) := by decide +kernel
theorem dX10_judge_62 : decode cX10_judge 62 = .ok (.goto (-43), 3) := by decide +kernel
theorem dX10_judge_65 : decode cX10_judge 65 = .ok (.iload_n 3, 1) := by decide +kernel
theorem dX10_judge_66 : decode cX10_judge 66 = .ok (.ireturn, 1) := by decide +kernel
theorem dX10_count_0 : decode cX10_count 0 = .ok (.aload_n 0, 1) := by decide +kernel
theorem dX10_count_1 : decode cX10_count 1 = .ok (.iconst 0, 1) := by decide +kernel
theorem dX10_count_2 : decode cX10_count 2 = .ok (.putfield 95, 3) := by decide +kernel
theorem dX10_count_5 : decode cX10_count 5 = .ok (.iconst 0, 1) := by decide +kernel
theorem dX10_count_6 : decode cX10_count 6 = .ok (.istore_n 2, 1) := by decide +kernel
theorem dX10_count_7 : decode cX10_count 7 = .ok (.iload_n 1, 1) := by decide +kernel
theorem dX10_count_8 : decode cX10_count 8 = .ok (.tableswitch 151 0 9 #[56, 63, 70, 77, 84, 91, 98, 103, 110, 118], 56) := by decide +kernel
theorem dX10_count_64 : decode cX10_count 64 = .ok (.aload_n 0, 1) := by decide +kernel
theorem dX10_count_65 : decode cX10_count 65 = .ok (.getfield 34, 3) := by decide +kernel
theorem dX10_count_68 : decode cX10_count 68 = .ok (.iconst 0, 1) := by decide +kernel
theorem dX10_count_69 : decode cX10_count 69 = .ok (.iaload, 1) := by decide +kernel
theorem dX10_count_70 : decode cX10_count 70 = .ok (.ireturn, 1) := by decide +kernel
theorem dX10_count_71 : decode cX10_count 71 = .ok (.aload_n 0, 1) := by decide +kernel
theorem dX10_count_72 : decode cX10_count 72 = .ok (.getfield 34, 3) := by decide +kernel
theorem dX10_count_75 : decode cX10_count 75 = .ok (.iconst 1, 1) := by decide +kernel
theorem dX10_count_76 : decode cX10_count 76 = .ok (.iaload, 1) := by decide +kernel
theorem dX10_count_77 : decode cX10_count 77 = .ok (.ireturn, 1) := by decide +kernel
theorem dX10_count_78 : decode cX10_count 78 = .ok (.aload_n 0, 1) := by decide +kernel
theorem dX10_count_79 : decode cX10_count 79 = .ok (.getfield 34, 3) := by decide +kernel
theorem dX10_count_82 : decode cX10_count 82 = .ok (.iconst 2, 1) := by decide +kernel
theorem dX10_count_83 : decode cX10_count 83 = .ok (.iaload, 1) := by decide +kernel
theorem dX10_count_84 : decode cX10_count 84 = .ok (.ireturn, 1) := by decide +kernel
theorem dX10_count_85 : decode cX10_count 85 = .ok (.aload_n 0, 1) := by decide +kernel
theorem dX10_count_86 : decode cX10_count 86 = .ok (.getfield 34, 3) := by decide +kernel
theorem dX10_count_89 : decode cX10_count 89 = .ok (.iconst 3, 1) := by decide +kernel
theorem dX10_count_90 : decode cX10_count 90 = .ok (.iaload, 1) := by decide +kernel
theorem dX10_count_91 : decode cX10_count 91 = .ok (.ireturn, 1) := by decide +kernel
theorem dX10_count_92 : decode cX10_count 92 = .ok (.aload_n 0, 1) := by decide +kernel
theorem dX10_count_93 : decode cX10_count 93 = .ok (.getfield 34, 3) := by decide +kernel
theorem dX10_count_96 : decode cX10_count 96 = .ok (.iconst 4, 1) := by decide +kernel
theorem dX10_count_97 : decode cX10_count 97 = .ok (.iaload, 1) := by decide +kernel
theorem dX10_count_98 : decode cX10_count 98 = .ok (.ireturn, 1) := by decide +kernel
theorem dX10_count_99 : decode cX10_count 99 = .ok (.aload_n 0, 1) := by decide +kernel
theorem dX10_count_100 : decode cX10_count 100 = .ok (.getfield 31, 3) := by decide +kernel
theorem dX10_count_103 : decode cX10_count 103 = .ok (.iconst 0, 1) := by decide +kernel
theorem dX10_count_104 : decode cX10_count 104 = .ok (.iaload, 1) := by decide +kernel
theorem dX10_count_105 : decode cX10_count 105 = .ok (.ireturn, 1) := by decide +kernel
theorem dX10_count_106 : decode cX10_count 106 = .ok (.aload_n 0, 1) := by decide +kernel
theorem dX10_count_107 : decode cX10_count 107 = .ok (.getfield 112, 3) := by decide +kernel
theorem dX10_count_110 : decode cX10_count 110 = .ok (.ireturn, 1) := by decide +kernel
theorem dX10_count_111 : decode cX10_count 111 = .ok (.aload_n 0, 1) := by decide +kernel
theorem dX10_count_112 : decode cX10_count 112 = .ok (.getfield 34, 3) := by decide +kernel
theorem dX10_count_115 : decode cX10_count 115 = .ok (.iconst 5, 1) := by decide +kernel
theorem dX10_count_116 : decode cX10_count 116 = .ok (.iaload, 1) := by decide +kernel
theorem dX10_count_117 : decode cX10_count 117 = .ok (.ireturn, 1) := by decide +kernel
theorem dX10_count_118 : decode cX10_count 118 = .ok (.aload_n 0, 1) := by decide +kernel
theorem dX10_count_119 : decode cX10_count 119 = .ok (.getfield 34, 3) := by decide +kernel
theorem dX10_count_122 : decode cX10_count 122 = .ok (.bipush 6, 2) := by decide +kernel
theorem dX10_count_124 : decode cX10_count 124 = .ok (.iaload, 1) := by decide +kernel
theorem dX10_count_125 : decode cX10_count 125 = .ok (.ireturn, 1) := by decide +kernel
theorem dX10_count_126 : decode cX10_count 126 = .ok (.iconst 0, 1) := by decide +kernel
theorem dX10_count_127 : decode cX10_count 127 = .ok (.istore_n 3, 1) := by decide +kernel
theorem dX10_count_128 : decode cX10_count 128 = .ok (.iload_n 3, 1) := by decide +kernel
theorem dX10_count_129 : decode cX10_count 129 = .ok (.iconst 4, 1) := by decide +kernel
theorem dX10_count_130 : decode cX10_count 130 = .ok (.if_icmp .ge 27, 3) := by decide +kernel
theorem dX10_count_133 : decode cX10_count 133 = .ok (.iload_n 2, 1) := by decide +kernel
theorem dX10_count_134 : decode cX10_count 134 = .ok (.aload_n 0, 1) := by decide +kernel
theorem dX10_count_135 : decode cX10_count 135 = .ok (.getfield 7, 3) := by decide +kernel
theorem dX10_count_138 : decode cX10_count 138 = .ok (.iload_n 3, 1) := by decide +kernel
theorem dX10_count_139 : decode cX10_count 139 = .ok (.iaload, 1) := by decide +kernel
theorem dX10_count_140 : decode cX10_count 140 = .ok (.iconst (-1), 1) := by decide +kernel
theorem dX10_count_141 : decode cX10_count 141 = .ok (.if_icmp .ne 7, 3) := by decide +kernel
theorem dX10_count_144 : decode cX10_count 144 = .ok (.iconst 0, 1) := by decide +kernel
theorem dX10_count_145 : decode cX10_count 145 = .ok (.goto 4, 3) := by decide +kernel
theorem dX10_count_148 : decode cX10_count 148 = .ok (.iconst 1, 1) := by decide +kernel
theorem dX10_count_149 : decode cX10_count 149 = .ok (.iadd, 1) := by decide +kernel
theorem dX10_count_150 : decode cX10_count 150 = .ok (.istore_n 2, 1) := by decide +kernel
theorem dX10_count_151 : decode cX10_count 151 = .ok (.iinc 3 1, 3) := by decide +kernel
theorem dX10_count_154 : decode cX10_count 154 = .ok (.goto (-26), 3) := by decide +kernel
theorem dX10_count_157 : decode cX10_count 157 = .ok (.iload_n 2, 1) := by decide +kernel
theorem dX10_count_158 : decode cX10_count 158 = .ok (.ireturn, 1) := by decide +kernel
theorem dX10_count_159 : decode cX10_count 159 = .ok (.iconst (-1), 1) := by decide +kernel
theorem dX10_count_160 : decode cX10_count 160 = .ok (.ireturn, 1) := by decide +kernel
theorem dX10_keep_0 : decode cX10_keep 0 = .ok (.aload_n 0, 1) := by decide +kernel
theorem dX10_keep_1 : decode cX10_keep 1 = .ok (.iconst 0, 1) := by decide +kernel
theorem dX10_keep_2 : decode cX10_keep 2 = .ok (.putfield 95, 3) := by decide +kernel
theorem dX10_keep_5 : decode cX10_keep 5 = .ok (.iload_n 1, 1) := by decide +kernel
theorem dX10_keep_6 : decode cX10_keep 6 = .ok (.i2l, 1) := by decide +kernel
theorem dX10_keep_7 : decode cX10_keep 7 = .ok (.lconst 0, 1) := by decide +kernel
theorem dX10_keep_8 : decode cX10_keep 8 = .ok (.ldc2_w 359, 3) := by decide +kernel
theorem dX10_keep_11 : decode cX10_keep 11 = .ok (.invokestatic 100, 3) := by decide +kernel
theorem dX10_keep_14 : decode cX10_keep 14 = .ok (.ifCond .ne 6, 3) := by decide +kernel
theorem dX10_keep_17 : decode cX10_keep 17 = .ok (.bipush (-2), 2) := by decide +kernel
theorem dX10_keep_19 : decode cX10_keep 19 = .ok (.ireturn, 1) := by decide +kernel
theorem dX10_keep_20 : decode cX10_keep 20 = .ok (.aload_n 0, 1) := by decide +kernel
theorem dX10_keep_21 : decode cX10_keep 21 = .ok (.iconst 0, 1) := by decide +kernel
theorem dX10_keep_22 : decode cX10_keep 22 = .ok (.iconst 1, 1) := by decide +kernel
theorem dX10_keep_23 : decode cX10_keep 23 = .ok (.iload_n 1, 1) := by decide +kernel
theorem dX10_keep_24 : decode cX10_keep 24 = .ok (.iadd, 1) := by decide +kernel
theorem dX10_keep_25 : decode cX10_keep 25 = .ok (.invokevirtual 256, 3) := by decide +kernel
theorem dX10_keep_28 : decode cX10_keep 28 = .ok (.aload_n 0, 1) := by decide +kernel
theorem dX10_keep_29 : decode cX10_keep 29 = .ok (.getfield 49, 3) := by decide +kernel
theorem dX10_keep_32 : decode cX10_keep 32 = .ok (.iload_n 1, 1) := by decide +kernel
theorem dX10_keep_33 : decode cX10_keep 33 = .ok (.iconst 1, 1) := by decide +kernel
theorem dX10_keep_34 : decode cX10_keep 34 = .ok (.bastore, 1) := by decide +kernel
theorem dX10_keep_35 : decode cX10_keep 35 = .ok (.iconst 0, 1) := by decide +kernel
theorem dX10_keep_36 : decode cX10_keep 36 = .ok (.ireturn, 1) := by decide +kernel
theorem dX10_back_0 : decode cX10_back 0 = .ok (.aload_n 0, 1) := by decide +kernel
theorem dX10_back_1 : decode cX10_back 1 = .ok (.iconst 0, 1) := by decide +kernel
theorem dX10_back_2 : decode cX10_back 2 = .ok (.putfield 95, 3) := by decide +kernel
theorem dX10_back_5 : decode cX10_back 5 = .ok (.iload_n 1, 1) := by decide +kernel
theorem dX10_back_6 : decode cX10_back 6 = .ok (.i2l, 1) := by decide +kernel
theorem dX10_back_7 : decode cX10_back 7 = .ok (.lconst 0, 1) := by decide +kernel
theorem dX10_back_8 : decode cX10_back 8 = .ok (.ldc2_w 359, 3) := by decide +kernel
theorem dX10_back_11 : decode cX10_back 11 = .ok (.invokestatic 100, 3) := by decide +kernel
theorem dX10_back_14 : decode cX10_back 14 = .ok (.ifCond .ne 6, 3) := by decide +kernel
theorem dX10_back_17 : decode cX10_back 17 = .ok (.bipush (-2), 2) := by decide +kernel
theorem dX10_back_19 : decode cX10_back 19 = .ok (.ireturn, 1) := by decide +kernel
theorem dX10_back_20 : decode cX10_back 20 = .ok (.aload_n 0, 1) := by decide +kernel
theorem dX10_back_21 : decode cX10_back 21 = .ok (.getfield 49, 3) := by decide +kernel
theorem dX10_back_24 : decode cX10_back 24 = .ok (.iload_n 1, 1) := by decide +kernel
theorem dX10_back_25 : decode cX10_back 25 = .ok (.baload, 1) := by decide +kernel
theorem dX10_back_26 : decode cX10_back 26 = .ok (.ifCond .ne 6, 3) := by decide +kernel
theorem dX10_back_29 : decode cX10_back 29 = .ok (.bipush (-6), 2) := by decide +kernel
theorem dX10_back_31 : decode cX10_back 31 = .ok (.ireturn, 1) := by decide +kernel
theorem dX10_back_32 : decode cX10_back 32 = .ok (.aload_n 0, 1) := by decide +kernel
theorem dX10_back_33 : decode cX10_back 33 = .ok (.iconst 1, 1) := by decide +kernel
theorem dX10_back_34 : decode cX10_back 34 = .ok (.iload_n 1, 1) := by decide +kernel
theorem dX10_back_35 : decode cX10_back 35 = .ok (.iadd, 1) := by decide +kernel
theorem dX10_back_36 : decode cX10_back 36 = .ok (.iconst 0, 1) := by decide +kernel
theorem dX10_back_37 : decode cX10_back 37 = .ok (.invokevirtual 256, 3) := by decide +kernel
theorem dX10_back_40 : decode cX10_back 40 = .ok (.iconst 0, 1) := by decide +kernel
theorem dX10_back_41 : decode cX10_back 41 = .ok (.ireturn, 1) := by decide +kernel
