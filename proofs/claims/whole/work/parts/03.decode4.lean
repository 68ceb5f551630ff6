theorem dX12_marryOf_161 : decode cX12_marryOf 161 = .ok (.iconst (-1), 1) := by decide +kernel
theorem dX12_marryOf_162 : decode cX12_marryOf 162 = .ok (.istore 8, 2) := by decide +kernel
theorem dX12_marryOf_164 : decode cX12_marryOf 164 = .ok (.iload 8, 2) := by decide +kernel
theorem dX12_marryOf_166 : decode cX12_marryOf 166 = .ok (.iload 6, 2) := by decide +kernel
theorem dX12_marryOf_168 : decode cX12_marryOf 168 = .ok (.if_icmp .le 8, 3) := by decide +kernel
theorem dX12_marryOf_171 : decode cX12_marryOf 171 = .ok (.iload 8, 2) := by decide +kernel
theorem dX12_marryOf_173 : decode cX12_marryOf 173 = .ok (.goto 5, 3) := by decide +kernel
theorem dX12_marryOf_176 : decode cX12_marryOf 176 = .ok (.iload 6, 2) := by decide +kernel
theorem dX12_marryOf_178 : decode cX12_marryOf 178 = .ok (.istore 6, 2) := by decide +kernel
theorem dX12_marryOf_180 : decode cX12_marryOf 180 = .ok (.iinc 7 1, 3) := by decide +kernel
theorem dX12_marryOf_183 : decode cX12_marryOf 183 = .ok (.goto (-91), 3) := by decide +kernel
theorem dX12_marryOf_186 : decode cX12_marryOf 186 = .ok (.aload_n 0, 1) := by decide +kernel
theorem dX12_marryOf_187 : decode cX12_marryOf 187 = .ok (.getfield 31, 3) := by decide +kernel
theorem dX12_marryOf_190 : decode cX12_marryOf 190 = .ok (.iload_n 3, 1) := by decide +kernel
theorem dX12_marryOf_191 : decode cX12_marryOf 191 = .ok (.iload 6, 2) := by decide +kernel
theorem dX12_marryOf_193 : decode cX12_marryOf 193 = .ok (.iastore, 1) := by decide +kernel
theorem dX12_marryOf_194 : decode cX12_marryOf 194 = .ok (.iinc 3 1, 3) := by decide +kernel
theorem dX12_marryOf_197 : decode cX12_marryOf 197 = .ok (.goto (-154), 3) := by decide +kernel
theorem dX12_marryOf_200 : decode cX12_marryOf 200 = .ok (.aload_n 0, 1) := by decide +kernel
theorem dX12_marryOf_201 : decode cX12_marryOf 201 = .ok (.getfield 31, 3) := by decide +kernel
theorem dX12_marryOf_204 : decode cX12_marryOf 204 = .ok (.bipush 63, 2) := by decide +kernel
theorem dX12_marryOf_206 : decode cX12_marryOf 206 = .ok (.iaload, 1) := by decide +kernel
theorem dX12_marryOf_207 : decode cX12_marryOf 207 = .ok (.istore_n 3, 1) := by decide +kernel
theorem dX12_marryOf_208 : decode cX12_marryOf 208 = .ok (.iload_n 3, 1) := by decide +kernel
theorem dX12_marryOf_209 : decode cX12_marryOf 209 = .ok (.bipush 99, 2) := by decide +kernel
theorem dX12_marryOf_211 : decode cX12_marryOf 211 = .ok (.iadd, 1) := by decide +kernel
theorem dX12_marryOf_212 : decode cX12_marryOf 212 = .ok (.bipush 100, 2) := by decide +kernel
theorem dX12_marryOf_214 : decode cX12_marryOf 214 = .ok (.idiv, 1) := by decide +kernel
theorem dX12_marryOf_215 : decode cX12_marryOf 215 = .ok (.istore 4, 2) := by decide +kernel
theorem dX12_marryOf_217 : decode cX12_marryOf 217 = .ok (.iload_n 1, 1) := by decide +kernel
theorem dX12_marryOf_218 : decode cX12_marryOf 218 = .ok (.ifCond .ne 8, 3) := by decide +kernel
theorem dX12_marryOf_221 : decode cX12_marryOf 221 = .ok (.iload 4, 2) := by decide +kernel
theorem dX12_marryOf_223 : decode cX12_marryOf 223 = .ok (.goto 10, 3) := by decide +kernel
theorem dX12_marryOf_226 : decode cX12_marryOf 226 = .ok (.bipush 100, 2) := by decide +kernel
theorem dX12_marryOf_228 : decode cX12_marryOf 228 = .ok (.iload 4, 2) := by decide +kernel
theorem dX12_marryOf_230 : decode cX12_marryOf 230 = .ok (.imul, 1) := by decide +kernel
theorem dX12_marryOf_231 : decode cX12_marryOf 231 = .ok (.iload_n 3, 1) := by decide +kernel
theorem dX12_marryOf_232 : decode cX12_marryOf 232 = .ok (.isub, 1) := by decide +kernel
theorem dX12_marryOf_233 : decode cX12_marryOf 233 = .ok (.ireturn, 1) := by decide +kernel
theorem dX12_marry_0 : decode cX12_marry 0 = .ok (.iload_n 1, 1) := by decide +kernel
theorem dX12_marry_1 : decode cX12_marry 1 = .ok (.i2l, 1) := by decide +kernel
theorem dX12_marry_2 : decode cX12_marry 2 = .ok (.lconst 0, 1) := by decide +kernel
theorem dX12_marry_3 : decode cX12_marry 3 = .ok (.lconst 1, 1) := by decide +kernel
theorem dX12_marry_4 : decode cX12_marry 4 = .ok (.invokestatic 62, 3) := by decide +kernel
theorem dX12_marry_7 : decode cX12_marry 7 = .ok (.ifCond .ne 6, 3) := by decide +kernel
theorem dX12_marry_10 : decode cX12_marry 10 = .ok (.bipush (-102), 2) := by decide +kernel
theorem dX12_marry_12 : decode cX12_marry 12 = .ok (.ireturn, 1) := by decide +kernel
theorem dX12_marry_13 : decode cX12_marry 13 = .ok (.aload_n 0, 1) := by decide +kernel
theorem dX12_marry_14 : decode cX12_marry 14 = .ok (.invokevirtual 139, 3) := by decide +kernel
theorem dX12_marry_17 : decode cX12_marry 17 = .ok (.ifCond .eq 8, 3) := by decide +kernel
theorem dX12_marry_20 : decode cX12_marry 20 = .ok (.bipush (-103), 2) := by decide +kernel
theorem dX12_marry_22 : decode cX12_marry 22 = .ok (.goto 8, 3) := by decide +kernel
theorem dX12_marry_25 : decode cX12_marry 25 = .ok (.aload_n 0, 1) := by decide +kernel
theorem dX12_marry_26 : decode cX12_marry 26 = .ok (.iload_n 1, 1) := by decide +kernel
theorem dX12_marry_27 : decode cX12_marry 27 = .ok (.invokevirtual 201, 3) := by decide +kernel
theorem dX12_marry_30 : decode cX12_marry 30 = .ok (.ireturn, 1) := by decide +kernel
theorem dX12_wills_0 : decode cX12_wills 0 = .ok (.iload_n 2, 1) := by decide +kernel
theorem dX12_wills_1 : decode cX12_wills 1 = .ok (.invokestatic 103, 3) := by decide +kernel
theorem dX12_wills_4 : decode cX12_wills 4 = .ok (.ifCond .ne 6, 3) := by decide +kernel
theorem dX12_wills_7 : decode cX12_wills 7 = .ok (.bipush (-101), 2) := by decide +kernel
theorem dX12_wills_9 : decode cX12_wills 9 = .ok (.ireturn, 1) := by decide +kernel
theorem dX12_wills_10 : decode cX12_wills 10 = .ok (.iload_n 1, 1) := by decide +kernel
theorem dX12_wills_11 : decode cX12_wills 11 = .ok (.i2l, 1) := by decide +kernel
theorem dX12_wills_12 : decode cX12_wills 12 = .ok (.lconst 0, 1) := by decide +kernel
theorem dX12_wills_13 : decode cX12_wills 13 = .ok (.ldc2_w 204, 3) := by decide +kernel
theorem dX12_wills_16 : decode cX12_wills 16 = .ok (.invokestatic 62, 3) := by decide +kernel
theorem dX12_wills_19 : decode cX12_wills 19 = .ok (.ifCond .ne 6, 3) := by decide +kernel
theorem dX12_wills_22 : decode cX12_wills 22 = .ok (.bipush (-102), 2) := by decide +kernel
theorem dX12_wills_24 : decode cX12_wills 24 = .ok (.ireturn, 1) := by decide +kernel
theorem dX12_wills_25 : decode cX12_wills 25 = .ok (.aload_n 0, 1) := by decide +kernel
theorem dX12_wills_26 : decode cX12_wills 26 = .ok (.invokevirtual 139, 3) := by decide +kernel
theorem dX12_wills_29 : decode cX12_wills 29 = .ok (.ifCond .eq 6, 3) := by decide +kernel
theorem dX12_wills_32 : decode cX12_wills 32 = .ok (.bipush (-103), 2) := by decide +kernel
theorem dX12_wills_34 : decode cX12_wills 34 = .ok (.ireturn, 1) := by decide +kernel
theorem dX12_wills_35 : decode cX12_wills 35 = .ok (.aload_n 0, 1) := by decide +kernel
theorem dX12_wills_36 : decode cX12_wills 36 = .ok (.invokevirtual 192, 3) := by decide +kernel
theorem dX12_wills_39 : decode cX12_wills 39 = .ok (.iconst 0, 1) := by decide +kernel
theorem dX12_wills_40 : decode cX12_wills 40 = .ok (.istore_n 3, 1) := by decide +kernel
theorem dX12_wills_41 : decode cX12_wills 41 = .ok (.iload_n 3, 1) := by decide +kernel
theorem dX12_wills_42 : decode cX12_wills 42 = .ok (.bipush 6, 2) := by decide +kernel
theorem dX12_wills_44 : decode cX12_wills 44 = .ok (.if_icmp .ge 33, 3) := by decide +kernel
theorem dX12_wills_47 : decode cX12_wills 47 = .ok (.iload_n 1, 1) := by decide +kernel
theorem dX12_wills_48 : decode cX12_wills 48 = .ok (.iload_n 3, 1) := by decide +kernel
theorem dX12_wills_49 : decode cX12_wills 49 = .ok (.ishr, 1) := by decide +kernel
theorem dX12_wills_50 : decode cX12_wills 50 = .ok (.iconst 1, 1) := by decide +kernel
theorem dX12_wills_51 : decode cX12_wills 51 = .ok (.iand, 1) := by decide +kernel
theorem dX12_wills_52 : decode cX12_wills 52 = .ok (.iconst 1, 1) := by decide +kernel
theorem dX12_wills_53 : decode cX12_wills 53 = .ok (.if_icmp .ne 18, 3) := by decide +kernel
theorem dX12_wills_56 : decode cX12_wills 56 = .ok (.aload_n 0, 1) := by decide +kernel
theorem dX12_wills_57 : decode cX12_wills 57 = .ok (.iload_n 3, 1) := by decide +kernel
theorem dX12_wills_58 : decode cX12_wills 58 = .ok (.invokevirtual 143, 3) := by decide +kernel
theorem dX12_wills_61 : decode cX12_wills 61 = .ok (.ifCond .eq 10, 3) := by decide +kernel
theorem dX12_wills_64 : decode cX12_wills 64 = .ok (.aload_n 0, 1) := by decide +kernel
theorem dX12_wills_65 : decode cX12_wills 65 = .ok (.iload_n 3, 1) := by decide +kernel
theorem dX12_wills_66 : decode cX12_wills 66 = .ok (.invokevirtual 167, 3) := by decide +kernel
theorem dX12_wills_69 : decode cX12_wills 69 = .ok (.istore 4, 2) := by decide +kernel
theorem dX12_wills_71 : decode cX12_wills 71 = .ok (.iinc 3 1, 3) := by decide +kernel
theorem dX12_wills_74 : decode cX12_wills 74 = .ok (.goto (-33), 3) := by decide +kernel
theorem dX12_wills_77 : decode cX12_wills 77 = .ok (.iconst 0, 1) := by decide +kernel
theorem dX12_wills_78 : decode cX12_wills 78 = .ok (.istore_n 3, 1) := by decide +kernel
theorem dX12_wills_79 : decode cX12_wills 79 = .ok (.iconst 0, 1) := by decide +kernel
theorem dX12_wills_80 : decode cX12_wills 80 = .ok (.istore 4, 2) := by decide +kernel
theorem dX12_wills_82 : decode cX12_wills 82 = .ok (.iload 4, 2) := by decide +kernel
theorem dX12_wills_84 : decode cX12_wills 84 = .ok (.iconst 2, 1) := by decide +kernel
theorem dX12_wills_85 : decode cX12_wills 85 = .ok (.aload_n 0, 1) := by decide +kernel
theorem dX12_wills_86 : decode cX12_wills 86 = .ok (.getfield 91, 3) := by decide +kernel
theorem dX12_wills_89 : decode cX12_wills 89 = .ok (.imul, 1) := by decide +kernel
theorem dX12_wills_90 : decode cX12_wills 90 = .ok (.if_icmp .ge 47, 3) := by decide +kernel
theorem dX12_wills_93 : decode cX12_wills 93 = .ok (.iload_n 3, 1) := by decide +kernel
theorem dX12_wills_94 : decode cX12_wills 94 = .ok (.aload_n 0, 1) := by decide +kernel
theorem dX12_wills_95 : decode cX12_wills 95 = .ok (.iload 4, 2) := by decide +kernel
theorem dX12_wills_97 : decode cX12_wills 97 = .ok (.iconst 2, 1) := by decide +kernel
theorem dX12_wills_98 : decode cX12_wills 98 = .ok (.idiv, 1) := by decide +kernel
theorem dX12_wills_99 : decode cX12_wills 99 = .ok (.invokevirtual 113, 3) := by decide +kernel
theorem dX12_wills_102 : decode cX12_wills 102 = .ok (.ifCond .ne 26, 3) := by decide +kernel
theorem dX12_wills_105 : decode cX12_wills 105 = .ok (.aload_n 0, 1) := by decide +kernel
theorem dX12_wills_106 : decode cX12_wills 106 = .ok (.iload 4, 2) := by decide +kernel
theorem dX12_wills_108 : decode cX12_wills 108 = .ok (.iconst 2, 1) := by decide +kernel
theorem dX12_wills_109 : decode cX12_wills 109 = .ok (.idiv, 1) := by decide +kernel
theorem dX12_wills_110 : decode cX12_wills 110 = .ok (.iload 4, 2) := by decide +kernel
theorem dX12_wills_112 : decode cX12_wills 112 = .ok (.iconst 2, 1) := by decide +kernel
theorem dX12_wills_113 : decode cX12_wills 113 = .ok (.irem, 1) := by decide +kernel
theorem dX12_wills_114 : decode cX12_wills 114 = .ok (.invokevirtual 116, 3) := by decide +kernel
theorem dX12_wills_117 : decode cX12_wills 117 = .ok (.iload_n 2, 1) := by decide +kernel
theorem dX12_wills_118 : decode cX12_wills 118 = .ok (.if_icmp .ne 10, 3) := by decide +kernel
theorem dX12_wills_121 : decode cX12_wills 121 = .ok (.iconst 1, 1) := by decide +kernel
theorem dX12_wills_122 : decode cX12_wills 122 = .ok (.iload 4, 2) := by decide +kernel
theorem dX12_wills_124 : decode cX12_wills 124 = .ok (.ishl, 1) := by decide +kernel
theorem dX12_wills_125 : decode cX12_wills 125 = .ok (.goto 4, 3) := by decide +kernel
theorem dX12_wills_128 : decode cX12_wills 128 = .ok (.iconst 0, 1) := by decide +kernel
theorem dX12_wills_129 : decode cX12_wills 129 = .ok (.ior, 1) := by decide +kernel
theorem dX12_wills_130 : decode cX12_wills 130 = .ok (.istore_n 3, 1) := by decide +kernel
theorem dX12_wills_131 : decode cX12_wills 131 = .ok (.iinc 4 1, 3) := by decide +kernel
theorem dX12_wills_134 : decode cX12_wills 134 = .ok (.goto (-52), 3) := by decide +kernel
theorem dX12_wills_137 : decode cX12_wills 137 = .ok (.aload_n 0, 1) := by decide +kernel
theorem dX12_wills_138 : decode cX12_wills 138 = .ok (.invokevirtual 189, 3) := by decide +kernel
theorem dX12_wills_141 : decode cX12_wills 141 = .ok (.iload_n 3, 1) := by decide +kernel
theorem dX12_wills_142 : decode cX12_wills 142 = .ok (.ireturn, 1) := by decide +kernel
theorem dX12_term_0 : decode cX12_term 0 = .ok (.lload_n 0, 1) := by decide +kernel
theorem dX12_term_1 : decode cX12_term 1 = .ok (.lstore 5, 2) := by decide +kernel
theorem dX12_term_3 : decode cX12_term 3 = .ok (.lload_n 2, 1) := by decide +kernel
theorem dX12_term_4 : decode cX12_term 4 = .ok (.lstore 7, 2) := by decide +kernel
theorem dX12_term_6 : decode cX12_term 6 = .ok (.lload 5, 2) := by decide +kernel
theorem dX12_term_8 : decode cX12_term 8 = .ok (.lconst 0, 1) := by decide +kernel
theorem dX12_term_9 : decode cX12_term 9 = .ok (.lcmp, 1) := by decide +kernel
theorem dX12_term_10 : decode cX12_term 10 = .ok (.ifCond .eq 21, 3) := by decide +kernel
theorem dX12_term_13 : decode cX12_term 13 = .ok (.lload 7, 2) := by decide +kernel
theorem dX12_term_15 : decode cX12_term 15 = .ok (.lload 5, 2) := by decide +kernel
theorem dX12_term_17 : decode cX12_term 17 = .ok (.lrem, 1) := by decide +kernel
theorem dX12_term_18 : decode cX12_term 18 = .ok (.lstore 9, 2) := by decide +kernel
theorem dX12_term_20 : decode cX12_term 20 = .ok (.lload 5, 2) := by decide +kernel
theorem dX12_term_22 : decode cX12_term 22 = .ok (.lstore 7, 2) := by decide +kernel
theorem dX12_term_24 : decode cX12_term 24 = .ok (.lload 9, 2) := by decide +kernel
theorem dX12_term_26 : decode cX12_term 26 = .ok (.lstore 5, 2) := by decide +kernel
theorem dX12_term_28 : decode cX12_term 28 = .ok (.goto (-22), 3) := by decide +kernel
theorem dX12_term_31 : decode cX12_term 31 = .ok (.iload 4, 2) := by decide +kernel
theorem dX12_term_33 : decode cX12_term 33 = .ok (.ifCond .ne 10, 3) := by decide +kernel
theorem dX12_term_36 : decode cX12_term 36 = .ok (.lload_n 0, 1) := by decide +kernel
theorem dX12_term_37 : decode cX12_term 37 = .ok (.lload 7, 2) := by decide +kernel
theorem dX12_term_39 : decode cX12_term 39 = .ok (.ldiv, 1) := by decide +kernel
theorem dX12_term_40 : decode cX12_term 40 = .ok (.goto 7, 3) := by decide +kernel
theorem dX12_term_43 : decode cX12_term 43 = .ok (.lload_n 2, 1) := by decide +kernel
theorem dX12_term_44 : decode cX12_term 44 = .ok (.lload 7, 2) := by decide +kernel
theorem dX12_term_46 : decode cX12_term 46 = .ok (.ldiv, 1) := by decide +kernel
theorem dX12_term_47 : decode cX12_term 47 = .ok (.lreturn, 1) := by decide +kernel
theorem dX12_left_0 : decode cX12_left 0 = .ok (.iload_n 1, 1) := by decide +kernel
theorem dX12_left_1 : decode cX12_left 1 = .ok (.i2l, 1) := by decide +kernel
theorem dX12_left_2 : decode cX12_left 2 = .ok (.lconst 1, 1) := by decide +kernel
theorem dX12_left_3 : decode cX12_left 3 = .ok (.ldc2_w 206, 3) := by decide +kernel
theorem dX12_left_6 : decode cX12_left 6 = .ok (.invokestatic 62, 3) := by decide +kernel
theorem dX12_left_9 : decode cX12_left 9 = .ok (.ifCond .eq 25, 3) := by decide +kernel
theorem dX12_left_12 : decode cX12_left 12 = .ok (.iload_n 2, 1) := by decide +kernel
theorem dX12_left_13 : decode cX12_left 13 = .ok (.i2l, 1) := by decide +kernel
theorem dX12_left_14 : decode cX12_left 14 = .ok (.lconst 0, 1) := by decide +kernel
theorem dX12_left_15 : decode cX12_left 15 = .ok (.ldc2_w 208, 3) := by decide +kernel
theorem dX12_left_18 : decode cX12_left 18 = .ok (.invokestatic 62, 3) := by decide +kernel
theorem dX12_left_21 : decode cX12_left 21 = .ok (.ifCond .eq 13, 3) := by decide +kernel
theorem dX12_left_24 : decode cX12_left 24 = .ok (.iload_n 3, 1) := by decide +kernel
theorem dX12_left_25 : decode cX12_left 25 = .ok (.i2l, 1) := by decide +kernel
theorem dX12_left_26 : decode cX12_left 26 = .ok (.lconst 0, 1) := by decide +kernel
theorem dX12_left_27 : decode cX12_left 27 = .ok (.lconst 1, 1) := by decide +kernel
theorem dX12_left_28 : decode cX12_left 28 = .ok (.invokestatic 62, 3) := by decide +kernel
theorem dX12_left_31 : decode cX12_left 31 = .ok (.ifCond .ne 7, 3) := by decide +kernel
theorem dX12_left_34 : decode cX12_left 34 = .ok (.ldc2_w 210, 3) := by decide +kernel
theorem dX12_left_37 : decode cX12_left 37 = .ok (.lreturn, 1) := by decide +kernel
theorem dX12_left_38 : decode cX12_left 38 = .ok (.aload_n 0, 1) := by decide +kernel
theorem dX12_left_39 : decode cX12_left 39 = .ok (.invokevirtual 139, 3) := by decide +kernel
theorem dX12_left_42 : decode cX12_left 42 = .ok (.ifCond .eq 7, 3) := by decide +kernel
theorem dX12_left_45 : decode cX12_left 45 = .ok (.ldc2_w 212, 3) := by decide +kernel
theorem dX12_left_48 : decode cX12_left 48 = .ok (.lreturn, 1) := by decide +kernel
theorem dX12_left_49 : decode cX12_left 49 = .ok (.iconst 0, 1) := by decide +kernel
theorem dX12_left_50 : decode cX12_left 50 = .ok (.istore 4, 2) := by decide +kernel
theorem dX12_left_52 : decode cX12_left 52 = .ok (.iload 4, 2) := by decide +kernel
theorem dX12_left_54 : decode cX12_left 54 = .ok (.bipush 10, 2) := by decide +kernel
theorem dX12_left_56 : decode cX12_left 56 = .ok (.if_icmp .ge 26, 3) := by decide +kernel
theorem dX12_left_59 : decode cX12_left 59 = .ok (.aload_n 0, 1) := by decide +kernel
theorem dX12_left_60 : decode cX12_left 60 = .ok (.getfield 34, 3) := by decide +kernel
theorem dX12_left_63 : decode cX12_left 63 = .ok (.iload 4, 2) := by decide +kernel
theorem dX12_left_65 : decode cX12_left 65 = .ok (.iload 4, 2) := by decide +kernel
theorem dX12_left_67 : decode cX12_left 67 = .ok (.ifCond .ne 7, 3) := by decide +kernel
theorem dX12_left_70 : decode cX12_left 70 = .ok (.lconst 1, 1) := by decide +kernel
theorem dX12_left_71 : decode cX12_left 71 = .ok (.goto 4, 3) := by decide +kernel
theorem dX12_left_74 : decode cX12_left 74 = .ok (.lconst 0, 1) := by decide +kernel
theorem dX12_left_75 : decode cX12_left 75 = .ok (.lastore, 1) := by decide +kernel
theorem dX12_left_76 : decode cX12_left 76 = .ok (.iinc 4 1, 3) := by decide +kernel
theorem dX12_left_79 : decode cX12_left 79 = .ok (.goto (-27), 3) := by decide +kernel
theorem dX12_left_82 : decode cX12_left 82 = .ok (.lconst 1, 1) := by decide +kernel
theorem dX12_left_83 : decode cX12_left 83 = .ok (.lstore 4, 2) := by decide +kernel
theorem dX12_left_85 : decode cX12_left 85 = .ok (.iconst 0, 1) := by decide +kernel
theorem dX12_left_86 : decode cX12_left 86 = .ok (.istore 6, 2) := by decide +kernel
theorem dX12_left_88 : decode cX12_left 88 = .ok (.iload 6, 2) := by decide +kernel
theorem dX12_left_90 : decode cX12_left 90 = .ok (.aload_n 0, 1) := by decide +kernel
theorem dX12_left_91 : decode cX12_left 91 = .ok (.getfield 91, 3) := by decide +kernel
theorem dX12_left_94 : decode cX12_left 94 = .ok (.if_icmp .ge 134, 3) := by decide +kernel
theorem dX12_left_97 : decode cX12_left 97 = .ok (.aload_n 0, 1) := by decide +kernel
theorem dX12_left_98 : decode cX12_left 98 = .ok (.iload 6, 2) := by decide +kernel
theorem dX12_left_100 : decode cX12_left 100 = .ok (.invokevirtual 113, 3) := by decide +kernel
theorem dX12_left_103 : decode cX12_left 103 = .ok (.ifCond .ne 119, 3) := by decide +kernel
theorem dX12_left_106 : decode cX12_left 106 = .ok (.aload_n 0, 1) := by decide +kernel
theorem dX12_left_107 : decode cX12_left 107 = .ok (.getfield 16, 3) := by decide +kernel
theorem dX12_left_110 : decode cX12_left 110 = .ok (.bipush 7, 2) := by decide +kernel
theorem dX12_left_112 : decode cX12_left 112 = .ok (.iload 6, 2) := by decide +kernel
theorem dX12_left_114 : decode cX12_left 114 = .ok (.imul, 1) := by decide +kernel
theorem dX12_left_115 : decode cX12_left 115 = .ok (.iconst 1, 1) := by decide +kernel
theorem dX12_left_116 : decode cX12_left 116 = .ok (.iadd, 1) := by decide +kernel
theorem dX12_left_117 : decode cX12_left 117 = .ok (.iaload, 1) := by decide +kernel
theorem dX12_left_118 : decode cX12_left 118 = .ok (.i2l, 1) := by decide +kernel
theorem dX12_left_119 : decode cX12_left 119 = .ok (.lstore 7, 2) := by decide +kernel
theorem dX12_left_121 : decode cX12_left 121 = .ok (.iload_n 1, 1) := by decide +kernel
theorem dX12_left_122 : decode cX12_left 122 = .ok (.iconst 1, 1) := by decide +kernel
theorem dX12_left_123 : decode cX12_left 123 = .ok (.if_icmp .ne 8, 3) := by decide +kernel
theorem dX12_left_126 : decode cX12_left 126 = .ok (.lload 7, 2) := by decide +kernel
theorem dX12_left_128 : decode cX12_left 128 = .ok (.goto 8, 3) := by decide +kernel
theorem dX12_left_131 : decode cX12_left 131 = .ok (.lload 7, 2) := by decide +kernel
theorem dX12_left_133 : decode cX12_left 133 = .ok (.lload 7, 2) := by decide +kernel
theorem dX12_left_135 : decode cX12_left 135 = .ok (.lmul, 1) := by decide +kernel
theorem dX12_left_136 : decode cX12_left 136 = .ok (.lstore 9, 2) := by decide +kernel
theorem dX12_left_138 : decode cX12_left 138 = .ok (.iload_n 1, 1) := by decide +kernel
theorem dX12_left_139 : decode cX12_left 139 = .ok (.iconst 1, 1) := by decide +kernel
theorem dX12_left_140 : decode cX12_left 140 = .ok (.if_icmp .ne 9, 3) := by decide +kernel
theorem dX12_left_143 : decode cX12_left 143 = .ok (.ldc2_w 214, 3) := by decide +kernel
theorem dX12_left_146 : decode cX12_left 146 = .ok (.goto 6, 3) := by decide +kernel
theorem dX12_left_149 : decode cX12_left 149 = .ok (.ldc2_w 216, 3) := by decide +kernel
theorem dX12_left_152 : decode cX12_left 152 = .ok (.lstore 11, 2) := by decide +kernel
theorem dX12_left_154 : decode cX12_left 154 = .ok (.bipush 8, 2) := by decide +kernel
theorem dX12_left_156 : decode cX12_left 156 = .ok (.istore 13, 2) := by decide +kernel
theorem dX12_left_158 : decode cX12_left 158 = .ok (.iload 13, 2) := by decide +kernel
theorem dX12_left_160 : decode cX12_left 160 = .ok (.ifCond .lt 55, 3) := by decide +kernel
theorem dX12_left_163 : decode cX12_left 163 = .ok (.iload 13, 2) := by decide +kernel
theorem dX12_left_165 : decode cX12_left 165 = .ok (.ifCond .ne 7, 3) := by decide +kernel
theorem dX12_left_168 : decode cX12_left 168 = .ok (.lconst 0, 1) := by decide +kernel
theorem dX12_left_169 : decode cX12_left 169 = .ok (.goto 15, 3) := by decide +kernel
theorem dX12_left_172 : decode cX12_left 172 = .ok (.aload_n 0, 1) := by decide +kernel
theorem dX12_left_173 : decode cX12_left 173 = .ok (.getfield 34, 3) := by decide +kernel
theorem dX12_left_176 : decode cX12_left 176 = .ok (.iload 13, 2) := by decide +kernel
theorem dX12_left_178 : decode cX12_left 178 = .ok (.iconst 1, 1) := by decide +kernel
theorem dX12_left_179 : decode cX12_left 179 = .ok (.isub, 1) := by decide +kernel
theorem dX12_left_180 : decode cX12_left 180 = .ok (.laload, 1) := by decide +kernel
theorem dX12_left_181 : decode cX12_left 181 = .ok (.lload 9, 2) := by decide +kernel
theorem dX12_left_183 : decode cX12_left 183 = .ok (.lmul, 1) := by decide +kernel
theorem dX12_left_184 : decode cX12_left 184 = .ok (.lstore 14, 2) := by decide +kernel
theorem dX12_left_186 : decode cX12_left 186 = .ok (.aload_n 0, 1) := by decide +kernel
theorem dX12_left_187 : decode cX12_left 187 = .ok (.getfield 34, 3) := by decide +kernel
theorem dX12_left_190 : decode cX12_left 190 = .ok (.iload 13, 2) := by decide +kernel
theorem dX12_left_192 : decode cX12_left 192 = .ok (.aload_n 0, 1) := by decide +kernel
theorem dX12_left_193 : decode cX12_left 193 = .ok (.getfield 34, 3) := by decide +kernel
theorem dX12_left_196 : decode cX12_left 196 = .ok (.iload 13, 2) := by decide +kernel
theorem dX12_left_198 : decode cX12_left 198 = .ok (.laload, 1) := by decide +kernel
theorem dX12_left_199 : decode cX12_left 199 = .ok (.lload 11, 2) := by decide +kernel
theorem dX12_left_201 : decode cX12_left 201 = .ok (.lload 9, 2) := by decide +kernel
theorem dX12_left_203 : decode cX12_left 203 = .ok (.lsub, 1) := by decide +kernel
theorem dX12_left_204 : decode cX12_left 204 = .ok (.lmul, 1) := by decide +kernel
theorem dX12_left_205 : decode cX12_left 205 = .ok (.lload 14, 2) := by decide +kernel
theorem dX12_left_207 : decode cX12_left 207 = .ok (.ladd, 1) := by decide +kernel
theorem dX12_left_208 : decode cX12_left 208 = .ok (.lastore, 1) := by decide +kernel
theorem dX12_left_209 : decode cX12_left 209 = .ok (.iinc 13 (-1), 3) := by decide +kernel
theorem dX12_left_212 : decode cX12_left 212 = .ok (.goto (-54), 3) := by decide +kernel
theorem dX12_left_215 : decode cX12_left 215 = .ok (.lload 4, 2) := by decide +kernel
theorem dX12_left_217 : decode cX12_left 217 = .ok (.lload 11, 2) := by decide +kernel
theorem dX12_left_219 : decode cX12_left 219 = .ok (.lmul, 1) := by decide +kernel
theorem dX12_left_220 : decode cX12_left 220 = .ok (.lstore 4, 2) := by decide +kernel
theorem dX12_left_222 : decode cX12_left 222 = .ok (.iinc 6 1, 3) := by decide +kernel
theorem dX12_left_225 : decode cX12_left 225 = .ok (.goto (-137), 3) := by decide +kernel
theorem dX12_left_228 : decode cX12_left 228 = .ok (.aload_n 0, 1) := by decide +kernel
theorem dX12_left_229 : decode cX12_left 229 = .ok (.getfield 34, 3) := by decide +kernel
theorem dX12_left_232 : decode cX12_left 232 = .ok (.iload_n 2, 1) := by decide +kernel
theorem dX12_left_233 : decode cX12_left 233 = .ok (.laload, 1) := by decide +kernel
theorem dX12_left_234 : decode cX12_left 234 = .ok (.lload 4, 2) := by decide +kernel
theorem dX12_left_236 : decode cX12_left 236 = .ok (.iload_n 3, 1) := by decide +kernel
theorem dX12_left_237 : decode cX12_left 237 = .ok (.invokestatic 218, 3) := by decide +kernel
theorem dX12_left_240 : decode cX12_left 240 = .ok (.lreturn, 1) := by decide +kernel
theorem dX12_register_0 : decode cX12_register 0 = .ok (.iload_n 1, 1) := by decide +kernel
theorem dX12_register_1 : decode cX12_register 1 = .ok (.iload_n 2, 1) := by decide +kernel
theorem dX12_register_2 : decode cX12_register 2 = .ok (.invokestatic 173, 3) := by decide +kernel
theorem dX12_register_5 : decode cX12_register 5 = .ok (.ifCond .ne 6, 3) := by decide +kernel
theorem dX12_register_8 : decode cX12_register 8 = .ok (.bipush (-101), 2) := by decide +kernel
theorem dX12_register_10 : decode cX12_register 10 = .ok (.ireturn, 1) := by decide +kernel
theorem dX12_register_11 : decode cX12_register 11 = .ok (.aload_n 0, 1) := by decide +kernel
theorem dX12_register_12 : decode cX12_register 12 = .ok (.getfield 97, 3) := by decide +kernel
theorem dX12_register_15 : decode cX12_register 15 = .ok (.bipush 8, 2) := by decide +kernel
theorem dX12_register_17 : decode cX12_register 17 = .ok (.if_icmp .ne 6, 3) := by decide +kernel
theorem dX12_register_20 : decode cX12_register 20 = .ok (.bipush (-104), 2) := by decide +kernel
theorem dX12_register_22 : decode cX12_register 22 = .ok (.ireturn, 1) := by decide +kernel
theorem dX12_register_23 : decode cX12_register 23 = .ok (.aload_n 0, 1) := by decide +kernel
theorem dX12_register_24 : decode cX12_register 24 = .ok (.getfield 38, 3) := by decide +kernel
theorem dX12_register_27 : decode cX12_register 27 = .ok (.iconst 2, 1) := by decide +kernel
theorem dX12_register_28 : decode cX12_register 28 = .ok (.aload_n 0, 1) := by decide +kernel
theorem dX12_register_29 : decode cX12_register 29 = .ok (.getfield 97, 3) := by decide +kernel
theorem dX12_register_32 : decode cX12_register 32 = .ok (.imul, 1) := by decide +kernel
theorem dX12_register_33 : decode cX12_register 33 = .ok (.iload_n 1, 1) := by decide +kernel
theorem dX12_register_34 : decode cX12_register 34 = .ok (.iastore, 1) := by decide +kernel
theorem dX12_register_35 : decode cX12_register 35 = .ok (.aload_n 0, 1) := by decide +kernel
theorem dX12_register_36 : decode cX12_register 36 = .ok (.getfield 38, 3) := by decide +kernel
theorem dX12_register_39 : decode cX12_register 39 = .ok (.iconst 2, 1) := by decide +kernel
theorem dX12_register_40 : decode cX12_register 40 = .ok (.aload_n 0, 1) := by decide +kernel
theorem dX12_register_41 : decode cX12_register 41 = .ok (.getfield 97, 3) := by decide +kernel
theorem dX12_register_44 : decode cX12_register 44 = .ok (.imul, 1) := by decide +kernel
theorem dX12_register_45 : decode cX12_register 45 = .ok (.iconst 1, 1) := by decide +kernel
theorem dX12_register_46 : decode cX12_register 46 = .ok (.iadd, 1) := by decide +kernel
theorem dX12_register_47 : decode cX12_register 47 = .ok (.iload_n 2, 1) := by decide +kernel
theorem dX12_register_48 : decode cX12_register 48 = .ok (.iastore, 1) := by decide +kernel
theorem dX12_register_49 : decode cX12_register 49 = .ok (.aload_n 0, 1) := by decide +kernel
theorem dX12_register_50 : decode cX12_register 50 = .ok (.dup, 1) := by decide +kernel
theorem dX12_register_51 : decode cX12_register 51 = .ok (.getfield 97, 3) := by decide +kernel
theorem dX12_register_54 : decode cX12_register 54 = .ok (.iconst 1, 1) := by decide +kernel
theorem dX12_register_55 : decode cX12_register 55 = .ok (.iadd, 1) := by decide +kernel
theorem dX12_register_56 : decode cX12_register 56 = .ok (.putfield 97, 3) := by decide +kernel
theorem dX12_register_59 : decode cX12_register 59 = .ok (.aload_n 0, 1) := by decide +kernel
theorem dX12_register_60 : decode cX12_register 60 = .ok (.getfield 97, 3) := by decide +kernel
theorem dX12_register_63 : decode cX12_register 63 = .ok (.ireturn, 1) := by decide +kernel
theorem dX12_forget_0 : decode cX12_forget 0 = .ok (.aload_n 0, 1) := by decide +kernel
theorem dX12_forget_1 : decode cX12_forget 1 = .ok (.getfield 97, 3) := by decide +kernel
theorem dX12_forget_4 : decode cX12_forget 4 = .ok (.istore_n 1, 1) := by decide +kernel
theorem dX12_forget_5 : decode cX12_forget 5 = .ok (.aload_n 0, 1) := by decide +kernel
theorem dX12_forget_6 : decode cX12_forget 6 = .ok (.iconst 0, 1) := by decide +kernel
theorem dX12_forget_7 : decode cX12_forget 7 = .ok (.putfield 97, 3) := by decide +kernel
theorem dX12_forget_10 : decode cX12_forget 10 = .ok (.iload_n 1, 1) := by decide +kernel
theorem dX12_forget_11 : decode cX12_forget 11 = .ok (.ireturn, 1) := by decide +kernel
theorem dX12_isLapsedBy_0 : decode cX12_isLapsedBy 0 = .ok (.iconst 1, 1) := by decide +kernel
theorem dX12_isLapsedBy_1 : decode cX12_isLapsedBy 1 = .ok (.istore_n 3, 1) := by decide +kernel
theorem dX12_isLapsedBy_2 : decode cX12_isLapsedBy 2 = .ok (.iconst 0, 1) := by decide +kernel
theorem dX12_isLapsedBy_3 : decode cX12_isLapsedBy 3 = .ok (.istore 4, 2) := by decide +kernel
theorem dX12_isLapsedBy_5 : decode cX12_isLapsedBy 5 = .ok (.iload 4, 2) := by decide +kernel
theorem dX12_isLapsedBy_7 : decode cX12_isLapsedBy 7 = .ok (.aload_n 0, 1) := by decide +kernel
theorem dX12_isLapsedBy_8 : decode cX12_isLapsedBy 8 = .ok (.getfield 97, 3) := by decide +kernel
theorem dX12_isLapsedBy_11 : decode cX12_isLapsedBy 11 = .ok (.if_icmp .ge 78, 3) := by decide +kernel
theorem dX12_isLapsedBy_14 : decode cX12_isLapsedBy 14 = .ok (.aload_n 0, 1) := by decide +kernel
theorem dX12_isLapsedBy_15 : decode cX12_isLapsedBy 15 = .ok (.getfield 38, 3) := by decide +kernel
theorem dX12_isLapsedBy_18 : decode cX12_isLapsedBy 18 = .ok (.iconst 2, 1) := by decide +kernel
theorem dX12_isLapsedBy_19 : decode cX12_isLapsedBy 19 = .ok (.iload 4, 2) := by decide +kernel
theorem dX12_isLapsedBy_21 : decode cX12_isLapsedBy 21 = .ok (.imul, 1) := by decide +kernel
theorem dX12_isLapsedBy_22 : decode cX12_isLapsedBy 22 = .ok (.iaload, 1) := by decide +kernel
theorem dX12_isLapsedBy_23 : decode cX12_isLapsedBy 23 = .ok (.istore 5, 2) := by decide +kernel
theorem dX12_isLapsedBy_25 : decode cX12_isLapsedBy 25 = .ok (.aload_n 0, 1) := by decide +kernel
theorem dX12_isLapsedBy_26 : decode cX12_isLapsedBy 26 = .ok (.getfield 38, 3) := by decide +kernel
theorem dX12_isLapsedBy_29 : decode cX12_isLapsedBy 29 = .ok (.iconst 2, 1) := by decide +kernel
theorem dX12_isLapsedBy_30 : decode cX12_isLapsedBy 30 = .ok (.iload 4, 2) := by decide +kernel
theorem dX12_isLapsedBy_32 : decode cX12_isLapsedBy 32 = .ok (.imul, 1) := by decide +kernel
theorem dX12_isLapsedBy_33 : decode cX12_isLapsedBy 33 = .ok (.iconst 1, 1) := by decide +kernel
theorem dX12_isLapsedBy_34 : decode cX12_isLapsedBy 34 = .ok (.iadd, 1) := by decide +kernel
theorem dX12_isLapsedBy_35 : decode cX12_isLapsedBy 35 = .ok (.iaload, 1) := by decide +kernel
theorem dX12_isLapsedBy_36 : decode cX12_isLapsedBy 36 = .ok (.istore 6, 2) := by decide +kernel
theorem dX12_isLapsedBy_38 : decode cX12_isLapsedBy 38 = .ok (.iload_n 3, 1) := by decide +kernel
theorem dX12_isLapsedBy_39 : decode cX12_isLapsedBy 39 = .ok (.ifCond .eq 42, 3) := by decide +kernel
theorem dX12_isLapsedBy_42 : decode cX12_isLapsedBy 42 = .ok (.iload 5, 2) := by decide +kernel
theorem dX12_isLapsedBy_44 : decode cX12_isLapsedBy 44 = .ok (.iload_n 1, 1) := by decide +kernel
theorem dX12_isLapsedBy_45 : decode cX12_isLapsedBy 45 = .ok (.if_icmp .ne 9, 3) := by decide +kernel
theorem dX12_isLapsedBy_48 : decode cX12_isLapsedBy 48 = .ok (.iload 6, 2) := by decide +kernel
theorem dX12_isLapsedBy_50 : decode cX12_isLapsedBy 50 = .ok (.iload_n 2, 1) := by decide +kernel
theorem dX12_isLapsedBy_51 : decode cX12_isLapsedBy 51 = .ok (.if_icmp .eq 26, 3) := by decide +kernel
theorem dX12_isLapsedBy_54 : decode cX12_isLapsedBy 54 = .ok (.iload 5, 2) := by decide +kernel
theorem dX12_isLapsedBy_56 : decode cX12_isLapsedBy 56 = .ok (.iload_n 2, 1) := by decide +kernel
theorem dX12_isLapsedBy_57 : decode cX12_isLapsedBy 57 = .ok (.if_icmp .ne 9, 3) := by decide +kernel
theorem dX12_isLapsedBy_60 : decode cX12_isLapsedBy 60 = .ok (.iload 6, 2) := by decide +kernel
theorem dX12_isLapsedBy_62 : decode cX12_isLapsedBy 62 = .ok (.iload_n 1, 1) := by decide +kernel
theorem dX12_isLapsedBy_63 : decode cX12_isLapsedBy 63 = .ok (.if_icmp .eq 14, 3) := by decide +kernel
theorem dX12_isLapsedBy_66 : decode cX12_isLapsedBy 66 = .ok (.aload_n 0, 1) := by decide +kernel
theorem dX12_isLapsedBy_67 : decode cX12_isLapsedBy 67 = .ok (.iload 5, 2) := by decide +kernel
theorem dX12_isLapsedBy_69 : decode cX12_isLapsedBy 69 = .ok (.iload 6, 2) := by decide +kernel
theorem dX12_isLapsedBy_71 : decode cX12_isLapsedBy 71 = .ok (.invokevirtual 198, 3) := by decide +kernel
theorem dX12_isLapsedBy_74 : decode cX12_isLapsedBy 74 = .ok (.ifCond .le 7, 3) := by decide +kernel
theorem dX12_isLapsedBy_77 : decode cX12_isLapsedBy 77 = .ok (.iconst 1, 1) := by decide +kernel
theorem dX12_isLapsedBy_78 : decode cX12_isLapsedBy 78 = .ok (.goto 4, 3) := by decide +kernel
theorem dX12_isLapsedBy_81 : decode cX12_isLapsedBy 81 = .ok (.iconst 0, 1) := by decide +kernel
theorem dX12_isLapsedBy_82 : decode cX12_isLapsedBy 82 = .ok (.istore_n 3, 1) := by decide +kernel
theorem dX12_isLapsedBy_83 : decode cX12_isLapsedBy 83 = .ok (.iinc 4 1, 3) := by decide +kernel
theorem dX12_isLapsedBy_86 : decode cX12_isLapsedBy 86 = .ok (.goto (-81), 3) := by decide +kernel
theorem dX12_isLapsedBy_89 : decode cX12_isLapsedBy 89 = .ok (.iload_n 3, 1) := by decide +kernel
theorem dX12_isLapsedBy_90 : decode cX12_isLapsedBy 90 = .ok (.ireturn, 1) := by decide +kernel
theorem dX12_lapsedOf_0 : decode cX12_lapsedOf 0 = .ok (.iconst 0, 1) := by decide +kernel
theorem dX12_lapsedOf_1 : decode cX12_lapsedOf 1 = .ok (.istore_n 2, 1) := by decide +kernel
theorem dX12_lapsedOf_2 : decode cX12_lapsedOf 2 = .ok (.iconst (-1), 1) := by decide +kernel
theorem dX12_lapsedOf_3 : decode cX12_lapsedOf 3 = .ok (.istore_n 3, 1) := by decide +kernel
theorem dX12_lapsedOf_4 : decode cX12_lapsedOf 4 = .ok (.iconst 0, 1) := by decide +kernel
theorem dX12_lapsedOf_5 : decode cX12_lapsedOf 5 = .ok (.istore 4, 2) := by decide +kernel
theorem dX12_lapsedOf_7 : decode cX12_lapsedOf 7 = .ok (.iload 4, 2) := by decide +kernel
theorem dX12_lapsedOf_9 : decode cX12_lapsedOf 9 = .ok (.bipush 36, 2) := by decide +kernel
theorem dX12_lapsedOf_11 : decode cX12_lapsedOf 11 = .ok (.if_icmp .ge 71, 3) := by decide +kernel
theorem dX12_lapsedOf_14 : decode cX12_lapsedOf 14 = .ok (.iload 4, 2) := by decide +kernel
theorem dX12_lapsedOf_16 : decode cX12_lapsedOf 16 = .ok (.bipush 6, 2) := by decide +kernel
theorem dX12_lapsedOf_18 : decode cX12_lapsedOf 18 = .ok (.idiv, 1) := by decide +kernel
theorem dX12_lapsedOf_19 : decode cX12_lapsedOf 19 = .ok (.iload 4, 2) := by decide +kernel
theorem dX12_lapsedOf_21 : decode cX12_lapsedOf 21 = .ok (.bipush 6, 2) := by decide +kernel
theorem dX12_lapsedOf_23 : decode cX12_lapsedOf 23 = .ok (.irem, 1) := by decide +kernel
theorem dX12_lapsedOf_24 : decode cX12_lapsedOf 24 = .ok (.if_icmp .ge 24, 3) := by decide +kernel
theorem dX12_lapsedOf_27 : decode cX12_lapsedOf 27 = .ok (.aload_n 0, 1) := by decide +kernel
theorem dX12_lapsedOf_28 : decode cX12_lapsedOf 28 = .ok (.iload 4, 2) := by decide +kernel
theorem dX12_lapsedOf_30 : decode cX12_lapsedOf 30 = .ok (.bipush 6, 2) := by decide +kernel
theorem dX12_lapsedOf_32 : decode cX12_lapsedOf 32 = .ok (.idiv, 1) := by decide +kernel
theorem dX12_lapsedOf_33 : decode cX12_lapsedOf 33 = .ok (.iload 4, 2) := by decide +kernel
theorem dX12_lapsedOf_35 : decode cX12_lapsedOf 35 = .ok (.bipush 6, 2) := by decide +kernel
theorem dX12_lapsedOf_37 : decode cX12_lapsedOf 37 = .ok (.irem, 1) := by decide +kernel
theorem dX12_lapsedOf_38 : decode cX12_lapsedOf 38 = .ok (.invokevirtual 222, 3) := by decide +kernel
theorem dX12_lapsedOf_41 : decode cX12_lapsedOf 41 = .ok (.ifCond .eq 7, 3) := by decide +kernel
theorem dX12_lapsedOf_44 : decode cX12_lapsedOf 44 = .ok (.iconst 1, 1) := by decide +kernel
theorem dX12_lapsedOf_45 : decode cX12_lapsedOf 45 = .ok (.goto 4, 3) := by decide +kernel
theorem dX12_lapsedOf_48 : decode cX12_lapsedOf 48 = .ok (.iconst 0, 1) := by decide +kernel
theorem dX12_lapsedOf_49 : decode cX12_lapsedOf 49 = .ok (.istore 5, 2) := by decide +kernel
theorem dX12_lapsedOf_51 : decode cX12_lapsedOf 51 = .ok (.iload_n 2, 1) := by decide +kernel
theorem dX12_lapsedOf_52 : decode cX12_lapsedOf 52 = .ok (.iload 5, 2) := by decide +kernel
theorem dX12_lapsedOf_54 : decode cX12_lapsedOf 54 = .ok (.ifCond .eq 7, 3) := by decide +kernel
theorem dX12_lapsedOf_57 : decode cX12_lapsedOf 57 = .ok (.iconst 1, 1) := by decide +kernel
theorem dX12_lapsedOf_58 : decode cX12_lapsedOf 58 = .ok (.goto 4, 3) := by decide +kernel
theorem dX12_lapsedOf_61 : decode cX12_lapsedOf 61 = .ok (.iconst 0, 1) := by decide +kernel
theorem dX12_lapsedOf_62 : decode cX12_lapsedOf 62 = .ok (.iadd, 1) := by decide +kernel
theorem dX12_lapsedOf_63 : decode cX12_lapsedOf 63 = .ok (.istore_n 2, 1) := by decide +kernel
theorem dX12_lapsedOf_64 : decode cX12_lapsedOf 64 = .ok (.iload 5, 2) := by decide +kernel
theorem dX12_lapsedOf_66 : decode cX12_lapsedOf 66 = .ok (.ifCond .eq 8, 3) := by decide +kernel
theorem dX12_lapsedOf_69 : decode cX12_lapsedOf 69 = .ok (.iload 4, 2) := by decide +kernel
theorem dX12_lapsedOf_71 : decode cX12_lapsedOf 71 = .ok (.goto 4, 3) := by decide +kernel
theorem dX12_lapsedOf_74 : decode cX12_lapsedOf 74 = .ok (.iload_n 3, 1) := by decide +kernel
theorem dX12_lapsedOf_75 : decode cX12_lapsedOf 75 = .ok (.istore_n 3, 1) := by decide +kernel
theorem dX12_lapsedOf_76 : decode cX12_lapsedOf 76 = .ok (.iinc 4 1, 3) := by decide +kernel
theorem dX12_lapsedOf_79 : decode cX12_lapsedOf 79 = .ok (.goto (-72), 3) := by decide +kernel
theorem dX12_lapsedOf_82 : decode cX12_lapsedOf 82 = .ok (.iload_n 1, 1) := by decide +kernel
theorem dX12_lapsedOf_83 : decode cX12_lapsedOf 83 = .ok (.ifCond .ne 7, 3) := by decide +kernel
theorem dX12_lapsedOf_86 : decode cX12_lapsedOf 86 = .ok (.iload_n 2, 1) := by decide +kernel
theorem dX12_lapsedOf_87 : decode cX12_lapsedOf 87 = .ok (.goto 13, 3) := by decide +kernel
theorem dX12_lapsedOf_90 : decode cX12_lapsedOf 90 = .ok (.iload_n 2, 1) := by decide +kernel
theorem dX12_lapsedOf_91 : decode cX12_lapsedOf 91 = .ok (.iconst 1, 1) := by decide +kernel
theorem dX12_lapsedOf_92 : decode cX12_lapsedOf 92 = .ok (.if_icmp .ne 7, 3) := by decide +kernel
theorem dX12_lapsedOf_95 : decode cX12_lapsedOf 95 = .ok (.iload_n 3, 1) := by decide +kernel
theorem dX12_lapsedOf_96 : decode cX12_lapsedOf 96 = .ok (.goto 4, 3) := by decide +kernel
theorem dX12_lapsedOf_99 : decode cX12_lapsedOf 99 = .ok (.iconst (-1), 1) := by decide +kernel
theorem dX12_lapsedOf_100 : decode cX12_lapsedOf 100 = .ok (.ireturn, 1) := by decide +kernel
theorem dX12_lapsed_0 : decode cX12_lapsed 0 = .ok (.iload_n 1, 1) := by decide +kernel
theorem dX12_lapsed_1 : decode cX12_lapsed 1 = .ok (.i2l, 1) := by decide +kernel
theorem dX12_lapsed_2 : decode cX12_lapsed 2 = .ok (.lconst 0, 1) := by decide +kernel
theorem dX12_lapsed_3 : decode cX12_lapsed 3 = .ok (.lconst 1, 1) := by decide +kernel
theorem dX12_lapsed_4 : decode cX12_lapsed 4 = .ok (.invokestatic 62, 3) := by decide +kernel
theorem dX12_lapsed_7 : decode cX12_lapsed 7 = .ok (.ifCond .ne 6, 3) := by decide +kernel
theorem dX12_lapsed_10 : decode cX12_lapsed 10 = .ok (.bipush (-102), 2) := by decide +kernel
theorem dX12_lapsed_12 : decode cX12_lapsed 12 = .ok (.ireturn, 1) := by decide +kernel
theorem dX12_lapsed_13 : decode cX12_lapsed 13 = .ok (.aload_n 0, 1) := by decide +kernel
theorem dX12_lapsed_14 : decode cX12_lapsed 14 = .ok (.invokevirtual 139, 3) := by decide +kernel
theorem dX12_lapsed_17 : decode cX12_lapsed 17 = .ok (.ifCond .eq 8, 3) := by decide +kernel
theorem dX12_lapsed_20 : decode cX12_lapsed 20 = .ok (.bipush (-103), 2) := by decide +kernel
theorem dX12_lapsed_22 : decode cX12_lapsed 22 = .ok (.goto 8, 3) := by decide +kernel
theorem dX12_lapsed_25 : decode cX12_lapsed 25 = .ok (.aload_n 0, 1) := by decide +kernel
theorem dX12_lapsed_26 : decode cX12_lapsed 26 = .ok (.iload_n 1, 1) := by decide +kernel
theorem dX12_lapsed_27 : decode cX12_lapsed 27 = .ok (.invokevirtual 225, 3) := by decide +kernel
theorem dX12_lapsed_30 : decode cX12_lapsed 30 = .ok (.ireturn, 1) := by decide +kernel
theorem dX12_draw_0 : decode cX12_draw 0 = .ok (.aload_n 0, 1) := by decide +kernel
theorem dX12_draw_1 : decode cX12_draw 1 = .ok (.ldc2_w 228, 3) := by decide +kernel
theorem dX12_draw_4 : decode cX12_draw 4 = .ok (.aload_n 0, 1) := by decide +kernel
theorem dX12_draw_5 : decode cX12_draw 5 = .ok (.getfield 230, 3) := by decide +kernel
theorem dX12_draw_8 : decode cX12_draw 8 = .ok (.i2l, 1) := by decide +kernel
theorem dX12_draw_9 : decode cX12_draw 9 = .ok (.lmul, 1) := by decide +kernel
theorem dX12_draw_10 : decode cX12_draw 10 = .ok (.ldc2_w 233, 3) := by decide +kernel
theorem dX12_draw_13 : decode cX12_draw 13 = .ok (.ladd, 1) := by decide +kernel
theorem dX12_draw_14 : decode cX12_draw 14 = .ok (.ldc2_w 235, 3) := by decide +kernel
theorem dX12_draw_17 : decode cX12_draw 17 = .ok (.land, 1) := by decide +kernel
theorem dX12_draw_18 : decode cX12_draw 18 = .ok (.l2i, 1) := by decide +kernel
theorem dX12_draw_19 : decode cX12_draw 19 = .ok (.putfield 230, 3) := by decide +kernel
theorem dX12_draw_22 : decode cX12_draw 22 = .ok (.aload_n 0, 1) := by decide +kernel
theorem dX12_draw_23 : decode cX12_draw 23 = .ok (.getfield 230, 3) := by decide +kernel
theorem dX12_draw_26 : decode cX12_draw 26 = .ok (.ldc 237, 2) := by decide +kernel
theorem dX12_draw_28 : decode cX12_draw 28 = .ok (.idiv, 1) := by decide +kernel
theorem dX12_draw_29 : decode cX12_draw 29 = .ok (.iload_n 1, 1) := by decide +kernel
theorem dX12_draw_30 : decode cX12_draw 30 = .ok (.irem, 1) := by decide +kernel
theorem dX12_draw_31 : decode cX12_draw 31 = .ok (.ireturn, 1) := by decide +kernel
theorem dX12_aliveMany_0 : decode cX12_aliveMany 0 = .ok (.iconst 0, 1) := by decide +kernel
theorem dX12_aliveMany_1 : decode cX12_aliveMany 1 = .ok (.istore_n 1, 1) := by decide +kernel
theorem dX12_aliveMany_2 : decode cX12_aliveMany 2 = .ok (.iconst 0, 1) := by decide +kernel
theorem dX12_aliveMany_3 : decode cX12_aliveMany 3 = .ok (.istore_n 2, 1) := by decide +kernel
theorem dX12_aliveMany_4 : decode cX12_aliveMany 4 = .ok (.iload_n 2, 1) := by decide +kernel
theorem dX12_aliveMany_5 : decode cX12_aliveMany 5 = .ok (.bipush 6, 2) := by decide +kernel
theorem dX12_aliveMany_7 : decode cX12_aliveMany 7 = .ok (.if_icmp .ge 22, 3) := by decide +kernel
theorem dX12_aliveMany_10 : decode cX12_aliveMany 10 = .ok (.iload_n 1, 1) := by decide +kernel
theorem dX12_aliveMany_11 : decode cX12_aliveMany 11 = .ok (.aload_n 0, 1) := by decide +kernel
theorem dX12_aliveMany_12 : decode cX12_aliveMany 12 = .ok (.getfield 19, 3) := by decide +kernel
theorem dX12_aliveMany_15 : decode cX12_aliveMany 15 = .ok (.iconst 3, 1) := by decide +kernel
theorem dX12_aliveMany_16 : decode cX12_aliveMany 16 = .ok (.iload_n 2, 1) := by decide +kernel
theorem dX12_aliveMany_17 : decode cX12_aliveMany 17 = .ok (.imul, 1) := by decide +kernel
theorem dX12_aliveMany_18 : decode cX12_aliveMany 18 = .ok (.iconst 2, 1) := by decide +kernel
theorem dX12_aliveMany_19 : decode cX12_aliveMany 19 = .ok (.iadd, 1) := by decide +kernel
theorem dX12_aliveMany_20 : decode cX12_aliveMany 20 = .ok (.iaload, 1) := by decide +kernel
theorem dX12_aliveMany_21 : decode cX12_aliveMany 21 = .ok (.iadd, 1) := by decide +kernel
theorem dX12_aliveMany_22 : decode cX12_aliveMany 22 = .ok (.istore_n 1, 1) := by decide +kernel
theorem dX12_aliveMany_23 : decode cX12_aliveMany 23 = .ok (.iinc 2 1, 3) := by decide +kernel
theorem dX12_aliveMany_26 : decode cX12_aliveMany 26 = .ok (.goto (-22), 3) := by decide +kernel
theorem dX12_aliveMany_29 : decode cX12_aliveMany 29 = .ok (.iload_n 1, 1) := by decide +kernel
theorem dX12_aliveMany_30 : decode cX12_aliveMany 30 = .ok (.ireturn, 1) := by decide +kernel
theorem dX12_openMany_0 : decode cX12_openMany 0 = .ok (.iconst 0, 1) := by decide +kernel
theorem dX12_openMany_1 : decode cX12_openMany 1 = .ok (.istore_n 1, 1) := by decide +kernel
theorem dX12_openMany_2 : decode cX12_openMany 2 = .ok (.iconst 0, 1) := by decide +kernel
theorem dX12_openMany_3 : decode cX12_openMany 3 = .ok (.istore_n 2, 1) := by decide +kernel
theorem dX12_openMany_4 : decode cX12_openMany 4 = .ok (.iload_n 2, 1) := by decide +kernel
theorem dX12_openMany_5 : decode cX12_openMany 5 = .ok (.iconst 2, 1) := by decide +kernel
theorem dX12_openMany_6 : decode cX12_openMany 6 = .ok (.aload_n 0, 1) := by decide +kernel
theorem dX12_openMany_7 : decode cX12_openMany 7 = .ok (.getfield 91, 3) := by decide +kernel
theorem dX12_openMany_10 : decode cX12_openMany 10 = .ok (.imul, 1) := by decide +kernel
theorem dX12_openMany_11 : decode cX12_openMany 11 = .ok (.if_icmp .ge 41, 3) := by decide +kernel
theorem dX12_openMany_14 : decode cX12_openMany 14 = .ok (.iload_n 1, 1) := by decide +kernel
theorem dX12_openMany_15 : decode cX12_openMany 15 = .ok (.aload_n 0, 1) := by decide +kernel
theorem dX12_openMany_16 : decode cX12_openMany 16 = .ok (.iload_n 2, 1) := by decide +kernel
theorem dX12_openMany_17 : decode cX12_openMany 17 = .ok (.iconst 2, 1) := by decide +kernel
theorem dX12_openMany_18 : decode cX12_openMany 18 = .ok (.idiv, 1) := by decide +kernel
theorem dX12_openMany_19 : decode cX12_openMany 19 = .ok (.invokevirtual 113, 3) := by decide +kernel
theorem dX12_openMany_22 : decode cX12_openMany 22 = .ok (.ifCond .ne 21, 3) := by decide +kernel
theorem dX12_openMany_25 : decode cX12_openMany 25 = .ok (.aload_n 0, 1) := by decide +kernel
theorem dX12_openMany_26 : decode cX12_openMany 26 = .ok (.iload_n 2, 1) := by decide +kernel
theorem dX12_openMany_27 : decode cX12_openMany 27 = .ok (.iconst 2, 1) := by decide +kernel
theorem dX12_openMany_28 : decode cX12_openMany 28 = .ok (.idiv, 1) := by decide +kernel
theorem dX12_openMany_29 : decode cX12_openMany 29 = .ok (.iload_n 2, 1) := by decide +kernel
theorem dX12_openMany_30 : decode cX12_openMany 30 = .ok (.iconst 2, 1) := by decide +kernel
theorem dX12_openMany_31 : decode cX12_openMany 31 = .ok (.irem, 1) := by decide +kernel
theorem dX12_openMany_32 : decode cX12_openMany 32 = .ok (.invokevirtual 110, 3) := by decide +kernel
theorem dX12_openMany_35 : decode cX12_openMany 35 = .ok (.iconst (-1), 1) := by decide +kernel
theorem dX12_openMany_36 : decode cX12_openMany 36 = .ok (.if_icmp .ne 7, 3) := by decide +kernel
theorem dX12_openMany_39 : decode cX12_openMany 39 = .ok (.iconst 1, 1) := by decide +kernel
theorem dX12_openMany_40 : decode cX12_openMany 40 = .ok (.goto 4, 3) := by decide +kernel
theorem dX12_openMany_43 : decode cX12_openMany 43 = .ok (.iconst 0, 1) := by decide +kernel
theorem dX12_openMany_44 : decode cX12_openMany 44 = .ok (.iadd, 1) := by decide +kernel
theorem dX12_openMany_45 : decode cX12_openMany 45 = .ok (.istore_n 1, 1) := by decide +kernel
theorem dX12_openMany_46 : decode cX12_openMany 46 = .ok (.iinc 2 1, 3) := by decide +kernel
theorem dX12_openMany_49 : decode cX12_openMany 49 = .ok (.goto (-45), 3) := by decide +kernel
theorem dX12_openMany_52 : decode cX12_openMany 52 = .ok (.iload_n 1, 1) := by decide +kernel
theorem dX12_openMany_53 : decode cX12_openMany 53 = .ok (.ireturn, 1) := by decide +kernel
theorem dX12_years_0 : decode cX12_years 0 = .ok (.iload_n 1, 1) := by decide +kernel
theorem dX12_years_1 : decode cX12_years 1 = .ok (.i2l, 1) := by decide +kernel
theorem dX12_years_2 : decode cX12_years 2 = .ok (.lconst 1, 1) := by decide +kernel
theorem dX12_years_3 : decode cX12_years 3 = .ok (.ldc2_w 238, 3) := by decide +kernel
theorem dX12_years_6 : decode cX12_years 6 = .ok (.invokestatic 62, 3) := by decide +kernel
theorem dX12_years_9 : decode cX12_years 9 = .ok (.ifCond .eq 19, 3) := by decide +kernel
theorem dX12_years_12 : decode cX12_years 12 = .ok (.iload_n 2, 1) := by decide +kernel
theorem dX12_years_13 : decode cX12_years 13 = .ok (.ifCond .lt 15, 3) := by decide +kernel
theorem dX12_years_16 : decode cX12_years 16 = .ok (.iload_n 3, 1) := by decide +kernel
theorem dX12_years_17 : decode cX12_years 17 = .ok (.i2l, 1) := by decide +kernel
theorem dX12_years_18 : decode cX12_years 18 = .ok (.lconst 0, 1) := by decide +kernel
theorem dX12_years_19 : decode cX12_years 19 = .ok (.ldc2_w 240, 3) := by decide +kernel
theorem dX12_years_22 : decode cX12_years 22 = .ok (.invokestatic 62, 3) := by decide +kernel
theorem dX12_years_25 : decode cX12_years 25 = .ok (.ifCond .ne 6, 3) := by decide +kernel
theorem dX12_years_28 : decode cX12_years 28 = .ok (.bipush (-102), 2) := by decide +kernel
theorem dX12_years_30 : decode cX12_years 30 = .ok (.ireturn, 1) := by decide +kernel
theorem dX12_years_31 : decode cX12_years 31 = .ok (.aload_n 0, 1) := by decide +kernel
theorem dX12_years_32 : decode cX12_years 32 = .ok (.invokevirtual 139, 3) := by decide +kernel
theorem dX12_years_35 : decode cX12_years 35 = .ok (.ifCond .eq 6, 3) := by decide +kernel
theorem dX12_years_38 : decode cX12_years 38 = .ok (.bipush (-103), 2) := by decide +kernel
theorem dX12_years_40 : decode cX12_years 40 = .ok (.ireturn, 1) := by decide +kernel
theorem dX12_years_41 : decode cX12_years 41 = .ok (.aload_n 0, 1) := by decide +kernel
theorem dX12_years_42 : decode cX12_years 42 = .ok (.invokevirtual 192, 3) := by decide +kernel
theorem dX12_years_45 : decode cX12_years 45 = .ok (.aload_n 0, 1) := by decide +kernel
theorem dX12_years_46 : decode cX12_years 46 = .ok (.iload_n 2, 1) := by decide +kernel
theorem dX12_years_47 : decode cX12_years 47 = .ok (.putfield 230, 3) := by decide +kernel
theorem dX12_years_50 : decode cX12_years 50 = .ok (.iconst 0, 1) := by decide +kernel
theorem dX12_years_51 : decode cX12_years 51 = .ok (.istore 4, 2) := by decide +kernel
theorem dX12_years_53 : decode cX12_years 53 = .ok (.iload 4, 2) := by decide +kernel
theorem dX12_years_55 : decode cX12_years 55 = .ok (.iload_n 1, 1) := by decide +kernel
theorem dX12_years_56 : decode cX12_years 56 = .ok (.if_icmp .ge 98, 3) := by decide +kernel
theorem dX12_years_59 : decode cX12_years 59 = .ok (.aload_n 0, 1) := by decide +kernel
theorem dX12_years_60 : decode cX12_years 60 = .ok (.bipush 6, 2) := by decide +kernel
theorem dX12_years_62 : decode cX12_years 62 = .ok (.invokevirtual 242, 3) := by decide +kernel
theorem dX12_years_65 : decode cX12_years 65 = .ok (.istore 5, 2) := by decide +kernel
theorem dX12_years_67 : decode cX12_years 67 = .ok (.aload_n 0, 1) := by decide +kernel
theorem dX12_years_68 : decode cX12_years 68 = .ok (.aload_n 0, 1) := by decide +kernel
theorem dX12_years_69 : decode cX12_years 69 = .ok (.getfield 91, 3) := by decide +kernel
theorem dX12_years_72 : decode cX12_years 72 = .ok (.invokevirtual 242, 3) := by decide +kernel
theorem dX12_years_75 : decode cX12_years 75 = .ok (.istore 6, 2) := by decide +kernel
theorem dX12_years_77 : decode cX12_years 77 = .ok (.aload_n 0, 1) := by decide +kernel
theorem dX12_years_78 : decode cX12_years 78 = .ok (.iconst 2, 1) := by decide +kernel
theorem dX12_years_79 : decode cX12_years 79 = .ok (.invokevirtual 242, 3) := by decide +kernel
theorem dX12_years_82 : decode cX12_years 82 = .ok (.istore 7, 2) := by decide +kernel
theorem dX12_years_84 : decode cX12_years 84 = .ok (.aload_n 0, 1) := by decide +kernel
theorem dX12_years_85 : decode cX12_years 85 = .ok (.iload 5, 2) := by decide +kernel
theorem dX12_years_87 : decode cX12_years 87 = .ok (.iload 6, 2) := by decide +kernel
theorem dX12_years_89 : decode cX12_years 89 = .ok (.iload 7, 2) := by decide +kernel
theorem dX12_years_91 : decode cX12_years 91 = .ok (.invokevirtual 153, 3) := by decide +kernel
theorem dX12_years_94 : decode cX12_years 94 = .ok (.ifCond .eq 15, 3) := by decide +kernel
theorem dX12_years_97 : decode cX12_years 97 = .ok (.aload_n 0, 1) := by decide +kernel
theorem dX12_years_98 : decode cX12_years 98 = .ok (.iload 5, 2) := by decide +kernel
theorem dX12_years_100 : decode cX12_years 100 = .ok (.iload 6, 2) := by decide +kernel
theorem dX12_years_102 : decode cX12_years 102 = .ok (.iload 7, 2) := by decide +kernel
theorem dX12_years_104 : decode cX12_years 104 = .ok (.invokevirtual 157, 3) := by decide +kernel
theorem dX12_years_107 : decode cX12_years 107 = .ok (.istore 8, 2) := by decide +kernel
theorem dX12_years_109 : decode cX12_years 109 = .ok (.aload_n 0, 1) := by decide +kernel
theorem dX12_years_110 : decode cX12_years 110 = .ok (.bipush 6, 2) := by decide +kernel
theorem dX12_years_112 : decode cX12_years 112 = .ok (.invokevirtual 242, 3) := by decide +kernel
theorem dX12_years_115 : decode cX12_years 115 = .ok (.istore 8, 2) := by decide +kernel
theorem dX12_years_117 : decode cX12_years 117 = .ok (.aload_n 0, 1) := by decide +kernel
theorem dX12_years_118 : decode cX12_years 118 = .ok (.iload 8, 2) := by decide +kernel
theorem dX12_years_120 : decode cX12_years 120 = .ok (.invokevirtual 143, 3) := by decide +kernel
theorem dX12_years_123 : decode cX12_years 123 = .ok (.ifCond .eq 19, 3) := by decide +kernel
theorem dX12_years_126 : decode cX12_years 126 = .ok (.aload_n 0, 1) := by decide +kernel
theorem dX12_years_127 : decode cX12_years 127 = .ok (.iconst 4, 1) := by decide +kernel
theorem dX12_years_128 : decode cX12_years 128 = .ok (.invokevirtual 242, 3) := by decide +kernel
theorem dX12_years_131 : decode cX12_years 131 = .ok (.ifCond .ne 11, 3) := by decide +kernel
theorem dX12_years_134 : decode cX12_years 134 = .ok (.aload_n 0, 1) := by decide +kernel
theorem dX12_years_135 : decode cX12_years 135 = .ok (.iload 8, 2) := by decide +kernel
theorem dX12_years_137 : decode cX12_years 137 = .ok (.invokevirtual 167, 3) := by decide +kernel
theorem dX12_years_140 : decode cX12_years 140 = .ok (.istore 9, 2) := by decide +kernel
theorem dX12_years_142 : decode cX12_years 142 = .ok (.aload_n 0, 1) := by decide +kernel
theorem dX12_years_143 : decode cX12_years 143 = .ok (.invokevirtual 179, 3) := by decide +kernel
theorem dX12_years_146 : decode cX12_years 146 = .ok (.istore 9, 2) := by decide +kernel
theorem dX12_years_148 : decode cX12_years 148 = .ok (.iinc 4 1, 3) := by decide +kernel
theorem dX12_years_151 : decode cX12_years 151 = .ok (.goto (-98), 3) := by decide +kernel
theorem dX12_years_154 : decode cX12_years 154 = .ok (.iconst 0, 1) := by decide +kernel
theorem dX12_years_155 : decode cX12_years 155 = .ok (.istore 4, 2) := by decide +kernel
theorem dX12_years_157 : decode cX12_years 157 = .ok (.iconst 0, 1) := by decide +kernel
theorem dX12_years_158 : decode cX12_years 158 = .ok (.istore 5, 2) := by decide +kernel
theorem dX12_years_160 : decode cX12_years 160 = .ok (.iload 5, 2) := by decide +kernel
theorem dX12_years_162 : decode cX12_years 162 = .ok (.bipush 6, 2) := by decide +kernel
theorem dX12_years_164 : decode cX12_years 164 = .ok (.if_icmp .ge 23, 3) := by decide +kernel
theorem dX12_years_167 : decode cX12_years 167 = .ok (.iload 4, 2) := by decide +kernel
theorem dX12_years_169 : decode cX12_years 169 = .ok (.aload_n 0, 1) := by decide +kernel
theorem dX12_years_170 : decode cX12_years 170 = .ok (.getfield 19, 3) := by decide +kernel
theorem dX12_years_173 : decode cX12_years 173 = .ok (.iconst 3, 1) := by decide +kernel
theorem dX12_years_174 : decode cX12_years 174 = .ok (.iload 5, 2) := by decide +kernel
theorem dX12_years_176 : decode cX12_years 176 = .ok (.imul, 1) := by decide +kernel
theorem dX12_years_177 : decode cX12_years 177 = .ok (.iaload, 1) := by decide +kernel
theorem dX12_years_178 : decode cX12_years 178 = .ok (.iadd, 1) := by decide +kernel
theorem dX12_years_179 : decode cX12_years 179 = .ok (.istore 4, 2) := by decide +kernel
theorem dX12_years_181 : decode cX12_years 181 = .ok (.iinc 5 1, 3) := by decide +kernel
theorem dX12_years_184 : decode cX12_years 184 = .ok (.goto (-24), 3) := by decide +kernel
theorem dX12_years_187 : decode cX12_years 187 = .ok (.iload_n 3, 1) := by decide +kernel
theorem dX12_years_188 : decode cX12_years 188 = .ok (.ifCond .ne 10, 3) := by decide +kernel
theorem dX12_years_191 : decode cX12_years 191 = .ok (.aload_n 0, 1) := by decide +kernel
theorem dX12_years_192 : decode cX12_years 192 = .ok (.invokevirtual 245, 3) := by decide +kernel
theorem dX12_years_195 : decode cX12_years 195 = .ok (.goto 29, 3) := by decide +kernel
theorem dX12_years_198 : decode cX12_years 198 = .ok (.iload_n 3, 1) := by decide +kernel
theorem dX12_years_199 : decode cX12_years 199 = .ok (.iconst 1, 1) := by decide +kernel
theorem dX12_years_200 : decode cX12_years 200 = .ok (.if_icmp .ne 8, 3) := by decide +kernel
theorem dX12_years_203 : decode cX12_years 203 = .ok (.iload 4, 2) := by decide +kernel
theorem dX12_years_205 : decode cX12_years 205 = .ok (.goto 19, 3) := by decide +kernel
theorem dX12_years_208 : decode cX12_years 208 = .ok (.iload_n 3, 1) := by decide +kernel
theorem dX12_years_209 : decode cX12_years 209 = .ok (.iconst 2, 1) := by decide +kernel
theorem dX12_years_210 : decode cX12_years 210 = .ok (.if_icmp .ne 10, 3) := by decide +kernel
theorem dX12_years_213 : decode cX12_years 213 = .ok (.aload_n 0, 1) := by decide +kernel
theorem dX12_years_214 : decode cX12_years 214 = .ok (.invokevirtual 248, 3) := by decide +kernel
theorem dX12_years_217 : decode cX12_years 217 = .ok (.goto 7, 3) := by decide +kernel
theorem dX12_years_220 : decode cX12_years 220 = .ok (.aload_n 0, 1) := by decide +kernel
theorem dX12_years_221 : decode cX12_years 221 = .ok (.getfield 230, 3) := by decide +kernel
theorem dX12_years_224 : decode cX12_years 224 = .ok (.istore 5, 2) := by decide +kernel
theorem dX12_years_226 : decode cX12_years 226 = .ok (.aload_n 0, 1) := by decide +kernel
theorem dX12_years_227 : decode cX12_years 227 = .ok (.invokevirtual 189, 3) := by decide +kernel
theorem dX12_years_230 : decode cX12_years 230 = .ok (.iload 5, 2) := by decide +kernel
theorem dX12_years_232 : decode cX12_years 232 = .ok (.ireturn, 1) := by decide +kernel
theorem dX12_image_0 : decode cX12_image 0 = .ok (.aload_n 0, 1) := by decide +kernel
theorem dX12_image_1 : decode cX12_image 1 = .ok (.invokevirtual 139, 3) := by decide +kernel
theorem dX12_image_4 : decode cX12_image 4 = .ok (.ifCond .eq 6, 3) := by decide +kernel
theorem dX12_image_7 : decode cX12_image 7 = .ok (.bipush (-103), 2) := by decide +kernel
theorem dX12_image_9 : decode cX12_image 9 = .ok (.ireturn, 1) := by decide +kernel
theorem dX12_image_10 : decode cX12_image 10 = .ok (.aload_n 0, 1) := by decide +kernel
theorem dX12_image_11 : decode cX12_image 11 = .ok (.getfield 16, 3) := by decide +kernel
theorem dX12_image_14 : decode cX12_image 14 = .ok (.aload_n 0, 1) := by decide +kernel
theorem dX12_image_15 : decode cX12_image 15 = .ok (.getfield 41, 3) := by decide +kernel
theorem dX12_image_18 : decode cX12_image 18 = .ok (.invokestatic 182, 3) := by decide +kernel
theorem dX12_image_21 : decode cX12_image 21 = .ok (.aload_n 0, 1) := by decide +kernel
theorem dX12_image_22 : decode cX12_image 22 = .ok (.getfield 19, 3) := by decide +kernel
theorem dX12_image_25 : decode cX12_image 25 = .ok (.aload_n 0, 1) := by decide +kernel
theorem dX12_image_26 : decode cX12_image 26 = .ok (.getfield 44, 3) := by decide +kernel
theorem dX12_image_29 : decode cX12_image 29 = .ok (.invokestatic 182, 3) := by decide +kernel
theorem dX12_image_32 : decode cX12_image 32 = .ok (.aload_n 0, 1) := by decide +kernel
theorem dX12_image_33 : decode cX12_image 33 = .ok (.getfield 22, 3) := by decide +kernel
theorem dX12_image_36 : decode cX12_image 36 = .ok (.aload_n 0, 1) := by decide +kernel
theorem dX12_image_37 : decode cX12_image 37 = .ok (.getfield 47, 3) := by decide +kernel
theorem dX12_image_40 : decode cX12_image 40 = .ok (.invokestatic 182, 3) := by decide +kernel
theorem dX12_image_43 : decode cX12_image 43 = .ok (.aload_n 0, 1) := by decide +kernel
theorem dX12_image_44 : decode cX12_image 44 = .ok (.getfield 38, 3) := by decide +kernel
theorem dX12_image_47 : decode cX12_image 47 = .ok (.aload_n 0, 1) := by decide +kernel
theorem dX12_image_48 : decode cX12_image 48 = .ok (.getfield 50, 3) := by decide +kernel
theorem dX12_image_51 : decode cX12_image 51 = .ok (.invokestatic 182, 3) := by decide +kernel
theorem dX12_image_54 : decode cX12_image 54 = .ok (.aload_n 0, 1) := by decide +kernel
theorem dX12_image_55 : decode cX12_image 55 = .ok (.aload_n 0, 1) := by decide +kernel
theorem dX12_image_56 : decode cX12_image 56 = .ok (.getfield 94, 3) := by decide +kernel
theorem dX12_image_59 : decode cX12_image 59 = .ok (.putfield 251, 3) := by decide +kernel
theorem dX12_image_62 : decode cX12_image 62 = .ok (.aload_n 0, 1) := by decide +kernel
theorem dX12_image_63 : decode cX12_image 63 = .ok (.aload_n 0, 1) := by decide +kernel
theorem dX12_image_64 : decode cX12_image 64 = .ok (.getfield 97, 3) := by decide +kernel
theorem dX12_image_67 : decode cX12_image 67 = .ok (.putfield 254, 3) := by decide +kernel
theorem dX12_image_70 : decode cX12_image 70 = .ok (.aload_n 0, 1) := by decide +kernel
theorem dX12_image_71 : decode cX12_image 71 = .ok (.aload_n 0, 1) := by decide +kernel
theorem dX12_image_72 : decode cX12_image 72 = .ok (.getfield 100, 3) := by decide +kernel
theorem dX12_image_75 : decode cX12_image 75 = .ok (.putfield 53, 3) := by decide +kernel
theorem dX12_image_78 : decode cX12_image 78 = .ok (.aload_n 0, 1) := by decide +kernel
theorem dX12_image_79 : decode cX12_image 79 = .ok (.getfield 91, 3) := by decide +kernel
theorem dX12_image_82 : decode cX12_image 82 = .ok (.aload_n 0, 1) := by decide +kernel
theorem dX12_image_83 : decode cX12_image 83 = .ok (.invokevirtual 161, 3) := by decide +kernel
theorem dX12_image_86 : decode cX12_image 86 = .ok (.isub, 1) := by decide +kernel
theorem dX12_image_87 : decode cX12_image 87 = .ok (.ireturn, 1) := by decide +kernel
theorem dX12_restore_0 : decode cX12_restore 0 = .ok (.aload_n 0, 1) := by decide +kernel
theorem dX12_restore_1 : decode cX12_restore 1 = .ok (.getfield 53, 3) := by decide +kernel
theorem dX12_restore_4 : decode cX12_restore 4 = .ok (.aload_n 0, 1) := by decide +kernel
theorem dX12_restore_5 : decode cX12_restore 5 = .ok (.getfield 100, 3) := by decide +kernel
theorem dX12_restore_8 : decode cX12_restore 8 = .ok (.if_icmp .eq 6, 3) := by decide +kernel
theorem dX12_restore_11 : decode cX12_restore 11 = .ok (.bipush (-103), 2) := by decide +kernel
theorem dX12_restore_13 : decode cX12_restore 13 = .ok (.ireturn, 1) := by decide +kernel
theorem dX12_restore_14 : decode cX12_restore 14 = .ok (.aload_n 0, 1) := by decide +kernel
theorem dX12_restore_15 : decode cX12_restore 15 = .ok (.getfield 41, 3) := by decide +kernel
theorem dX12_restore_18 : decode cX12_restore 18 = .ok (.aload_n 0, 1) := by decide +kernel
theorem dX12_restore_19 : decode cX12_restore 19 = .ok (.getfield 16, 3) := by decide +kernel
theorem dX12_restore_22 : decode cX12_restore 22 = .ok (.invokestatic 182, 3) := by decide +kernel
theorem dX12_restore_25 : decode cX12_restore 25 = .ok (.aload_n 0, 1) := by decide +kernel
theorem dX12_restore_26 : decode cX12_restore 26 = .ok (.getfield 44, 3) := by decide +kernel
theorem dX12_restore_29 : decode cX12_restore 29 = .ok (.aload_n 0, 1) := by decide +kernel
theorem dX12_restore_30 : decode cX12_restore 30 = .ok (.getfield 19, 3) := by decide +kernel
theorem dX12_restore_33 : decode cX12_restore 33 = .ok (.invokestatic 182, 3) := by decide +kernel
theorem dX12_restore_36 : decode cX12_restore 36 = .ok (.aload_n 0, 1) := by decide +kernel
theorem dX12_restore_37 : decode cX12_restore 37 = .ok (.getfield 47, 3) := by decide +kernel
theorem dX12_restore_40 : decode cX12_restore 40 = .ok (.aload_n 0, 1) := by decide +kernel
theorem dX12_restore_41 : decode cX12_restore 41 = .ok (.getfield 22, 3) := by decide +kernel
theorem dX12_restore_44 : decode cX12_restore 44 = .ok (.invokestatic 182, 3) := by decide +kernel
theorem dX12_restore_47 : decode cX12_restore 47 = .ok (.aload_n 0, 1) := by decide +kernel
theorem dX12_restore_48 : decode cX12_restore 48 = .ok (.getfield 50, 3) := by decide +kernel
theorem dX12_restore_51 : decode cX12_restore 51 = .ok (.aload_n 0, 1) := by decide +kernel
theorem dX12_restore_52 : decode cX12_restore 52 = .ok (.getfield 38, 3) := by decide +kernel
theorem dX12_restore_55 : decode cX12_restore 55 = .ok (.invokestatic 182, 3) := by decide +kernel
theorem dX12_restore_58 : decode cX12_restore 58 = .ok (.aload_n 0, 1) := by decide +kernel
theorem dX12_restore_59 : decode cX12_restore 59 = .ok (.aload_n 0, 1) := by decide +kernel
theorem dX12_restore_60 : decode cX12_restore 60 = .ok (.getfield 251, 3) := by decide +kernel
theorem dX12_restore_63 : decode cX12_restore 63 = .ok (.putfield 94, 3) := by decide +kernel
theorem dX12_restore_66 : decode cX12_restore 66 = .ok (.aload_n 0, 1) := by decide +kernel
theorem dX12_restore_67 : decode cX12_restore 67 = .ok (.aload_n 0, 1) := by decide +kernel
theorem dX12_restore_68 : decode cX12_restore 68 = .ok (.getfield 254, 3) := by decide +kernel
theorem dX12_restore_71 : decode cX12_restore 71 = .ok (.putfield 97, 3) := by decide +kernel
theorem dX12_restore_74 : decode cX12_restore 74 = .ok (.aload_n 0, 1) := by decide +kernel
theorem dX12_restore_75 : decode cX12_restore 75 = .ok (.getfield 91, 3) := by decide +kernel
theorem dX12_restore_78 : decode cX12_restore 78 = .ok (.aload_n 0, 1) := by decide +kernel
theorem dX12_restore_79 : decode cX12_restore 79 = .ok (.invokevirtual 161, 3) := by decide +kernel
theorem dX12_restore_82 : decode cX12_restore 82 = .ok (.isub, 1) := by decide +kernel
theorem dX12_restore_83 : decode cX12_restore 83 = .ok (.ireturn, 1) := by decide +kernel
theorem dX12_lentMany_0 : decode cX12_lentMany 0 = .ok (.iconst 0, 1) := by decide +kernel
theorem dX12_lentMany_1 : decode cX12_lentMany 1 = .ok (.istore_n 1, 1) := by decide +kernel
theorem dX12_lentMany_2 : decode cX12_lentMany 2 = .ok (.iconst 0, 1) := by decide +kernel
theorem dX12_lentMany_3 : decode cX12_lentMany 3 = .ok (.istore_n 2, 1) := by decide +kernel
theorem dX12_lentMany_4 : decode cX12_lentMany 4 = .ok (.iload_n 2, 1) := by decide +kernel
theorem dX12_lentMany_5 : decode cX12_lentMany 5 = .ok (.iconst 2, 1) := by decide +kernel
theorem dX12_lentMany_6 : decode cX12_lentMany 6 = .ok (.aload_n 0, 1) := by decide +kernel
theorem dX12_lentMany_7 : decode cX12_lentMany 7 = .ok (.getfield 91, 3) := by decide +kernel
theorem dX12_lentMany_10 : decode cX12_lentMany 10 = .ok (.imul, 1) := by decide +kernel
theorem dX12_lentMany_11 : decode cX12_lentMany 11 = .ok (.if_icmp .ge 31, 3) := by decide +kernel
theorem dX12_lentMany_14 : decode cX12_lentMany 14 = .ok (.iload_n 1, 1) := by decide +kernel
theorem dX12_lentMany_15 : decode cX12_lentMany 15 = .ok (.aload_n 0, 1) := by decide +kernel
theorem dX12_lentMany_16 : decode cX12_lentMany 16 = .ok (.iload_n 2, 1) := by decide +kernel
theorem dX12_lentMany_17 : decode cX12_lentMany 17 = .ok (.iconst 2, 1) := by decide +kernel
theorem dX12_lentMany_18 : decode cX12_lentMany 18 = .ok (.idiv, 1) := by decide +kernel
theorem dX12_lentMany_19 : decode cX12_lentMany 19 = .ok (.iload_n 2, 1) := by decide +kernel
theorem dX12_lentMany_20 : decode cX12_lentMany 20 = .ok (.iconst 2, 1) := by decide +kernel
theorem dX12_lentMany_21 : decode cX12_lentMany 21 = .ok (.irem, 1) := by decide +kernel
theorem dX12_lentMany_22 : decode cX12_lentMany 22 = .ok (.invokevirtual 106, 3) := by decide +kernel
theorem dX12_lentMany_25 : decode cX12_lentMany 25 = .ok (.iconst (-1), 1) := by decide +kernel
theorem dX12_lentMany_26 : decode cX12_lentMany 26 = .ok (.if_icmp .ne 7, 3) := by decide +kernel
theorem dX12_lentMany_29 : decode cX12_lentMany 29 = .ok (.iconst 0, 1) := by decide +kernel
theorem dX12_lentMany_30 : decode cX12_lentMany 30 = .ok (.goto 4, 3) := by decide +kernel
theorem dX12_lentMany_33 : decode cX12_lentMany 33 = .ok (.iconst 1, 1) := by decide +kernel
theorem dX12_lentMany_34 : decode cX12_lentMany 34 = .ok (.iadd, 1) := by decide +kernel
theorem dX12_lentMany_35 : decode cX12_lentMany 35 = .ok (.istore_n 1, 1) := by decide +kernel
theorem dX12_lentMany_36 : decode cX12_lentMany 36 = .ok (.iinc 2 1, 3) := by decide +kernel
theorem dX12_lentMany_39 : decode cX12_lentMany 39 = .ok (.goto (-35), 3) := by decide +kernel
theorem dX12_lentMany_42 : decode cX12_lentMany 42 = .ok (.iload_n 1, 1) := by decide +kernel
theorem dX12_lentMany_43 : decode cX12_lentMany 43 = .ok (.ireturn, 1) := by decide +kernel
theorem dX12_countOf_0 : decode cX12_countOf 0 = .ok (.iload_n 1, 1) := by decide +kernel
theorem dX12_countOf_1 : decode cX12_countOf 1 = .ok (.tableswitch 96 0 8 #[51, 56, 61, 66, 71, 76, 81, 86, 91], 51) := by decide +kernel
theorem dX12_countOf_52 : decode cX12_countOf 52 = .ok (.aload_n 0, 1) := by decide +kernel
theorem dX12_countOf_53 : decode cX12_countOf 53 = .ok (.getfield 91, 3) := by decide +kernel
theorem dX12_countOf_56 : decode cX12_countOf 56 = .ok (.ireturn, 1) := by decide +kernel
theorem dX12_countOf_57 : decode cX12_countOf 57 = .ok (.aload_n 0, 1) := by decide +kernel
theorem dX12_countOf_58 : decode cX12_countOf 58 = .ok (.invokevirtual 161, 3) := by decide +kernel
theorem dX12_countOf_61 : decode cX12_countOf 61 = .ok (.ireturn, 1) := by decide +kernel
theorem dX12_countOf_62 : decode cX12_countOf 62 = .ok (.aload_n 0, 1) := by decide +kernel
theorem dX12_countOf_63 : decode cX12_countOf 63 = .ok (.invokevirtual 245, 3) := by decide +kernel
theorem dX12_countOf_66 : decode cX12_countOf 66 = .ok (.ireturn, 1) := by decide +kernel
theorem dX12_countOf_67 : decode cX12_countOf 67 = .ok (.aload_n 0, 1) := by decide +kernel
theorem dX12_countOf_68 : decode cX12_countOf 68 = .ok (.invokevirtual 248, 3) := by decide +kernel
theorem dX12_countOf_71 : decode cX12_countOf 71 = .ok (.ireturn, 1) := by decide +kernel
theorem dX12_countOf_72 : decode cX12_countOf 72 = .ok (.aload_n 0, 1) := by decide +kernel
theorem dX12_countOf_73 : decode cX12_countOf 73 = .ok (.invokevirtual 257, 3) := by decide +kernel
theorem dX12_countOf_76 : decode cX12_countOf 76 = .ok (.ireturn, 1) := by decide +kernel
theorem dX12_countOf_77 : decode cX12_countOf 77 = .ok (.aload_n 0, 1) := by decide +kernel
theorem dX12_countOf_78 : decode cX12_countOf 78 = .ok (.getfield 94, 3) := by decide +kernel
theorem dX12_countOf_81 : decode cX12_countOf 81 = .ok (.ireturn, 1) := by decide +kernel
theorem dX12_countOf_82 : decode cX12_countOf 82 = .ok (.aload_n 0, 1) := by decide +kernel
theorem dX12_countOf_83 : decode cX12_countOf 83 = .ok (.getfield 97, 3) := by decide +kernel
theorem dX12_countOf_86 : decode cX12_countOf 86 = .ok (.ireturn, 1) := by decide +kernel
theorem dX12_countOf_87 : decode cX12_countOf 87 = .ok (.aload_n 0, 1) := by decide +kernel
theorem dX12_countOf_88 : decode cX12_countOf 88 = .ok (.getfield 66, 3) := by decide +kernel
theorem dX12_countOf_91 : decode cX12_countOf 91 = .ok (.ireturn, 1) := by decide +kernel
theorem dX12_countOf_92 : decode cX12_countOf 92 = .ok (.aload_n 0, 1) := by decide +kernel
theorem dX12_countOf_93 : decode cX12_countOf 93 = .ok (.getfield 100, 3) := by decide +kernel
theorem dX12_countOf_96 : decode cX12_countOf 96 = .ok (.ireturn, 1) := by decide +kernel
theorem dX12_countOf_97 : decode cX12_countOf 97 = .ok (.bipush (-102), 2) := by decide +kernel
theorem dX12_countOf_99 : decode cX12_countOf 99 = .ok (.ireturn, 1) := by decide +kernel
theorem dX12_count_0 : decode cX12_count 0 = .ok (.aload_n 0, 1) := by decide +kernel
theorem dX12_count_1 : decode cX12_count 1 = .ok (.iload_n 1, 1) := by decide +kernel
theorem dX12_count_2 : decode cX12_count 2 = .ok (.invokevirtual 260, 3) := by decide +kernel
theorem dX12_count_5 : decode cX12_count 5 = .ok (.ireturn, 1) := by decide +kernel
theorem dX12_say_0 : decode cX12_say 0 = .ok (.aload_n 0, 1) := by decide +kernel
theorem dX12_say_1 : decode cX12_say 1 = .ok (.ldc2_w 263, 3) := by decide +kernel
theorem dX12_say_4 : decode cX12_say 4 = .ok (.aload_n 0, 1) := by decide +kernel
theorem dX12_say_5 : decode cX12_say 5 = .ok (.getfield 265, 3) := by decide +kernel
theorem dX12_say_8 : decode cX12_say 8 = .ok (.lmul, 1) := by decide +kernel
theorem dX12_say_9 : decode cX12_say 9 = .ok (.lload_n 1, 1) := by decide +kernel
theorem dX12_say_10 : decode cX12_say 10 = .ok (.ladd, 1) := by decide +kernel
theorem dX12_say_11 : decode cX12_say 11 = .ok (.putfield 265, 3) := by decide +kernel
theorem dX12_say_14 : decode cX12_say 14 = .ok (.return_, 1) := by decide +kernel
theorem dX12_digest_0 : decode cX12_digest 0 = .ok (.aload_n 0, 1) := by decide +kernel
theorem dX12_digest_1 : decode cX12_digest 1 = .ok (.ldc2_w 269, 3) := by decide +kernel
theorem dX12_digest_4 : decode cX12_digest 4 = .ok (.putfield 265, 3) := by decide +kernel
theorem dX12_digest_7 : decode cX12_digest 7 = .ok (.iconst 0, 1) := by decide +kernel
theorem dX12_digest_8 : decode cX12_digest 8 = .ok (.istore_n 1, 1) := by decide +kernel
theorem dX12_digest_9 : decode cX12_digest 9 = .ok (.iload_n 1, 1) := by decide +kernel
theorem dX12_digest_10 : decode cX12_digest 10 = .ok (.aload_n 0, 1) := by decide +kernel
theorem dX12_digest_11 : decode cX12_digest 11 = .ok (.getfield 91, 3) := by decide +kernel
theorem dX12_digest_14 : decode cX12_digest 14 = .ok (.if_icmp .ge 34, 3) := by decide +kernel
theorem dX12_digest_17 : decode cX12_digest 17 = .ok (.iconst 0, 1) := by decide +kernel
theorem dX12_digest_18 : decode cX12_digest 18 = .ok (.istore_n 2, 1) := by decide +kernel
theorem dX12_digest_19 : decode cX12_digest 19 = .ok (.iload_n 2, 1) := by decide +kernel
theorem dX12_digest_20 : decode cX12_digest 20 = .ok (.bipush 9, 2) := by decide +kernel
theorem dX12_digest_22 : decode cX12_digest 22 = .ok (.if_icmp .ge 20, 3) := by decide +kernel
theorem dX12_digest_25 : decode cX12_digest 25 = .ok (.aload_n 0, 1) := by decide +kernel
theorem dX12_digest_26 : decode cX12_digest 26 = .ok (.aload_n 0, 1) := by decide +kernel
theorem dX12_digest_27 : decode cX12_digest 27 = .ok (.iload_n 1, 1) := by decide +kernel
theorem dX12_digest_28 : decode cX12_digest 28 = .ok (.iload_n 2, 1) := by decide +kernel
theorem dX12_digest_29 : decode cX12_digest 29 = .ok (.invokevirtual 125, 3) := by decide +kernel
theorem dX12_digest_32 : decode cX12_digest 32 = .ok (.i2l, 1) := by decide +kernel
theorem dX12_digest_33 : decode cX12_digest 33 = .ok (.invokevirtual 271, 3) := by decide +kernel
theorem dX12_digest_36 : decode cX12_digest 36 = .ok (.iinc 2 1, 3) := by decide +kernel
theorem dX12_digest_39 : decode cX12_digest 39 = .ok (.goto (-20), 3) := by decide +kernel
theorem dX12_digest_42 : decode cX12_digest 42 = .ok (.iinc 1 1, 3) := by decide +kernel
theorem dX12_digest_45 : decode cX12_digest 45 = .ok (.goto (-36), 3) := by decide +kernel
theorem dX12_digest_48 : decode cX12_digest 48 = .ok (.iconst 0, 1) := by decide +kernel
theorem dX12_digest_49 : decode cX12_digest 49 = .ok (.istore_n 1, 1) := by decide +kernel
theorem dX12_digest_50 : decode cX12_digest 50 = .ok (.iload_n 1, 1) := by decide +kernel
theorem dX12_digest_51 : decode cX12_digest 51 = .ok (.bipush 6, 2) := by decide +kernel
theorem dX12_digest_53 : decode cX12_digest 53 = .ok (.if_icmp .ge 34, 3) := by decide +kernel
theorem dX12_digest_56 : decode cX12_digest 56 = .ok (.iconst 0, 1) := by decide +kernel
theorem dX12_digest_57 : decode cX12_digest 57 = .ok (.istore_n 2, 1) := by decide +kernel
theorem dX12_digest_58 : decode cX12_digest 58 = .ok (.iload_n 2, 1) := by decide +kernel
theorem dX12_digest_59 : decode cX12_digest 59 = .ok (.bipush 6, 2) := by decide +kernel
theorem dX12_digest_61 : decode cX12_digest 61 = .ok (.if_icmp .ge 20, 3) := by decide +kernel
theorem dX12_digest_64 : decode cX12_digest 64 = .ok (.aload_n 0, 1) := by decide +kernel
theorem dX12_digest_65 : decode cX12_digest 65 = .ok (.aload_n 0, 1) := by decide +kernel
theorem dX12_digest_66 : decode cX12_digest 66 = .ok (.iload_n 1, 1) := by decide +kernel
theorem dX12_digest_67 : decode cX12_digest 67 = .ok (.iload_n 2, 1) := by decide +kernel
theorem dX12_digest_68 : decode cX12_digest 68 = .ok (.invokevirtual 136, 3) := by decide +kernel
theorem dX12_digest_71 : decode cX12_digest 71 = .ok (.i2l, 1) := by decide +kernel
theorem dX12_digest_72 : decode cX12_digest 72 = .ok (.invokevirtual 271, 3) := by decide +kernel
theorem dX12_digest_75 : decode cX12_digest 75 = .ok (.iinc 2 1, 3) := by decide +kernel
theorem dX12_digest_78 : decode cX12_digest 78 = .ok (.goto (-20), 3) := by decide +kernel
theorem dX12_digest_81 : decode cX12_digest 81 = .ok (.iinc 1 1, 3) := by decide +kernel
theorem dX12_digest_84 : decode cX12_digest 84 = .ok (.goto (-34), 3) := by decide +kernel
theorem dX12_digest_87 : decode cX12_digest 87 = .ok (.iconst 0, 1) := by decide +kernel
theorem dX12_digest_88 : decode cX12_digest 88 = .ok (.istore_n 1, 1) := by decide +kernel
theorem dX12_digest_89 : decode cX12_digest 89 = .ok (.iload_n 1, 1) := by decide +kernel
theorem dX12_digest_90 : decode cX12_digest 90 = .ok (.bipush 36, 2) := by decide +kernel
theorem dX12_digest_92 : decode cX12_digest 92 = .ok (.if_icmp .ge 37, 3) := by decide +kernel
theorem dX12_digest_95 : decode cX12_digest 95 = .ok (.iload_n 1, 1) := by decide +kernel
theorem dX12_digest_96 : decode cX12_digest 96 = .ok (.bipush 6, 2) := by decide +kernel
theorem dX12_digest_98 : decode cX12_digest 98 = .ok (.idiv, 1) := by decide +kernel
theorem dX12_digest_99 : decode cX12_digest 99 = .ok (.iload_n 1, 1) := by decide +kernel
theorem dX12_digest_100 : decode cX12_digest 100 = .ok (.bipush 6, 2) := by decide +kernel
theorem dX12_digest_102 : decode cX12_digest 102 = .ok (.irem, 1) := by decide +kernel
theorem dX12_digest_103 : decode cX12_digest 103 = .ok (.if_icmp .eq 20, 3) := by decide +kernel
theorem dX12_digest_106 : decode cX12_digest 106 = .ok (.aload_n 0, 1) := by decide +kernel
theorem dX12_digest_107 : decode cX12_digest 107 = .ok (.aload_n 0, 1) := by decide +kernel
theorem dX12_digest_108 : decode cX12_digest 108 = .ok (.iload_n 1, 1) := by decide +kernel
theorem dX12_digest_109 : decode cX12_digest 109 = .ok (.bipush 6, 2) := by decide +kernel
theorem dX12_digest_111 : decode cX12_digest 111 = .ok (.idiv, 1) := by decide +kernel
theorem dX12_digest_112 : decode cX12_digest 112 = .ok (.iload_n 1, 1) := by decide +kernel
theorem dX12_digest_113 : decode cX12_digest 113 = .ok (.bipush 6, 2) := by decide +kernel
theorem dX12_digest_115 : decode cX12_digest 115 = .ok (.irem, 1) := by decide +kernel
theorem dX12_digest_116 : decode cX12_digest 116 = .ok (.invokevirtual 176, 3) := by decide +kernel
theorem dX12_digest_119 : decode cX12_digest 119 = .ok (.i2l, 1) := by decide +kernel
theorem dX12_digest_120 : decode cX12_digest 120 = .ok (.invokevirtual 271, 3) := by decide +kernel
theorem dX12_digest_123 : decode cX12_digest 123 = .ok (.iinc 1 1, 3) := by decide +kernel
theorem dX12_digest_126 : decode cX12_digest 126 = .ok (.goto (-37), 3) := by decide +kernel
theorem dX12_digest_129 : decode cX12_digest 129 = .ok (.aload_n 0, 1) := by decide +kernel
theorem dX12_digest_130 : decode cX12_digest 130 = .ok (.invokevirtual 139, 3) := by decide +kernel
theorem dX12_digest_133 : decode cX12_digest 133 = .ok (.ifCond .ne 43, 3) := by decide +kernel
theorem dX12_digest_136 : decode cX12_digest 136 = .ok (.aload_n 0, 1) := by decide +kernel
theorem dX12_digest_137 : decode cX12_digest 137 = .ok (.aload_n 0, 1) := by decide +kernel
theorem dX12_digest_138 : decode cX12_digest 138 = .ok (.iconst 0, 1) := by decide +kernel
theorem dX12_digest_139 : decode cX12_digest 139 = .ok (.invokevirtual 201, 3) := by decide +kernel
theorem dX12_digest_142 : decode cX12_digest 142 = .ok (.i2l, 1) := by decide +kernel
theorem dX12_digest_143 : decode cX12_digest 143 = .ok (.invokevirtual 271, 3) := by decide +kernel
theorem dX12_digest_146 : decode cX12_digest 146 = .ok (.aload_n 0, 1) := by decide +kernel
theorem dX12_digest_147 : decode cX12_digest 147 = .ok (.aload_n 0, 1) := by decide +kernel
theorem dX12_digest_148 : decode cX12_digest 148 = .ok (.iconst 1, 1) := by decide +kernel
theorem dX12_digest_149 : decode cX12_digest 149 = .ok (.invokevirtual 201, 3) := by decide +kernel
theorem dX12_digest_152 : decode cX12_digest 152 = .ok (.i2l, 1) := by decide +kernel
theorem dX12_digest_153 : decode cX12_digest 153 = .ok (.invokevirtual 271, 3) := by decide +kernel
theorem dX12_digest_156 : decode cX12_digest 156 = .ok (.aload_n 0, 1) := by decide +kernel
theorem dX12_digest_157 : decode cX12_digest 157 = .ok (.aload_n 0, 1) := by decide +kernel
theorem dX12_digest_158 : decode cX12_digest 158 = .ok (.iconst 0, 1) := by decide +kernel
theorem dX12_digest_159 : decode cX12_digest 159 = .ok (.invokevirtual 225, 3) := by decide +kernel
theorem dX12_digest_162 : decode cX12_digest 162 = .ok (.i2l, 1) := by decide +kernel
theorem dX12_digest_163 : decode cX12_digest 163 = .ok (.invokevirtual 271, 3) := by decide +kernel
theorem dX12_digest_166 : decode cX12_digest 166 = .ok (.aload_n 0, 1) := by decide +kernel
theorem dX12_digest_167 : decode cX12_digest 167 = .ok (.aload_n 0, 1) := by decide +kernel
theorem dX12_digest_168 : decode cX12_digest 168 = .ok (.iconst 1, 1) := by decide +kernel
theorem dX12_digest_169 : decode cX12_digest 169 = .ok (.invokevirtual 225, 3) := by decide +kernel
theorem dX12_digest_172 : decode cX12_digest 172 = .ok (.i2l, 1) := by decide +kernel
theorem dX12_digest_173 : decode cX12_digest 173 = .ok (.invokevirtual 271, 3) := by decide +kernel
theorem dX12_digest_176 : decode cX12_digest 176 = .ok (.iconst 0, 1) := by decide +kernel
theorem dX12_digest_177 : decode cX12_digest 177 = .ok (.istore_n 1, 1) := by decide +kernel
theorem dX12_digest_178 : decode cX12_digest 178 = .ok (.iload_n 1, 1) := by decide +kernel
theorem dX12_digest_179 : decode cX12_digest 179 = .ok (.aload_n 0, 1) := by decide +kernel
theorem dX12_digest_180 : decode cX12_digest 180 = .ok (.getfield 66, 3) := by decide +kernel
theorem dX12_digest_183 : decode cX12_digest 183 = .ok (.if_icmp .ge 20, 3) := by decide +kernel
theorem dX12_digest_186 : decode cX12_digest 186 = .ok (.aload_n 0, 1) := by decide +kernel
theorem dX12_digest_187 : decode cX12_digest 187 = .ok (.aload_n 0, 1) := by decide +kernel
theorem dX12_digest_188 : decode cX12_digest 188 = .ok (.getfield 7, 3) := by decide +kernel
theorem dX12_digest_191 : decode cX12_digest 191 = .ok (.iload_n 1, 1) := by decide +kernel
theorem dX12_digest_192 : decode cX12_digest 192 = .ok (.iaload, 1) := by decide +kernel
theorem dX12_digest_193 : decode cX12_digest 193 = .ok (.i2l, 1) := by decide +kernel
theorem dX12_digest_194 : decode cX12_digest 194 = .ok (.invokevirtual 271, 3) := by decide +kernel
theorem dX12_digest_197 : decode cX12_digest 197 = .ok (.iinc 1 1, 3) := by decide +kernel
theorem dX12_digest_200 : decode cX12_digest 200 = .ok (.goto (-22), 3) := by decide +kernel
theorem dX12_digest_203 : decode cX12_digest 203 = .ok (.iconst 0, 1) := by decide +kernel
theorem dX12_digest_204 : decode cX12_digest 204 = .ok (.istore_n 1, 1) := by decide +kernel
theorem dX12_digest_205 : decode cX12_digest 205 = .ok (.iload_n 1, 1) := by decide +kernel
theorem dX12_digest_206 : decode cX12_digest 206 = .ok (.bipush 9, 2) := by decide +kernel
theorem dX12_digest_208 : decode cX12_digest 208 = .ok (.if_icmp .ge 19, 3) := by decide +kernel
theorem dX12_digest_211 : decode cX12_digest 211 = .ok (.aload_n 0, 1) := by decide +kernel
theorem dX12_digest_212 : decode cX12_digest 212 = .ok (.aload_n 0, 1) := by decide +kernel
theorem dX12_digest_213 : decode cX12_digest 213 = .ok (.iload_n 1, 1) := by decide +kernel
theorem dX12_digest_214 : decode cX12_digest 214 = .ok (.invokevirtual 260, 3) := by decide +kernel
theorem dX12_digest_217 : decode cX12_digest 217 = .ok (.i2l, 1) := by decide +kernel
theorem dX12_digest_218 : decode cX12_digest 218 = .ok (.invokevirtual 271, 3) := by decide +kernel
theorem dX12_digest_221 : decode cX12_digest 221 = .ok (.iinc 1 1, 3) := by decide +kernel
theorem dX12_digest_224 : decode cX12_digest 224 = .ok (.goto (-19), 3) := by decide +kernel
theorem dX12_digest_227 : decode cX12_digest 227 = .ok (.aload_n 0, 1) := by decide +kernel
theorem dX12_digest_228 : decode cX12_digest 228 = .ok (.getfield 265, 3) := by decide +kernel
theorem dX12_digest_231 : decode cX12_digest 231 = .ok (.lreturn, 1) := by decide +kernel
theorem dJ6_bitCount_0f7a4_0 : decode cJ6_bitCount_0f7a4 0 = .ok (.iload_n 0, 1) := by decide +kernel
theorem dJ6_bitCount_0f7a4_1 : decode cJ6_bitCount_0f7a4 1 = .ok (.iload_n 0, 1) := by decide +kernel
theorem dJ6_bitCount_0f7a4_2 : decode cJ6_bitCount_0f7a4 2 = .ok (.iconst 1, 1) := by decide +kernel
theorem dJ6_bitCount_0f7a4_3 : decode cJ6_bitCount_0f7a4 3 = .ok (.iushr, 1) := by decide +kernel
theorem dJ6_bitCount_0f7a4_4 : decode cJ6_bitCount_0f7a4 4 = .ok (.ldc_w 265, 3) := by decide +kernel
theorem dJ6_bitCount_0f7a4_7 : decode cJ6_bitCount_0f7a4 7 = .ok (.iand, 1) := by decide +kernel
theorem dJ6_bitCount_0f7a4_8 : decode cJ6_bitCount_0f7a4 8 = .ok (.isub, 1) := by decide +kernel
theorem dJ6_bitCount_0f7a4_9 : decode cJ6_bitCount_0f7a4 9 = .ok (.istore_n 0, 1) := by decide +kernel
theorem dJ6_bitCount_0f7a4_10 : decode cJ6_bitCount_0f7a4 10 = .ok (.iload_n 0, 1) := by decide +kernel
theorem dJ6_bitCount_0f7a4_11 : decode cJ6_bitCount_0f7a4 11 = .ok (.ldc_w 266, 3) := by decide +kernel
theorem dJ6_bitCount_0f7a4_14 : decode cJ6_bitCount_0f7a4 14 = .ok (.iand, 1) := by decide +kernel
theorem dJ6_bitCount_0f7a4_15 : decode cJ6_bitCount_0f7a4 15 = .ok (.iload_n 0, 1) := by decide +kernel
theorem dJ6_bitCount_0f7a4_16 : decode cJ6_bitCount_0f7a4 16 = .ok (.iconst 2, 1) := by decide +kernel
theorem dJ6_bitCount_0f7a4_17 : decode cJ6_bitCount_0f7a4 17 = .ok (.iushr, 1) := by decide +kernel
theorem dJ6_bitCount_0f7a4_18 : decode cJ6_bitCount_0f7a4 18 = .ok (.ldc_w 266, 3) := by decide +kernel
theorem dJ6_bitCount_0f7a4_21 : decode cJ6_bitCount_0f7a4 21 = .ok (.iand, 1) := by decide +kernel
theorem dJ6_bitCount_0f7a4_22 : decode cJ6_bitCount_0f7a4 22 = .ok (.iadd, 1) := by decide +kernel
theorem dJ6_bitCount_0f7a4_23 : decode cJ6_bitCount_0f7a4 23 = .ok (.istore_n 0, 1) := by decide +kernel
theorem dJ6_bitCount_0f7a4_24 : decode cJ6_bitCount_0f7a4 24 = .ok (.iload_n 0, 1) := by decide +kernel
theorem dJ6_bitCount_0f7a4_25 : decode cJ6_bitCount_0f7a4 25 = .ok (.iload_n 0, 1) := by decide +kernel
theorem dJ6_bitCount_0f7a4_26 : decode cJ6_bitCount_0f7a4 26 = .ok (.iconst 4, 1) := by decide +kernel
theorem dJ6_bitCount_0f7a4_27 : decode cJ6_bitCount_0f7a4 27 = .ok (.iushr, 1) := by decide +kernel
theorem dJ6_bitCount_0f7a4_28 : decode cJ6_bitCount_0f7a4 28 = .ok (.iadd, 1) := by decide +kernel
theorem dJ6_bitCount_0f7a4_29 : decode cJ6_bitCount_0f7a4 29 = .ok (.ldc_w 267, 3) := by decide +kernel
theorem dJ6_bitCount_0f7a4_32 : decode cJ6_bitCount_0f7a4 32 = .ok (.iand, 1) := by decide +kernel
theorem dJ6_bitCount_0f7a4_33 : decode cJ6_bitCount_0f7a4 33 = .ok (.istore_n 0, 1) := by decide +kernel
theorem dJ6_bitCount_0f7a4_34 : decode cJ6_bitCount_0f7a4 34 = .ok (.iload_n 0, 1) := by decide +kernel
theorem dJ6_bitCount_0f7a4_35 : decode cJ6_bitCount_0f7a4 35 = .ok (.iload_n 0, 1) := by decide +kernel
theorem dJ6_bitCount_0f7a4_36 : decode cJ6_bitCount_0f7a4 36 = .ok (.bipush 8, 2) := by decide +kernel
theorem dJ6_bitCount_0f7a4_38 : decode cJ6_bitCount_0f7a4 38 = .ok (.iushr, 1) := by decide +kernel
theorem dJ6_bitCount_0f7a4_39 : decode cJ6_bitCount_0f7a4 39 = .ok (.iadd, 1) := by decide +kernel
theorem dJ6_bitCount_0f7a4_40 : decode cJ6_bitCount_0f7a4 40 = .ok (.istore_n 0, 1) := by decide +kernel
theorem dJ6_bitCount_0f7a4_41 : decode cJ6_bitCount_0f7a4 41 = .ok (.iload_n 0, 1) := by decide +kernel
theorem dJ6_bitCount_0f7a4_42 : decode cJ6_bitCount_0f7a4 42 = .ok (.iload_n 0, 1) := by decide +kernel
theorem dJ6_bitCount_0f7a4_43 : decode cJ6_bitCount_0f7a4 43 = .ok (.bipush 16, 2) := by decide +kernel
theorem dJ6_bitCount_0f7a4_45 : decode cJ6_bitCount_0f7a4 45 = .ok (.iushr, 1) := by decide +kernel
theorem dJ6_bitCount_0f7a4_46 : decode cJ6_bitCount_0f7a4 46 = .ok (.iadd, 1) := by decide +kernel
theorem dJ6_bitCount_0f7a4_47 : decode cJ6_bitCount_0f7a4 47 = .ok (.istore_n 0, 1) := by decide +kernel
theorem dJ6_bitCount_0f7a4_48 : decode cJ6_bitCount_0f7a4 48 = .ok (.iload_n 0, 1) := by decide +kernel
theorem dJ6_bitCount_0f7a4_49 : decode cJ6_bitCount_0f7a4 49 = .ok (.bipush 63, 2) := by decide +kernel
theorem dJ6_bitCount_0f7a4_51 : decode cJ6_bitCount_0f7a4 51 = .ok (.iand, 1) := by decide +kernel
theorem dJ6_bitCount_0f7a4_52 : decode cJ6_bitCount_0f7a4 52 = .ok (.ireturn, 1) := by decide +kernel
theorem dJ9_max_7cf53_0 : decode cJ9_max_7cf53 0 = .ok (.iload_n 0, 1) := by decide +kernel
theorem dJ9_max_7cf53_1 : decode cJ9_max_7cf53 1 = .ok (.iload_n 1, 1) := by decide +kernel
theorem dJ9_max_7cf53_2 : decode cJ9_max_7cf53 2 = .ok (.if_icmp .lt 7, 3) := by decide +kernel
theorem dJ9_max_7cf53_5 : decode cJ9_max_7cf53 5 = .ok (.iload_n 0, 1) := by decide +kernel
theorem dJ9_max_7cf53_6 : decode cJ9_max_7cf53 6 = .ok (.goto 4, 3) := by decide +kernel
theorem dJ9_max_7cf53_9 : decode cJ9_max_7cf53 9 = .ok (.iload_n 1, 1) := by decide +kernel
theorem dJ9_max_7cf53_10 : decode cJ9_max_7cf53 10 = .ok (.ireturn, 1) := by decide +kernel
theorem dJ9_min_7cf53_0 : decode cJ9_min_7cf53 0 = .ok (.iload_n 0, 1) := by decide +kernel
theorem dJ9_min_7cf53_1 : decode cJ9_min_7cf53 1 = .ok (.iload_n 1, 1) := by decide +kernel
theorem dJ9_min_7cf53_2 : decode cJ9_min_7cf53 2 = .ok (.if_icmp .gt 7, 3) := by decide +kernel
theorem dJ9_min_7cf53_5 : decode cJ9_min_7cf53 5 = .ok (.iload_n 0, 1) := by decide +kernel
theorem dJ9_min_7cf53_6 : decode cJ9_min_7cf53 6 = .ok (.goto 4, 3) := by decide +kernel
theorem dJ9_min_7cf53_9 : decode cJ9_min_7cf53 9 = .ok (.iload_n 1, 1) := by decide +kernel
theorem dJ9_min_7cf53_10 : decode cJ9_min_7cf53 10 = .ok (.ireturn, 1) := by decide +kernel
theorem dJ7_fill_d0a16_0 : decode cJ7_fill_d0a16 0 = .ok (.iconst 0, 1) := by decide +kernel
theorem dJ7_fill_d0a16_1 : decode cJ7_fill_d0a16 1 = .ok (.istore_n 3, 1) := by decide +kernel
theorem dJ7_fill_d0a16_2 : decode cJ7_fill_d0a16 2 = .ok (.aload_n 0, 1) := by decide +kernel
theorem dJ7_fill_d0a16_3 : decode cJ7_fill_d0a16 3 = .ok (.arraylength, 1) := by decide +kernel
theorem dJ7_fill_d0a16_4 : decode cJ7_fill_d0a16 4 = .ok (.istore 4, 2) := by decide +kernel
theorem dJ7_fill_d0a16_6 : decode cJ7_fill_d0a16 6 = .ok (.iload_n 3, 1) := by decide +kernel
theorem dJ7_fill_d0a16_7 : decode cJ7_fill_d0a16 7 = .ok (.iload 4, 2) := by decide +kernel
theorem dJ7_fill_d0a16_9 : decode cJ7_fill_d0a16 9 = .ok (.if_icmp .ge 13, 3) := by decide +kernel
theorem dJ7_fill_d0a16_12 : decode cJ7_fill_d0a16 12 = .ok (.aload_n 0, 1) := by decide +kernel
theorem dJ7_fill_d0a16_13 : decode cJ7_fill_d0a16 13 = .ok (.iload_n 3, 1) := by decide +kernel
theorem dJ7_fill_d0a16_14 : decode cJ7_fill_d0a16 14 = .ok (.lload_n 1, 1) := by decide +kernel
theorem dJ7_fill_d0a16_15 : decode cJ7_fill_d0a16 15 = .ok (.lastore, 1) := by decide +kernel
theorem dJ7_fill_d0a16_16 : decode cJ7_fill_d0a16 16 = .ok (.iinc 3 1, 3) := by decide +kernel
theorem dJ7_fill_d0a16_19 : decode cJ7_fill_d0a16 19 = .ok (.goto (-13), 3) := by decide +kernel
theorem dJ7_fill_d0a16_22 : decode cJ7_fill_d0a16 22 = .ok (.return_, 1) := by decide +kernel
theorem dL_law_0 : decode cL_law 0 = .ok (.new 7, 3) := by decide +kernel
theorem dL_law_3 : decode cL_law 3 = .ok (.dup, 1) := by decide +kernel
theorem dL_law_4 : decode cL_law 4 = .ok (.invokespecial 9, 3) := by decide +kernel
theorem dL_law_7 : decode cL_law 7 = .ok (.astore_n 1, 1) := by decide +kernel
theorem dL_law_8 : decode cL_law 8 = .ok (.new 10, 3) := by decide +kernel
theorem dL_law_11 : decode cL_law 11 = .ok (.dup, 1) := by decide +kernel
theorem dL_law_12 : decode cL_law 12 = .ok (.invokespecial 12, 3) := by decide +kernel
theorem dL_law_15 : decode cL_law 15 = .ok (.astore_n 2, 1) := by decide +kernel
theorem dL_law_16 : decode cL_law 16 = .ok (.iconst 0, 1) := by decide +kernel
theorem dL_law_17 : decode cL_law 17 = .ok (.istore_n 3, 1) := by decide +kernel
theorem dL_law_18 : decode cL_law 18 = .ok (.iload_n 3, 1) := by decide +kernel
theorem dL_law_19 : decode cL_law 19 = .ok (.aload_n 0, 1) := by decide +kernel
theorem dL_law_20 : decode cL_law 20 = .ok (.arraylength, 1) := by decide +kernel
theorem dL_law_21 : decode cL_law 21 = .ok (.iconst 4, 1) := by decide +kernel
theorem dL_law_22 : decode cL_law 22 = .ok (.isub, 1) := by decide +kernel
theorem dL_law_23 : decode cL_law 23 = .ok (.if_icmp .gt 862, 3) := by decide +kernel
theorem dL_law_26 : decode cL_law 26 = .ok (.aload_n 0, 1) := by decide +kernel
theorem dL_law_27 : decode cL_law 27 = .ok (.iload_n 3, 1) := by decide +kernel
theorem dL_law_28 : decode cL_law 28 = .ok (.iaload, 1) := by decide +kernel
theorem dL_law_29 : decode cL_law 29 = .ok (.bipush 31, 2) := by decide +kernel
theorem dL_law_31 : decode cL_law 31 = .ok (.iand, 1) := by decide +kernel
theorem dL_law_32 : decode cL_law 32 = .ok (.tableswitch 847 0 26 #[124, 147, 160, 173, 186, 219, 252, 285, 318, 361, 404, 427, 450, 483, 516, 529, 572, 595, 628, 672, 705, 718, 741, 784, 797, 810, 833], 124) := by decide +kernel
theorem dL_law_156 : decode cL_law 156 = .ok (.aload_n 1, 1) := by decide +kernel
theorem dL_law_157 : decode cL_law 157 = .ok (.aload_n 0, 1) := by decide +kernel
theorem dL_law_158 : decode cL_law 158 = .ok (.iload_n 3, 1) := by decide +kernel
theorem dL_law_159 : decode cL_law 159 = .ok (.iconst 1, 1) := by decide +kernel
theorem dL_law_160 : decode cL_law 160 = .ok (.iadd, 1) := by decide +kernel
theorem dL_law_161 : decode cL_law 161 = .ok (.iaload, 1) := by decide +kernel
theorem dL_law_162 : decode cL_law 162 = .ok (.invokevirtual 13, 3) := by decide +kernel
theorem dL_law_165 : decode cL_law 165 = .ok (.aload_n 2, 1) := by decide +kernel
theorem dL_law_166 : decode cL_law 166 = .ok (.aload_n 0, 1) := by decide +kernel
theorem dL_law_167 : decode cL_law 167 = .ok (.iload_n 3, 1) := by decide +kernel
theorem dL_law_168 : decode cL_law 168 = .ok (.iconst 1, 1) := by decide +kernel
theorem dL_law_169 : decode cL_law 169 = .ok (.iadd, 1) := by decide +kernel
theorem dL_law_170 : decode cL_law 170 = .ok (.iaload, 1) := by decide +kernel
theorem dL_law_171 : decode cL_law 171 = .ok (.invokevirtual 17, 3) := by decide +kernel
theorem dL_law_174 : decode cL_law 174 = .ok (.if_icmp .eq 705, 3) := by decide +kernel
theorem dL_law_177 : decode cL_law 177 = .ok (.iconst 0, 1) := by decide +kernel
theorem dL_law_178 : decode cL_law 178 = .ok (.ireturn, 1) := by decide +kernel
theorem dL_law_179 : decode cL_law 179 = .ok (.aload_n 1, 1) := by decide +kernel
theorem dL_law_180 : decode cL_law 180 = .ok (.invokevirtual 18, 3) := by decide +kernel
theorem dL_law_183 : decode cL_law 183 = .ok (.aload_n 2, 1) := by decide +kernel
theorem dL_law_184 : decode cL_law 184 = .ok (.invokevirtual 22, 3) := by decide +kernel
theorem dL_law_187 : decode cL_law 187 = .ok (.if_icmp .eq 692, 3) := by decide +kernel
theorem dL_law_190 : decode cL_law 190 = .ok (.iconst 0, 1) := by decide +kernel
theorem dL_law_191 : decode cL_law 191 = .ok (.ireturn, 1) := by decide +kernel
theorem dL_law_192 : decode cL_law 192 = .ok (.aload_n 1, 1) := by decide +kernel
theorem dL_law_193 : decode cL_law 193 = .ok (.invokevirtual 23, 3) := by decide +kernel
theorem dL_law_196 : decode cL_law 196 = .ok (.aload_n 2, 1) := by decide +kernel
theorem dL_law_197 : decode cL_law 197 = .ok (.invokevirtual 26, 3) := by decide +kernel
theorem dL_law_200 : decode cL_law 200 = .ok (.if_icmp .eq 679, 3) := by decide +kernel
theorem dL_law_203 : decode cL_law 203 = .ok (.iconst 0, 1) := by decide +kernel
theorem dL_law_204 : decode cL_law 204 = .ok (.ireturn, 1) := by decide +kernel
theorem dL_law_205 : decode cL_law 205 = .ok (.aload_n 1, 1) := by decide +kernel
theorem dL_law_206 : decode cL_law 206 = .ok (.invokevirtual 27, 3) := by decide +kernel
theorem dL_law_209 : decode cL_law 209 = .ok (.aload_n 2, 1) := by decide +kernel
theorem dL_law_210 : decode cL_law 210 = .ok (.invokevirtual 30, 3) := by decide +kernel
theorem dL_law_213 : decode cL_law 213 = .ok (.if_icmp .eq 666, 3) := by decide +kernel
theorem dL_law_216 : decode cL_law 216 = .ok (.iconst 0, 1) := by decide +kernel
theorem dL_law_217 : decode cL_law 217 = .ok (.ireturn, 1) := by decide +kernel
theorem dL_law_218 : decode cL_law 218 = .ok (.aload_n 1, 1) := by decide +kernel
theorem dL_law_219 : decode cL_law 219 = .ok (.aload_n 0, 1) := by decide +kernel
theorem dL_law_220 : decode cL_law 220 = .ok (.iload_n 3, 1) := by decide +kernel
theorem dL_law_221 : decode cL_law 221 = .ok (.iconst 1, 1) := by decide +kernel
theorem dL_law_222 : decode cL_law 222 = .ok (.iadd, 1) := by decide +kernel
theorem dL_law_223 : decode cL_law 223 = .ok (.iaload, 1) := by decide +kernel
theorem dL_law_224 : decode cL_law 224 = .ok (.aload_n 0, 1) := by decide +kernel
theorem dL_law_225 : decode cL_law 225 = .ok (.iload_n 3, 1) := by decide +kernel
theorem dL_law_226 : decode cL_law 226 = .ok (.iconst 2, 1) := by decide +kernel
theorem dL_law_227 : decode cL_law 227 = .ok (.iadd, 1) := by decide +kernel
theorem dL_law_228 : decode cL_law 228 = .ok (.iaload, 1) := by decide +kernel
theorem dL_law_229 : decode cL_law 229 = .ok (.invokevirtual 31, 3) := by decide +kernel
theorem dL_law_232 : decode cL_law 232 = .ok (.aload_n 2, 1) := by decide +kernel
theorem dL_law_233 : decode cL_law 233 = .ok (.aload_n 0, 1) := by decide +kernel
theorem dL_law_234 : decode cL_law 234 = .ok (.iload_n 3, 1) := by decide +kernel
theorem dL_law_235 : decode cL_law 235 = .ok (.iconst 1, 1) := by decide +kernel
theorem dL_law_236 : decode cL_law 236 = .ok (.iadd, 1) := by decide +kernel
theorem dL_law_237 : decode cL_law 237 = .ok (.iaload, 1) := by decide +kernel
theorem dL_law_238 : decode cL_law 238 = .ok (.aload_n 0, 1) := by decide +kernel
theorem dL_law_239 : decode cL_law 239 = .ok (.iload_n 3, 1) := by decide +kernel
theorem dL_law_240 : decode cL_law 240 = .ok (.iconst 2, 1) := by decide +kernel
theorem dL_law_241 : decode cL_law 241 = .ok (.iadd, 1) := by decide +kernel
theorem dL_law_242 : decode cL_law 242 = .ok (.iaload, 1) := by decide +kernel
theorem dL_law_243 : decode cL_law 243 = .ok (.invokevirtual 35, 3) := by decide +kernel
theorem dL_law_246 : decode cL_law 246 = .ok (.if_icmp .eq 633, 3) := by decide +kernel
theorem dL_law_249 : decode cL_law 249 = .ok (.iconst 0, 1) := by decide +kernel
theorem dL_law_250 : decode cL_law 250 = .ok (.ireturn, 1) := by decide +kernel
theorem dL_law_251 : decode cL_law 251 = .ok (.aload_n 1, 1) := by decide +kernel
theorem dL_law_252 : decode cL_law 252 = .ok (.aload_n 0, 1) := by decide +kernel
theorem dL_law_253 : decode cL_law 253 = .ok (.iload_n 3, 1) := by decide +kernel
theorem dL_law_254 : decode cL_law 254 = .ok (.iconst 1, 1) := by decide +kernel
theorem dL_law_255 : decode cL_law 255 = .ok (.iadd, 1) := by decide +kernel
theorem dL_law_256 : decode cL_law 256 = .ok (.iaload, 1) := by decide +kernel
theorem dL_law_257 : decode cL_law 257 = .ok (.aload_n 0, 1) := by decide +kernel
theorem dL_law_258 : decode cL_law 258 = .ok (.iload_n 3, 1) := by decide +kernel
theorem dL_law_259 : decode cL_law 259 = .ok (.iconst 2, 1) := by decide +kernel
theorem dL_law_260 : decode cL_law 260 = .ok (.iadd, 1) := by decide +kernel
theorem dL_law_261 : decode cL_law 261 = .ok (.iaload, 1) := by decide +kernel
theorem dL_law_262 : decode cL_law 262 = .ok (.invokevirtual 36, 3) := by decide +kernel
theorem dL_law_265 : decode cL_law 265 = .ok (.aload_n 2, 1) := by decide +kernel
theorem dL_law_266 : decode cL_law 266 = .ok (.aload_n 0, 1) := by decide +kernel
theorem dL_law_267 : decode cL_law 267 = .ok (.iload_n 3, 1) := by decide +kernel
theorem dL_law_268 : decode cL_law 268 = .ok (.iconst 1, 1) := by decide +kernel
theorem dL_law_269 : decode cL_law 269 = .ok (.iadd, 1) := by decide +kernel
theorem dL_law_270 : decode cL_law 270 = .ok (.iaload, 1) := by decide +kernel
theorem dL_law_271 : decode cL_law 271 = .ok (.aload_n 0, 1) := by decide +kernel
theorem dL_law_272 : decode cL_law 272 = .ok (.iload_n 3, 1) := by decide +kernel
theorem dL_law_273 : decode cL_law 273 = .ok (.iconst 2, 1) := by decide +kernel
theorem dL_law_274 : decode cL_law 274 = .ok (.iadd, 1) := by decide +kernel
theorem dL_law_275 : decode cL_law 275 = .ok (.iaload, 1) := by decide +kernel
theorem dL_law_276 : decode cL_law 276 = .ok (.invokevirtual 39, 3) := by decide +kernel
theorem dL_law_279 : decode cL_law 279 = .ok (.if_icmp .eq 600, 3) := by decide +kernel
theorem dL_law_282 : decode cL_law 282 = .ok (.iconst 0, 1) := by decide +kernel
theorem dL_law_283 : decode cL_law 283 = .ok (.ireturn, 1) := by decide +kernel
theorem dL_law_284 : decode cL_law 284 = .ok (.aload_n 1, 1) := by decide +kernel
theorem dL_law_285 : decode cL_law 285 = .ok (.aload_n 0, 1) := by decide +kernel
theorem dL_law_286 : decode cL_law 286 = .ok (.iload_n 3, 1) := by decide +kernel
theorem dL_law_287 : decode cL_law 287 = .ok (.iconst 1, 1) := by decide +kernel
theorem dL_law_288 : decode cL_law 288 = .ok (.iadd, 1) := by decide +kernel
theorem dL_law_289 : decode cL_law 289 = .ok (.iaload, 1) := by decide +kernel
theorem dL_law_290 : decode cL_law 290 = .ok (.aload_n 0, 1) := by decide +kernel
theorem dL_law_291 : decode cL_law 291 = .ok (.iload_n 3, 1) := by decide +kernel
theorem dL_law_292 : decode cL_law 292 = .ok (.iconst 2, 1) := by decide +kernel
theorem dL_law_293 : decode cL_law 293 = .ok (.iadd, 1) := by decide +kernel
theorem dL_law_294 : decode cL_law 294 = .ok (.iaload, 1) := by decide +kernel
theorem dL_law_295 : decode cL_law 295 = .ok (.invokevirtual 40, 3) := by decide +kernel
theorem dL_law_298 : decode cL_law 298 = .ok (.aload_n 2, 1) := by decide +kernel
theorem dL_law_299 : decode cL_law 299 = .ok (.aload_n 0, 1) := by decide +kernel
theorem dL_law_300 : decode cL_law 300 = .ok (.iload_n 3, 1) := by decide +kernel
theorem dL_law_301 : decode cL_law 301 = .ok (.iconst 1, 1) := by decide +kernel
theorem dL_law_302 : decode cL_law 302 = .ok (.iadd, 1) := by decide +kernel
theorem dL_law_303 : decode cL_law 303 = .ok (.iaload, 1) := by decide +kernel
theorem dL_law_304 : decode cL_law 304 = .ok (.aload_n 0, 1) := by decide +kernel
theorem dL_law_305 : decode cL_law 305 = .ok (.iload_n 3, 1) := by decide +kernel
theorem dL_law_306 : decode cL_law 306 = .ok (.iconst 2, 1) := by decide +kernel
theorem dL_law_307 : decode cL_law 307 = .ok (.iadd, 1) := by decide +kernel
theorem dL_law_308 : decode cL_law 308 = .ok (.iaload, 1) := by decide +kernel
theorem dL_law_309 : decode cL_law 309 = .ok (.invokevirtual 43, 3) := by decide +kernel
theorem dL_law_312 : decode cL_law 312 = .ok (.if_icmp .eq 567, 3) := by decide +kernel
theorem dL_law_315 : decode cL_law 315 = .ok (.iconst 0, 1) := by decide +kernel
theorem dL_law_316 : decode cL_law 316 = .ok (.ireturn, 1) := by decide +kernel
theorem dL_law_317 : decode cL_law 317 = .ok (.aload_n 1, 1) := by decide +kernel
theorem dL_law_318 : decode cL_law 318 = .ok (.aload_n 0, 1) := by decide +kernel
theorem dL_law_319 : decode cL_law 319 = .ok (.iload_n 3, 1) := by decide +kernel
theorem dL_law_320 : decode cL_law 320 = .ok (.iconst 1, 1) := by decide +kernel
theorem dL_law_321 : decode cL_law 321 = .ok (.iadd, 1) := by decide +kernel
theorem dL_law_322 : decode cL_law 322 = .ok (.iaload, 1) := by decide +kernel
theorem dL_law_323 : decode cL_law 323 = .ok (.aload_n 0, 1) := by decide +kernel
theorem dL_law_324 : decode cL_law 324 = .ok (.iload_n 3, 1) := by decide +kernel
theorem dL_law_325 : decode cL_law 325 = .ok (.iconst 2, 1) := by decide +kernel
theorem dL_law_326 : decode cL_law 326 = .ok (.iadd, 1) := by decide +kernel
theorem dL_law_327 : decode cL_law 327 = .ok (.iaload, 1) := by decide +kernel
theorem dL_law_328 : decode cL_law 328 = .ok (.invokevirtual 44, 3) := by decide +kernel
theorem dL_law_331 : decode cL_law 331 = .ok (.aload_n 2, 1) := by decide +kernel
theorem dL_law_332 : decode cL_law 332 = .ok (.aload_n 0, 1) := by decide +kernel
theorem dL_law_333 : decode cL_law 333 = .ok (.iload_n 3, 1) := by decide +kernel
theorem dL_law_334 : decode cL_law 334 = .ok (.iconst 1, 1) := by decide +kernel
theorem dL_law_335 : decode cL_law 335 = .ok (.iadd, 1) := by decide +kernel
theorem dL_law_336 : decode cL_law 336 = .ok (.iaload, 1) := by decide +kernel
theorem dL_law_337 : decode cL_law 337 = .ok (.aload_n 0, 1) := by decide +kernel
theorem dL_law_338 : decode cL_law 338 = .ok (.iload_n 3, 1) := by decide +kernel
theorem dL_law_339 : decode cL_law 339 = .ok (.iconst 2, 1) := by decide +kernel
theorem dL_law_340 : decode cL_law 340 = .ok (.iadd, 1) := by decide +kernel
theorem dL_law_341 : decode cL_law 341 = .ok (.iaload, 1) := by decide +kernel
theorem dL_law_342 : decode cL_law 342 = .ok (.invokevirtual 47, 3) := by decide +kernel
theorem dL_law_345 : decode cL_law 345 = .ok (.if_icmp .eq 534, 3) := by decide +kernel
theorem dL_law_348 : decode cL_law 348 = .ok (.iconst 0, 1) := by decide +kernel
theorem dL_law_349 : decode cL_law 349 = .ok (.ireturn, 1) := by decide +kernel
theorem dL_law_350 : decode cL_law 350 = .ok (.aload_n 1, 1) := by decide +kernel
theorem dL_law_351 : decode cL_law 351 = .ok (.aload_n 0, 1) := by decide +kernel
theorem dL_law_352 : decode cL_law 352 = .ok (.iload_n 3, 1) := by decide +kernel
theorem dL_law_353 : decode cL_law 353 = .ok (.iconst 1, 1) := by decide +kernel
theorem dL_law_354 : decode cL_law 354 = .ok (.iadd, 1) := by decide +kernel
theorem dL_law_355 : decode cL_law 355 = .ok (.iaload, 1) := by decide +kernel
theorem dL_law_356 : decode cL_law 356 = .ok (.aload_n 0, 1) := by decide +kernel
theorem dL_law_357 : decode cL_law 357 = .ok (.iload_n 3, 1) := by decide +kernel
theorem dL_law_358 : decode cL_law 358 = .ok (.iconst 2, 1) := by decide +kernel
theorem dL_law_359 : decode cL_law 359 = .ok (.iadd, 1) := by decide +kernel
theorem dL_law_360 : decode cL_law 360 = .ok (.iaload, 1) := by decide +kernel
theorem dL_law_361 : decode cL_law 361 = .ok (.aload_n 0, 1) := by decide +kernel
theorem dL_law_362 : decode cL_law 362 = .ok (.iload_n 3, 1) := by decide +kernel
theorem dL_law_363 : decode cL_law 363 = .ok (.iconst 3, 1) := by decide +kernel
theorem dL_law_364 : decode cL_law 364 = .ok (.iadd, 1) := by decide +kernel
theorem dL_law_365 : decode cL_law 365 = .ok (.iaload, 1) := by decide +kernel
theorem dL_law_366 : decode cL_law 366 = .ok (.invokevirtual 48, 3) := by decide +kernel
theorem dL_law_369 : decode cL_law 369 = .ok (.aload_n 2, 1) := by decide +kernel
theorem dL_law_370 : decode cL_law 370 = .ok (.aload_n 0, 1) := by decide +kernel
theorem dL_law_371 : decode cL_law 371 = .ok (.iload_n 3, 1) := by decide +kernel
theorem dL_law_372 : decode cL_law 372 = .ok (.iconst 1, 1) := by decide +kernel
theorem dL_law_373 : decode cL_law 373 = .ok (.iadd, 1) := by decide +kernel
theorem dL_law_374 : decode cL_law 374 = .ok (.iaload, 1) := by decide +kernel
theorem dL_law_375 : decode cL_law 375 = .ok (.aload_n 0, 1) := by decide +kernel
theorem dL_law_376 : decode cL_law 376 = .ok (.iload_n 3, 1) := by decide +kernel
theorem dL_law_377 : decode cL_law 377 = .ok (.iconst 2, 1) := by decide +kernel
theorem dL_law_378 : decode cL_law 378 = .ok (.iadd, 1) := by decide +kernel
theorem dL_law_379 : decode cL_law 379 = .ok (.iaload, 1) := by decide +kernel
theorem dL_law_380 : decode cL_law 380 = .ok (.aload_n 0, 1) := by decide +kernel
theorem dL_law_381 : decode cL_law 381 = .ok (.iload_n 3, 1) := by decide +kernel
theorem dL_law_382 : decode cL_law 382 = .ok (.iconst 3, 1) := by decide +kernel
theorem dL_law_383 : decode cL_law 383 = .ok (.iadd, 1) := by decide +kernel
theorem dL_law_384 : decode cL_law 384 = .ok (.iaload, 1) := by decide +kernel
theorem dL_law_385 : decode cL_law 385 = .ok (.invokevirtual 52, 3) := by decide +kernel
theorem dL_law_388 : decode cL_law 388 = .ok (.if_icmp .eq 491, 3) := by decide +kernel
theorem dL_law_391 : decode cL_law 391 = .ok (.iconst 0, 1) := by decide +kernel
theorem dL_law_392 : decode cL_law 392 = .ok (.ireturn, 1) := by decide +kernel
theorem dL_law_393 : decode cL_law 393 = .ok (.aload_n 1, 1) := by decide +kernel
theorem dL_law_394 : decode cL_law 394 = .ok (.aload_n 0, 1) := by decide +kernel
theorem dL_law_395 : decode cL_law 395 = .ok (.iload_n 3, 1) := by decide +kernel
theorem dL_law_396 : decode cL_law 396 = .ok (.iconst 1, 1) := by decide +kernel
theorem dL_law_397 : decode cL_law 397 = .ok (.iadd, 1) := by decide +kernel
theorem dL_law_398 : decode cL_law 398 = .ok (.iaload, 1) := by decide +kernel
theorem dL_law_399 : decode cL_law 399 = .ok (.aload_n 0, 1) := by decide +kernel
theorem dL_law_400 : decode cL_law 400 = .ok (.iload_n 3, 1) := by decide +kernel
theorem dL_law_401 : decode cL_law 401 = .ok (.iconst 2, 1) := by decide +kernel
theorem dL_law_402 : decode cL_law 402 = .ok (.iadd, 1) := by decide +kernel
theorem dL_law_403 : decode cL_law 403 = .ok (.iaload, 1) := by decide +kernel
theorem dL_law_404 : decode cL_law 404 = .ok (.aload_n 0, 1) := by decide +kernel
theorem dL_law_405 : decode cL_law 405 = .ok (.iload_n 3, 1) := by decide +kernel
theorem dL_law_406 : decode cL_law 406 = .ok (.iconst 3, 1) := by decide +kernel
theorem dL_law_407 : decode cL_law 407 = .ok (.iadd, 1) := by decide +kernel
theorem dL_law_408 : decode cL_law 408 = .ok (.iaload, 1) := by decide +kernel
theorem dL_law_409 : decode cL_law 409 = .ok (.invokevirtual 53, 3) := by decide +kernel
theorem dL_law_412 : decode cL_law 412 = .ok (.aload_n 2, 1) := by decide +kernel
theorem dL_law_413 : decode cL_law 413 = .ok (.aload_n 0, 1) := by decide +kernel
theorem dL_law_414 : decode cL_law 414 = .ok (.iload_n 3, 1) := by decide +kernel
theorem dL_law_415 : decode cL_law 415 = .ok (.iconst 1, 1) := by decide +kernel
theorem dL_law_416 : decode cL_law 416 = .ok (.iadd, 1) := by decide +kernel
theorem dL_law_417 : decode cL_law 417 = .ok (.iaload, 1) := by decide +kernel
theorem dL_law_418 : decode cL_law 418 = .ok (.aload_n 0, 1) := by decide +kernel
theorem dL_law_419 : decode cL_law 419 = .ok (.iload_n 3, 1) := by decide +kernel
theorem dL_law_420 : decode cL_law 420 = .ok (.iconst 2, 1) := by decide +kernel
theorem dL_law_421 : decode cL_law 421 = .ok (.iadd, 1) := by decide +kernel
theorem dL_law_422 : decode cL_law 422 = .ok (.iaload, 1) := by decide +kernel
theorem dL_law_423 : decode cL_law 423 = .ok (.aload_n 0, 1) := by decide +kernel
theorem dL_law_424 : decode cL_law 424 = .ok (.iload_n 3, 1) := by decide +kernel
theorem dL_law_425 : decode cL_law 425 = .ok (.iconst 3, 1) := by decide +kernel
theorem dL_law_426 : decode cL_law 426 = .ok (.iadd, 1) := by decide +kernel
theorem dL_law_427 : decode cL_law 427 = .ok (.iaload, 1) := by decide +kernel
theorem dL_law_428 : decode cL_law 428 = .ok (.invokevirtual 56, 3) := by decide +kernel
theorem dL_law_431 : decode cL_law 431 = .ok (.if_icmp .eq 448, 3) := by decide +kernel
theorem dL_law_434 : decode cL_law 434 = .ok (.iconst 0, 1) := by decide +kernel
theorem dL_law_435 : decode cL_law 435 = .ok (.ireturn, 1) := by decide +kernel
theorem dL_law_436 : decode cL_law 436 = .ok (.aload_n 1, 1) := by decide +kernel
theorem dL_law_437 : decode cL_law 437 = .ok (.aload_n 0, 1) := by decide +kernel
theorem dL_law_438 : decode cL_law 438 = .ok (.iload_n 3, 1) := by decide +kernel
theorem dL_law_439 : decode cL_law 439 = .ok (.iconst 1, 1) := by decide +kernel
theorem dL_law_440 : decode cL_law 440 = .ok (.iadd, 1) := by decide +kernel
theorem dL_law_441 : decode cL_law 441 = .ok (.iaload, 1) := by decide +kernel
theorem dL_law_442 : decode cL_law 442 = .ok (.invokevirtual 57, 3) := by decide +kernel
theorem dL_law_445 : decode cL_law 445 = .ok (.aload_n 2, 1) := by decide +kernel
theorem dL_law_446 : decode cL_law 446 = .ok (.aload_n 0, 1) := by decide +kernel
theorem dL_law_447 : decode cL_law 447 = .ok (.iload_n 3, 1) := by decide +kernel
theorem dL_law_448 : decode cL_law 448 = .ok (.iconst 1, 1) := by decide +kernel
theorem dL_law_449 : decode cL_law 449 = .ok (.iadd, 1) := by decide +kernel
theorem dL_law_450 : decode cL_law 450 = .ok (.iaload, 1) := by decide +kernel
theorem dL_law_451 : decode cL_law 451 = .ok (.invokevirtual 60, 3) := by decide +kernel
theorem dL_law_454 : decode cL_law 454 = .ok (.if_icmp .eq 425, 3) := by decide +kernel
theorem dL_law_457 : decode cL_law 457 = .ok (.iconst 0, 1) := by decide +kernel
theorem dL_law_458 : decode cL_law 458 = .ok (.ireturn, 1) := by decide +kernel
theorem dL_law_459 : decode cL_law 459 = .ok (.aload_n 1, 1) := by decide +kernel
theorem dL_law_460 : decode cL_law 460 = .ok (.aload_n 0, 1) := by decide +kernel
theorem dL_law_461 : decode cL_law 461 = .ok (.iload_n 3, 1) := by decide +kernel
theorem dL_law_462 : decode cL_law 462 = .ok (.iconst 1, 1) := by decide +kernel
theorem dL_law_463 : decode cL_law 463 = .ok (.iadd, 1) := by decide +kernel
theorem dL_law_464 : decode cL_law 464 = .ok (.iaload, 1) := by decide +kernel
theorem dL_law_465 : decode cL_law 465 = .ok (.invokevirtual 61, 3) := by decide +kernel
theorem dL_law_468 : decode cL_law 468 = .ok (.aload_n 2, 1) := by decide +kernel
theorem dL_law_469 : decode cL_law 469 = .ok (.aload_n 0, 1) := by decide +kernel
theorem dL_law_470 : decode cL_law 470 = .ok (.iload_n 3, 1) := by decide +kernel
theorem dL_law_471 : decode cL_law 471 = .ok (.iconst 1, 1) := by decide +kernel
theorem dL_law_472 : decode cL_law 472 = .ok (.iadd, 1) := by decide +kernel
theorem dL_law_473 : decode cL_law 473 = .ok (.iaload, 1) := by decide +kernel
theorem dL_law_474 : decode cL_law 474 = .ok (.invokevirtual 64, 3) := by decide +kernel
theorem dL_law_477 : decode cL_law 477 = .ok (.if_icmp .eq 402, 3) := by decide +kernel
theorem dL_law_480 : decode cL_law 480 = .ok (.iconst 0, 1) := by decide +kernel
theorem dL_law_481 : decode cL_law 481 = .ok (.ireturn, 1) := by decide +kernel
theorem dL_law_482 : decode cL_law 482 = .ok (.aload_n 1, 1) := by decide +kernel
theorem dL_law_483 : decode cL_law 483 = .ok (.aload_n 0, 1) := by decide +kernel
theorem dL_law_484 : decode cL_law 484 = .ok (.iload_n 3, 1) := by decide +kernel
theorem dL_law_485 : decode cL_law 485 = .ok (.iconst 1, 1) := by decide +kernel
theorem dL_law_486 : decode cL_law 486 = .ok (.iadd, 1) := by decide +kernel
theorem dL_law_487 : decode cL_law 487 = .ok (.iaload, 1) := by decide +kernel
theorem dL_law_488 : decode cL_law 488 = .ok (.aload_n 0, 1) := by decide +kernel
theorem dL_law_489 : decode cL_law 489 = .ok (.iload_n 3, 1) := by decide +kernel
theorem dL_law_490 : decode cL_law 490 = .ok (.iconst 2, 1) := by decide +kernel
theorem dL_law_491 : decode cL_law 491 = .ok (.iadd, 1) := by decide +kernel
theorem dL_law_492 : decode cL_law 492 = .ok (.iaload, 1) := by decide +kernel
theorem dL_law_493 : decode cL_law 493 = .ok (.invokevirtual 65, 3) := by decide +kernel
theorem dL_law_496 : decode cL_law 496 = .ok (.aload_n 2, 1) := by decide +kernel
theorem dL_law_497 : decode cL_law 497 = .ok (.aload_n 0, 1) := by decide +kernel
theorem dL_law_498 : decode cL_law 498 = .ok (.iload_n 3, 1) := by decide +kernel
theorem dL_law_499 : decode cL_law 499 = .ok (.iconst 1, 1) := by decide +kernel
theorem dL_law_500 : decode cL_law 500 = .ok (.iadd, 1) := by decide +kernel
theorem dL_law_501 : decode cL_law 501 = .ok (.iaload, 1) := by decide +kernel
theorem dL_law_502 : decode cL_law 502 = .ok (.aload_n 0, 1) := by decide +kernel
theorem dL_law_503 : decode cL_law 503 = .ok (.iload_n 3, 1) := by decide +kernel
theorem dL_law_504 : decode cL_law 504 = .ok (.iconst 2, 1) := by decide +kernel
theorem dL_law_505 : decode cL_law 505 = .ok (.iadd, 1) := by decide +kernel
theorem dL_law_506 : decode cL_law 506 = .ok (.iaload, 1) := by decide +kernel
theorem dL_law_507 : decode cL_law 507 = .ok (.invokevirtual 68, 3) := by decide +kernel
theorem dL_law_510 : decode cL_law 510 = .ok (.if_icmp .eq 369, 3) := by decide +kernel
theorem dL_law_513 : decode cL_law 513 = .ok (.iconst 0, 1) := by decide +kernel
theorem dL_law_514 : decode cL_law 514 = .ok (.ireturn, 1) := by decide +kernel
theorem dL_law_515 : decode cL_law 515 = .ok (.aload_n 1, 1) := by decide +kernel
theorem dL_law_516 : decode cL_law 516 = .ok (.aload_n 0, 1) := by decide +kernel
theorem dL_law_517 : decode cL_law 517 = .ok (.iload_n 3, 1) := by decide +kernel
theorem dL_law_518 : decode cL_law 518 = .ok (.iconst 1, 1) := by decide +kernel
theorem dL_law_519 : decode cL_law 519 = .ok (.iadd, 1) := by decide +kernel
theorem dL_law_520 : decode cL_law 520 = .ok (.iaload, 1) := by decide +kernel
theorem dL_law_521 : decode cL_law 521 = .ok (.aload_n 0, 1) := by decide +kernel
theorem dL_law_522 : decode cL_law 522 = .ok (.iload_n 3, 1) := by decide +kernel
theorem dL_law_523 : decode cL_law 523 = .ok (.iconst 2, 1) := by decide +kernel
theorem dL_law_524 : decode cL_law 524 = .ok (.iadd, 1) := by decide +kernel
theorem dL_law_525 : decode cL_law 525 = .ok (.iaload, 1) := by decide +kernel
theorem dL_law_526 : decode cL_law 526 = .ok (.invokevirtual 69, 3) := by decide +kernel
theorem dL_law_529 : decode cL_law 529 = .ok (.aload_n 2, 1) := by decide +kernel
theorem dL_law_530 : decode cL_law 530 = .ok (.aload_n 0, 1) := by decide +kernel
theorem dL_law_531 : decode cL_law 531 = .ok (.iload_n 3, 1) := by decide +kernel
theorem dL_law_532 : decode cL_law 532 = .ok (.iconst 1, 1) := by decide +kernel
theorem dL_law_533 : decode cL_law 533 = .ok (.iadd, 1) := by decide +kernel
theorem dL_law_534 : decode cL_law 534 = .ok (.iaload, 1) := by decide +kernel
theorem dL_law_535 : decode cL_law 535 = .ok (.aload_n 0, 1) := by decide +kernel
theorem dL_law_536 : decode cL_law 536 = .ok (.iload_n 3, 1) := by decide +kernel
theorem dL_law_537 : decode cL_law 537 = .ok (.iconst 2, 1) := by decide +kernel
theorem dL_law_538 : decode cL_law 538 = .ok (.iadd, 1) := by decide +kernel
theorem dL_law_539 : decode cL_law 539 = .ok (.iaload, 1) := by decide +kernel
theorem dL_law_540 : decode cL_law 540 = .ok (.invokevirtual 72, 3) := by decide +kernel
theorem dL_law_543 : decode cL_law 543 = .ok (.if_icmp .eq 336, 3) := by decide +kernel
theorem dL_law_546 : decode cL_law 546 = .ok (.iconst 0, 1) := by decide +kernel
theorem dL_law_547 : decode cL_law 547 = .ok (.ireturn, 1) := by decide +kernel
theorem dL_law_548 : decode cL_law 548 = .ok (.aload_n 1, 1) := by decide +kernel
theorem dL_law_549 : decode cL_law 549 = .ok (.invokevirtual 73, 3) := by decide +kernel
theorem dL_law_552 : decode cL_law 552 = .ok (.aload_n 2, 1) := by decide +kernel
theorem dL_law_553 : decode cL_law 553 = .ok (.invokevirtual 76, 3) := by decide +kernel
theorem dL_law_556 : decode cL_law 556 = .ok (.if_icmp .eq 323, 3) := by decide +kernel
theorem dL_law_559 : decode cL_law 559 = .ok (.iconst 0, 1) := by decide +kernel
theorem dL_law_560 : decode cL_law 560 = .ok (.ireturn, 1) := by decide +kernel
theorem dL_law_561 : decode cL_law 561 = .ok (.aload_n 1, 1) := by decide +kernel
theorem dL_law_562 : decode cL_law 562 = .ok (.aload_n 0, 1) := by decide +kernel
theorem dL_law_563 : decode cL_law 563 = .ok (.iload_n 3, 1) := by decide +kernel
theorem dL_law_564 : decode cL_law 564 = .ok (.iconst 1, 1) := by decide +kernel
theorem dL_law_565 : decode cL_law 565 = .ok (.iadd, 1) := by decide +kernel
theorem dL_law_566 : decode cL_law 566 = .ok (.iaload, 1) := by decide +kernel
theorem dL_law_567 : decode cL_law 567 = .ok (.aload_n 0, 1) := by decide +kernel
theorem dL_law_568 : decode cL_law 568 = .ok (.iload_n 3, 1) := by decide +kernel
theorem dL_law_569 : decode cL_law 569 = .ok (.iconst 2, 1) := by decide +kernel
theorem dL_law_570 : decode cL_law 570 = .ok (.iadd, 1) := by decide +kernel
theorem dL_law_571 : decode cL_law 571 = .ok (.iaload, 1) := by decide +kernel
theorem dL_law_572 : decode cL_law 572 = .ok (.aload_n 0, 1) := by decide +kernel
theorem dL_law_573 : decode cL_law 573 = .ok (.iload_n 3, 1) := by decide +kernel
theorem dL_law_574 : decode cL_law 574 = .ok (.iconst 3, 1) := by decide +kernel
theorem dL_law_575 : decode cL_law 575 = .ok (.iadd, 1) := by decide +kernel
theorem dL_law_576 : decode cL_law 576 = .ok (.iaload, 1) := by decide +kernel
theorem dL_law_577 : decode cL_law 577 = .ok (.invokevirtual 77, 3) := by decide +kernel
theorem dL_law_580 : decode cL_law 580 = .ok (.aload_n 2, 1) := by decide +kernel
theorem dL_law_581 : decode cL_law 581 = .ok (.aload_n 0, 1) := by decide +kernel
theorem dL_law_582 : decode cL_law 582 = .ok (.iload_n 3, 1) := by decide +kernel
theorem dL_law_583 : decode cL_law 583 = .ok (.iconst 1, 1) := by decide +kernel
theorem dL_law_584 : decode cL_law 584 = .ok (.iadd, 1) := by decide +kernel
theorem dL_law_585 : decode cL_law 585 = .ok (.iaload, 1) := by decide +kernel
theorem dL_law_586 : decode cL_law 586 = .ok (.aload_n 0, 1) := by decide +kernel
theorem dL_law_587 : decode cL_law 587 = .ok (.iload_n 3, 1) := by decide +kernel
theorem dL_law_588 : decode cL_law 588 = .ok (.iconst 2, 1) := by decide +kernel
theorem dL_law_589 : decode cL_law 589 = .ok (.iadd, 1) := by decide +kernel
theorem dL_law_590 : decode cL_law 590 = .ok (.iaload, 1) := by decide +kernel
theorem dL_law_591 : decode cL_law 591 = .ok (.aload_n 0, 1) := by decide +kernel
theorem dL_law_592 : decode cL_law 592 = .ok (.iload_n 3, 1) := by decide +kernel
theorem dL_law_593 : decode cL_law 593 = .ok (.iconst 3, 1) := by decide +kernel
theorem dL_law_594 : decode cL_law 594 = .ok (.iadd, 1) := by decide +kernel
theorem dL_law_595 : decode cL_law 595 = .ok (.iaload, 1) := by decide +kernel
theorem dL_law_596 : decode cL_law 596 = .ok (.invokevirtual 80, 3) := by decide +kernel
theorem dL_law_599 : decode cL_law 599 = .ok (.if_icmp .eq 280, 3) := by decide +kernel
theorem dL_law_602 : decode cL_law 602 = .ok (.iconst 0, 1) := by decide +kernel
theorem dL_law_603 : decode cL_law 603 = .ok (.ireturn, 1) := by decide +kernel
theorem dL_law_604 : decode cL_law 604 = .ok (.aload_n 1, 1) := by decide +kernel
theorem dL_law_605 : decode cL_law 605 = .ok (.aload_n 0, 1) := by decide +kernel
theorem dL_law_606 : decode cL_law 606 = .ok (.iload_n 3, 1) := by decide +kernel
theorem dL_law_607 : decode cL_law 607 = .ok (.iconst 1, 1) := by decide +kernel
theorem dL_law_608 : decode cL_law 608 = .ok (.iadd, 1) := by decide +kernel
theorem dL_law_609 : decode cL_law 609 = .ok (.iaload, 1) := by decide +kernel
theorem dL_law_610 : decode cL_law 610 = .ok (.invokevirtual 81, 3) := by decide +kernel
theorem dL_law_613 : decode cL_law 613 = .ok (.aload_n 2, 1) := by decide +kernel
theorem dL_law_614 : decode cL_law 614 = .ok (.aload_n 0, 1) := by decide +kernel
theorem dL_law_615 : decode cL_law 615 = .ok (.iload_n 3, 1) := by decide +kernel
theorem dL_law_616 : decode cL_law 616 = .ok (.iconst 1, 1) := by decide +kernel
theorem dL_law_617 : decode cL_law 617 = .ok (.iadd, 1) := by decide +kernel
theorem dL_law_618 : decode cL_law 618 = .ok (.iaload, 1) := by decide +kernel
theorem dL_law_619 : decode cL_law 619 = .ok (.invokevirtual 84, 3) := by decide +kernel
theorem dL_law_622 : decode cL_law 622 = .ok (.if_icmp .eq 257, 3) := by decide +kernel
theorem dL_law_625 : decode cL_law 625 = .ok (.iconst 0, 1) := by decide +kernel
theorem dL_law_626 : decode cL_law 626 = .ok (.ireturn, 1) := by decide +kernel
theorem dL_law_627 : decode cL_law 627 = .ok (.aload_n 1, 1) := by decide +kernel
theorem dL_law_628 : decode cL_law 628 = .ok (.aload_n 0, 1) := by decide +kernel
theorem dL_law_629 : decode cL_law 629 = .ok (.iload_n 3, 1) := by decide +kernel
theorem dL_law_630 : decode cL_law 630 = .ok (.iconst 1, 1) := by decide +kernel
theorem dL_law_631 : decode cL_law 631 = .ok (.iadd, 1) := by decide +kernel
theorem dL_law_632 : decode cL_law 632 = .ok (.iaload, 1) := by decide +kernel
theorem dL_law_633 : decode cL_law 633 = .ok (.aload_n 0, 1) := by decide +kernel
theorem dL_law_634 : decode cL_law 634 = .ok (.iload_n 3, 1) := by decide +kernel
theorem dL_law_635 : decode cL_law 635 = .ok (.iconst 2, 1) := by decide +kernel
theorem dL_law_636 : decode cL_law 636 = .ok (.iadd, 1) := by decide +kernel
theorem dL_law_637 : decode cL_law 637 = .ok (.iaload, 1) := by decide +kernel
theorem dL_law_638 : decode cL_law 638 = .ok (.invokevirtual 85, 3) := by decide +kernel
theorem dL_law_641 : decode cL_law 641 = .ok (.aload_n 2, 1) := by decide +kernel
theorem dL_law_642 : decode cL_law 642 = .ok (.aload_n 0, 1) := by decide +kernel
theorem dL_law_643 : decode cL_law 643 = .ok (.iload_n 3, 1) := by decide +kernel
theorem dL_law_644 : decode cL_law 644 = .ok (.iconst 1, 1) := by decide +kernel
theorem dL_law_645 : decode cL_law 645 = .ok (.iadd, 1) := by decide +kernel
theorem dL_law_646 : decode cL_law 646 = .ok (.iaload, 1) := by decide +kernel
theorem dL_law_647 : decode cL_law 647 = .ok (.aload_n 0, 1) := by decide +kernel
theorem dL_law_648 : decode cL_law 648 = .ok (.iload_n 3, 1) := by decide +kernel
theorem dL_law_649 : decode cL_law 649 = .ok (.iconst 2, 1) := by decide +kernel
theorem dL_law_650 : decode cL_law 650 = .ok (.iadd, 1) := by decide +kernel
theorem dL_law_651 : decode cL_law 651 = .ok (.iaload, 1) := by decide +kernel
theorem dL_law_652 : decode cL_law 652 = .ok (.invokevirtual 88, 3) := by decide +kernel
theorem dL_law_655 : decode cL_law 655 = .ok (.if_icmp .eq 224, 3) := by decide +kernel
theorem dL_law_658 : decode cL_law 658 = .ok (.iconst 0, 1) := by decide +kernel
theorem dL_law_659 : decode cL_law 659 = .ok (.ireturn, 1) := by decide +kernel
theorem dL_law_660 : decode cL_law 660 = .ok (.aload_n 1, 1) := by decide +kernel
theorem dL_law_661 : decode cL_law 661 = .ok (.aload_n 0, 1) := by decide +kernel
theorem dL_law_662 : decode cL_law 662 = .ok (.iload_n 3, 1) := by decide +kernel
theorem dL_law_663 : decode cL_law 663 = .ok (.iconst 1, 1) := by decide +kernel
theorem dL_law_664 : decode cL_law 664 = .ok (.iadd, 1) := by decide +kernel
theorem dL_law_665 : decode cL_law 665 = .ok (.iaload, 1) := by decide +kernel
theorem dL_law_666 : decode cL_law 666 = .ok (.aload_n 0, 1) := by decide +kernel
theorem dL_law_667 : decode cL_law 667 = .ok (.iload_n 3, 1) := by decide +kernel
theorem dL_law_668 : decode cL_law 668 = .ok (.iconst 2, 1) := by decide +kernel
theorem dL_law_669 : decode cL_law 669 = .ok (.iadd, 1) := by decide +kernel
theorem dL_law_670 : decode cL_law 670 = .ok (.iaload, 1) := by decide +kernel
theorem dL_law_671 : decode cL_law 671 = .ok (.aload_n 0, 1) := by decide +kernel
theorem dL_law_672 : decode cL_law 672 = .ok (.iload_n 3, 1) := by decide +kernel
theorem dL_law_673 : decode cL_law 673 = .ok (.iconst 3, 1) := by decide +kernel
theorem dL_law_674 : decode cL_law 674 = .ok (.iadd, 1) := by decide +kernel
theorem dL_law_675 : decode cL_law 675 = .ok (.iaload, 1) := by decide +kernel
theorem dL_law_676 : decode cL_law 676 = .ok (.invokevirtual 89, 3) := by decide +kernel
theorem dL_law_679 : decode cL_law 679 = .ok (.aload_n 2, 1) := by decide +kernel
theorem dL_law_680 : decode cL_law 680 = .ok (.aload_n 0, 1) := by decide +kernel
theorem dL_law_681 : decode cL_law 681 = .ok (.iload_n 3, 1) := by decide +kernel
theorem dL_law_682 : decode cL_law 682 = .ok (.iconst 1, 1) := by decide +kernel
theorem dL_law_683 : decode cL_law 683 = .ok (.iadd, 1) := by decide +kernel
theorem dL_law_684 : decode cL_law 684 = .ok (.iaload, 1) := by decide +kernel
theorem dL_law_685 : decode cL_law 685 = .ok (.aload_n 0, 1) := by decide +kernel
theorem dL_law_686 : decode cL_law 686 = .ok (.iload_n 3, 1) := by decide +kernel
theorem dL_law_687 : decode cL_law 687 = .ok (.iconst 2, 1) := by decide +kernel
theorem dL_law_688 : decode cL_law 688 = .ok (.iadd, 1) := by decide +kernel
theorem dL_law_689 : decode cL_law 689 = .ok (.iaload, 1) := by decide +kernel
theorem dL_law_690 : decode cL_law 690 = .ok (.aload_n 0, 1) := by decide +kernel
theorem dL_law_691 : decode cL_law 691 = .ok (.iload_n 3, 1) := by decide +kernel
theorem dL_law_692 : decode cL_law 692 = .ok (.iconst 3, 1) := by decide +kernel
theorem dL_law_693 : decode cL_law 693 = .ok (.iadd, 1) := by decide +kernel
theorem dL_law_694 : decode cL_law 694 = .ok (.iaload, 1) := by decide +kernel
theorem dL_law_695 : decode cL_law 695 = .ok (.invokevirtual 93, 3) := by decide +kernel
theorem dL_law_698 : decode cL_law 698 = .ok (.lcmp, 1) := by decide +kernel
theorem dL_law_699 : decode cL_law 699 = .ok (.ifCond .eq 180, 3) := by decide +kernel
theorem dL_law_702 : decode cL_law 702 = .ok (.iconst 0, 1) := by decide +kernel
theorem dL_law_703 : decode cL_law 703 = .ok (.ireturn, 1) := by decide +kernel
theorem dL_law_704 : decode cL_law 704 = .ok (.aload_n 1, 1) := by decide +kernel
theorem dL_law_705 : decode cL_law 705 = .ok (.aload_n 0, 1) := by decide +kernel
theorem dL_law_706 : decode cL_law 706 = .ok (.iload_n 3, 1) := by decide +kernel
theorem dL_law_707 : decode cL_law 707 = .ok (.iconst 1, 1) := by decide +kernel
theorem dL_law_708 : decode cL_law 708 = .ok (.iadd, 1) := by decide +kernel
theorem dL_law_709 : decode cL_law 709 = .ok (.iaload, 1) := by decide +kernel
theorem dL_law_710 : decode cL_law 710 = .ok (.aload_n 0, 1) := by decide +kernel
theorem dL_law_711 : decode cL_law 711 = .ok (.iload_n 3, 1) := by decide +kernel
theorem dL_law_712 : decode cL_law 712 = .ok (.iconst 2, 1) := by decide +kernel
theorem dL_law_713 : decode cL_law 713 = .ok (.iadd, 1) := by decide +kernel
theorem dL_law_714 : decode cL_law 714 = .ok (.iaload, 1) := by decide +kernel
theorem dL_law_715 : decode cL_law 715 = .ok (.invokevirtual 94, 3) := by decide +kernel
theorem dL_law_718 : decode cL_law 718 = .ok (.aload_n 2, 1) := by decide +kernel
theorem dL_law_719 : decode cL_law 719 = .ok (.aload_n 0, 1) := by decide +kernel
theorem dL_law_720 : decode cL_law 720 = .ok (.iload_n 3, 1) := by decide +kernel
theorem dL_law_721 : decode cL_law 721 = .ok (.iconst 1, 1) := by decide +kernel
theorem dL_law_722 : decode cL_law 722 = .ok (.iadd, 1) := by decide +kernel
theorem dL_law_723 : decode cL_law 723 = .ok (.iaload, 1) := by decide +kernel
theorem dL_law_724 : decode cL_law 724 = .ok (.aload_n 0, 1) := by decide +kernel
theorem dL_law_725 : decode cL_law 725 = .ok (.iload_n 3, 1) := by decide +kernel
theorem dL_law_726 : decode cL_law 726 = .ok (.iconst 2, 1) := by decide +kernel
theorem dL_law_727 : decode cL_law 727 = .ok (.iadd, 1) := by decide +kernel
theorem dL_law_728 : decode cL_law 728 = .ok (.iaload, 1) := by decide +kernel
theorem dL_law_729 : decode cL_law 729 = .ok (.invokevirtual 97, 3) := by decide +kernel
theorem dL_law_732 : decode cL_law 732 = .ok (.if_icmp .eq 147, 3) := by decide +kernel
theorem dL_law_735 : decode cL_law 735 = .ok (.iconst 0, 1) := by decide +kernel
theorem dL_law_736 : decode cL_law 736 = .ok (.ireturn, 1) := by decide +kernel
theorem dL_law_737 : decode cL_law 737 = .ok (.aload_n 1, 1) := by decide +kernel
theorem dL_law_738 : decode cL_law 738 = .ok (.invokevirtual 98, 3) := by decide +kernel
theorem dL_law_741 : decode cL_law 741 = .ok (.aload_n 2, 1) := by decide +kernel
theorem dL_law_742 : decode cL_law 742 = .ok (.invokevirtual 101, 3) := by decide +kernel
theorem dL_law_745 : decode cL_law 745 = .ok (.if_icmp .eq 134, 3) := by decide +kernel
theorem dL_law_748 : decode cL_law 748 = .ok (.iconst 0, 1) := by decide +kernel
theorem dL_law_749 : decode cL_law 749 = .ok (.ireturn, 1) := by decide +kernel
theorem dL_law_750 : decode cL_law 750 = .ok (.aload_n 1, 1) := by decide +kernel
theorem dL_law_751 : decode cL_law 751 = .ok (.aload_n 0, 1) := by decide +kernel
theorem dL_law_752 : decode cL_law 752 = .ok (.iload_n 3, 1) := by decide +kernel
theorem dL_law_753 : decode cL_law 753 = .ok (.iconst 1, 1) := by decide +kernel
theorem dL_law_754 : decode cL_law 754 = .ok (.iadd, 1) := by decide +kernel
theorem dL_law_755 : decode cL_law 755 = .ok (.iaload, 1) := by decide +kernel
theorem dL_law_756 : decode cL_law 756 = .ok (.invokevirtual 102, 3) := by decide +kernel
theorem dL_law_759 : decode cL_law 759 = .ok (.aload_n 2, 1) := by decide +kernel
theorem dL_law_760 : decode cL_law 760 = .ok (.aload_n 0, 1) := by decide +kernel
theorem dL_law_761 : decode cL_law 761 = .ok (.iload_n 3, 1) := by decide +kernel
theorem dL_law_762 : decode cL_law 762 = .ok (.iconst 1, 1) := by decide +kernel
theorem dL_law_763 : decode cL_law 763 = .ok (.iadd, 1) := by decide +kernel
theorem dL_law_764 : decode cL_law 764 = .ok (.iaload, 1) := by decide +kernel
theorem dL_law_765 : decode cL_law 765 = .ok (.invokevirtual 105, 3) := by decide +kernel
theorem dL_law_768 : decode cL_law 768 = .ok (.if_icmp .eq 111, 3) := by decide +kernel
theorem dL_law_771 : decode cL_law 771 = .ok (.iconst 0, 1) := by decide +kernel
theorem dL_law_772 : decode cL_law 772 = .ok (.ireturn, 1) := by decide +kernel
theorem dL_law_773 : decode cL_law 773 = .ok (.aload_n 1, 1) := by decide +kernel
theorem dL_law_774 : decode cL_law 774 = .ok (.aload_n 0, 1) := by decide +kernel
theorem dL_law_775 : decode cL_law 775 = .ok (.iload_n 3, 1) := by decide +kernel
theorem dL_law_776 : decode cL_law 776 = .ok (.iconst 1, 1) := by decide +kernel
theorem dL_law_777 : decode cL_law 777 = .ok (.iadd, 1) := by decide +kernel
theorem dL_law_778 : decode cL_law 778 = .ok (.iaload, 1) := by decide +kernel
theorem dL_law_779 : decode cL_law 779 = .ok (.aload_n 0, 1) := by decide +kernel
theorem dL_law_780 : decode cL_law 780 = .ok (.iload_n 3, 1) := by decide +kernel
theorem dL_law_781 : decode cL_law 781 = .ok (.iconst 2, 1) := by decide +kernel
theorem dL_law_782 : decode cL_law 782 = .ok (.iadd, 1) := by decide +kernel
theorem dL_law_783 : decode cL_law 783 = .ok (.iaload, 1) := by decide +kernel
theorem dL_law_784 : decode cL_law 784 = .ok (.aload_n 0, 1) := by decide +kernel
theorem dL_law_785 : decode cL_law 785 = .ok (.iload_n 3, 1) := by decide +kernel
theorem dL_law_786 : decode cL_law 786 = .ok (.iconst 3, 1) := by decide +kernel
theorem dL_law_787 : decode cL_law 787 = .ok (.iadd, 1) := by decide +kernel
theorem dL_law_788 : decode cL_law 788 = .ok (.iaload, 1) := by decide +kernel
theorem dL_law_789 : decode cL_law 789 = .ok (.invokevirtual 106, 3) := by decide +kernel
theorem dL_law_792 : decode cL_law 792 = .ok (.aload_n 2, 1) := by decide +kernel
theorem dL_law_793 : decode cL_law 793 = .ok (.aload_n 0, 1) := by decide +kernel
theorem dL_law_794 : decode cL_law 794 = .ok (.iload_n 3, 1) := by decide +kernel
theorem dL_law_795 : decode cL_law 795 = .ok (.iconst 1, 1) := by decide +kernel
theorem dL_law_796 : decode cL_law 796 = .ok (.iadd, 1) := by decide +kernel
theorem dL_law_797 : decode cL_law 797 = .ok (.iaload, 1) := by decide +kernel
theorem dL_law_798 : decode cL_law 798 = .ok (.aload_n 0, 1) := by decide +kernel
theorem dL_law_799 : decode cL_law 799 = .ok (.iload_n 3, 1) := by decide +kernel
theorem dL_law_800 : decode cL_law 800 = .ok (.iconst 2, 1) := by decide +kernel
theorem dL_law_801 : decode cL_law 801 = .ok (.iadd, 1) := by decide +kernel
theorem dL_law_802 : decode cL_law 802 = .ok (.iaload, 1) := by decide +kernel
theorem dL_law_803 : decode cL_law 803 = .ok (.aload_n 0, 1) := by decide +kernel
theorem dL_law_804 : decode cL_law 804 = .ok (.iload_n 3, 1) := by decide +kernel
theorem dL_law_805 : decode cL_law 805 = .ok (.iconst 3, 1) := by decide +kernel
theorem dL_law_806 : decode cL_law 806 = .ok (.iadd, 1) := by decide +kernel
theorem dL_law_807 : decode cL_law 807 = .ok (.iaload, 1) := by decide +kernel
theorem dL_law_808 : decode cL_law 808 = .ok (.invokevirtual 109, 3) := by decide +kernel
theorem dL_law_811 : decode cL_law 811 = .ok (.if_icmp .eq 68, 3) := by decide +kernel
theorem dL_law_814 : decode cL_law 814 = .ok (.iconst 0, 1) := by decide +kernel
theorem dL_law_815 : decode cL_law 815 = .ok (.ireturn, 1) := by decide +kernel
theorem dL_law_816 : decode cL_law 816 = .ok (.aload_n 1, 1) := by decide +kernel
theorem dL_law_817 : decode cL_law 817 = .ok (.invokevirtual 110, 3) := by decide +kernel
theorem dL_law_820 : decode cL_law 820 = .ok (.aload_n 2, 1) := by decide +kernel
theorem dL_law_821 : decode cL_law 821 = .ok (.invokevirtual 113, 3) := by decide +kernel
theorem dL_law_824 : decode cL_law 824 = .ok (.if_icmp .eq 55, 3) := by decide +kernel
theorem dL_law_827 : decode cL_law 827 = .ok (.iconst 0, 1) := by decide +kernel
theorem dL_law_828 : decode cL_law 828 = .ok (.ireturn, 1) := by decide +kernel
theorem dL_law_829 : decode cL_law 829 = .ok (.aload_n 1, 1) := by decide +kernel
theorem dL_law_830 : decode cL_law 830 = .ok (.invokevirtual 114, 3) := by decide +kernel
theorem dL_law_833 : decode cL_law 833 = .ok (.aload_n 2, 1) := by decide +kernel
theorem dL_law_834 : decode cL_law 834 = .ok (.invokevirtual 117, 3) := by decide +kernel
theorem dL_law_837 : decode cL_law 837 = .ok (.if_icmp .eq 42, 3) := by decide +kernel
theorem dL_law_840 : decode cL_law 840 = .ok (.iconst 0, 1) := by decide +kernel
theorem dL_law_841 : decode cL_law 841 = .ok (.ireturn, 1) := by decide +kernel
theorem dL_law_842 : decode cL_law 842 = .ok (.aload_n 1, 1) := by decide +kernel
theorem dL_law_843 : decode cL_law 843 = .ok (.aload_n 0, 1) := by decide +kernel
theorem dL_law_844 : decode cL_law 844 = .ok (.iload_n 3, 1) := by decide +kernel
theorem dL_law_845 : decode cL_law 845 = .ok (.iconst 1, 1) := by decide +kernel
theorem dL_law_846 : decode cL_law 846 = .ok (.iadd, 1) := by decide +kernel
theorem dL_law_847 : decode cL_law 847 = .ok (.iaload, 1) := by decide +kernel
theorem dL_law_848 : decode cL_law 848 = .ok (.invokevirtual 118, 3) := by decide +kernel
theorem dL_law_851 : decode cL_law 851 = .ok (.aload_n 2, 1) := by decide +kernel
theorem dL_law_852 : decode cL_law 852 = .ok (.aload_n 0, 1) := by decide +kernel
theorem dL_law_853 : decode cL_law 853 = .ok (.iload_n 3, 1) := by decide +kernel
theorem dL_law_854 : decode cL_law 854 = .ok (.iconst 1, 1) := by decide +kernel
theorem dL_law_855 : decode cL_law 855 = .ok (.iadd, 1) := by decide +kernel
theorem dL_law_856 : decode cL_law 856 = .ok (.iaload, 1) := by decide +kernel
theorem dL_law_857 : decode cL_law 857 = .ok (.invokevirtual 121, 3) := by decide +kernel
theorem dL_law_860 : decode cL_law 860 = .ok (.if_icmp .eq 19, 3) := by decide +kernel
theorem dL_law_863 : decode cL_law 863 = .ok (.iconst 0, 1) := by decide +kernel
theorem dL_law_864 : decode cL_law 864 = .ok (.ireturn, 1) := by decide +kernel
theorem dL_law_865 : decode cL_law 865 = .ok (.aload_n 1, 1) := by decide +kernel
theorem dL_law_866 : decode cL_law 866 = .ok (.invokevirtual 122, 3) := by decide +kernel
theorem dL_law_869 : decode cL_law 869 = .ok (.aload_n 2, 1) := by decide +kernel
theorem dL_law_870 : decode cL_law 870 = .ok (.invokevirtual 126, 3) := by decide +kernel
theorem dL_law_873 : decode cL_law 873 = .ok (.lcmp, 1) := by decide +kernel
theorem dL_law_874 : decode cL_law 874 = .ok (.ifCond .eq 5, 3) := by decide +kernel
theorem dL_law_877 : decode cL_law 877 = .ok (.iconst 0, 1) := by decide +kernel
theorem dL_law_878 : decode cL_law 878 = .ok (.ireturn, 1) := by decide +kernel
theorem dL_law_879 : decode cL_law 879 = .ok (.iinc 3 4, 3) := by decide +kernel
theorem dL_law_882 : decode cL_law 882 = .ok (.goto (-864), 3) := by decide +kernel
theorem dL_law_885 : decode cL_law 885 = .ok (.iconst 1, 1) := by decide +kernel
theorem dL_law_886 : decode cL_law 886 = .ok (.ireturn, 1) := by decide +kernel
