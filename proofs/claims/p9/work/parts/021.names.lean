theorem dX12_init_0 : decode cX12_init 0 = .ok (.aload_n 0, 1) := by decide +kernel
theorem dX12_init_1 : decode cX12_init 1 = .ok (.invokespecial 3, 3) := by decide +kernel
theorem dX12_init_4 : decode cX12_init 4 = .ok (.aload_n 0, 1) := by decide +kernel
theorem dX12_init_5 : decode cX12_init 5 = .ok (.sipush 240, 3) := by decide +kernel
theorem dX12_init_8 : decode cX12_init 8 = .ok (.newarray .byte, 2) := by decide +kernel
theorem dX12_init_10 : decode cX12_init 10 = .ok (.putfield 9, 3) := by decide +kernel
theorem dX12_init_13 : decode cX12_init 13 = .ok (.aload_n 0, 1) := by decide +kernel
theorem dX12_init_14 : decode cX12_init 14 = .ok (.sipush 960, 3) := by decide +kernel
theorem dX12_init_17 : decode cX12_init 17 = .ok (.newarray .byte, 2) := by decide +kernel
theorem dX12_init_19 : decode cX12_init 19 = .ok (.putfield 13, 3) := by decide +kernel
theorem dX12_init_22 : decode cX12_init 22 = .ok (.aload_n 0, 1) := by decide +kernel
theorem dX12_init_23 : decode cX12_init 23 = .ok (.iconst 4, 1) := by decide +kernel
theorem dX12_init_24 : decode cX12_init 24 = .ok (.newarray .int, 2) := by decide +kernel
theorem dX12_init_26 : decode cX12_init 26 = .ok (.putfield 16, 3) := by decide +kernel
theorem dX12_init_29 : decode cX12_init 29 = .ok (.aload_n 0, 1) := by decide +kernel
theorem dX12_init_30 : decode cX12_init 30 = .ok (.sipush 128, 3) := by decide +kernel
theorem dX12_init_33 : decode cX12_init 33 = .ok (.newarray .int, 2) := by decide +kernel
theorem dX12_init_35 : decode cX12_init 35 = .ok (.putfield 20, 3) := by decide +kernel
theorem dX12_init_38 : decode cX12_init 38 = .ok (.aload_n 0, 1) := by decide +kernel
theorem dX12_init_39 : decode cX12_init 39 = .ok (.aload_n 0, 1) := by decide +kernel
theorem dX12_init_40 : decode cX12_init 40 = .ok (.getfield 9, 3) := by decide +kernel
theorem dX12_init_43 : decode cX12_init 43 = .ok (.putfield 23, 3) := by decide +kernel
theorem dX12_init_46 : decode cX12_init 46 = .ok (.aload_n 0, 1) := by decide +kernel
theorem dX12_init_47 : decode cX12_init 47 = .ok (.ldc 26, 2) := by decide +kernel
theorem dX12_init_49 : decode cX12_init 49 = .ok (.putfield 28, 3) := by decide +kernel
theorem dX12_init_52 : decode cX12_init 52 = .ok (.aload_n 0, 1) := by decide +kernel
theorem dX12_init_53 : decode cX12_init 53 = .ok (.ldc 32, 2) := by decide +kernel
theorem dX12_init_55 : decode cX12_init 55 = .ok (.putfield 34, 3) := by decide +kernel
theorem dX12_init_58 : decode cX12_init 58 = .ok (.aload_n 0, 1) := by decide +kernel
theorem dX12_init_59 : decode cX12_init 59 = .ok (.iconst 4, 1) := by decide +kernel
theorem dX12_init_60 : decode cX12_init 60 = .ok (.newarray .int, 2) := by decide +kernel
theorem dX12_init_62 : decode cX12_init 62 = .ok (.putfield 37, 3) := by decide +kernel
theorem dX12_init_65 : decode cX12_init 65 = .ok (.aload_n 0, 1) := by decide +kernel
theorem dX12_init_66 : decode cX12_init 66 = .ok (.iconst 4, 1) := by decide +kernel
theorem dX12_init_67 : decode cX12_init 67 = .ok (.newarray .int, 2) := by decide +kernel
theorem dX12_init_69 : decode cX12_init 69 = .ok (.putfield 40, 3) := by decide +kernel
theorem dX12_init_72 : decode cX12_init 72 = .ok (.aload_n 0, 1) := by decide +kernel
theorem dX12_init_73 : decode cX12_init 73 = .ok (.bipush 64, 2) := by decide +kernel
theorem dX12_init_75 : decode cX12_init 75 = .ok (.newarray .int, 2) := by decide +kernel
theorem dX12_init_77 : decode cX12_init 77 = .ok (.putfield 43, 3) := by decide +kernel
theorem dX12_init_80 : decode cX12_init 80 = .ok (.aload_n 0, 1) := by decide +kernel
theorem dX12_init_81 : decode cX12_init 81 = .ok (.bipush 64, 2) := by decide +kernel
theorem dX12_init_83 : decode cX12_init 83 = .ok (.newarray .int, 2) := by decide +kernel
theorem dX12_init_85 : decode cX12_init 85 = .ok (.putfield 46, 3) := by decide +kernel
theorem dX12_init_88 : decode cX12_init 88 = .ok (.aload_n 0, 1) := by decide +kernel
theorem dX12_init_89 : decode cX12_init 89 = .ok (.bipush 12, 2) := by decide +kernel
theorem dX12_init_91 : decode cX12_init 91 = .ok (.newarray .int, 2) := by decide +kernel
theorem dX12_init_93 : decode cX12_init 93 = .ok (.putfield 49, 3) := by decide +kernel
theorem dX12_init_96 : decode cX12_init 96 = .ok (.aload_n 0, 1) := by decide +kernel
theorem dX12_init_97 : decode cX12_init 97 = .ok (.bipush 12, 2) := by decide +kernel
theorem dX12_init_99 : decode cX12_init 99 = .ok (.newarray .int, 2) := by decide +kernel
theorem dX12_init_101 : decode cX12_init 101 = .ok (.putfield 52, 3) := by decide +kernel
theorem dX12_init_104 : decode cX12_init 104 = .ok (.aload_n 0, 1) := by decide +kernel
theorem dX12_init_105 : decode cX12_init 105 = .ok (.sipush 320, 3) := by decide +kernel
theorem dX12_init_108 : decode cX12_init 108 = .ok (.newarray .int, 2) := by decide +kernel
theorem dX12_init_110 : decode cX12_init 110 = .ok (.putfield 55, 3) := by decide +kernel
theorem dX12_init_113 : decode cX12_init 113 = .ok (.aload_n 0, 1) := by decide +kernel
theorem dX12_init_114 : decode cX12_init 114 = .ok (.iconst 5, 1) := by decide +kernel
theorem dX12_init_115 : decode cX12_init 115 = .ok (.newarray .int, 2) := by decide +kernel
theorem dX12_init_117 : decode cX12_init 117 = .ok (.putfield 58, 3) := by decide +kernel
theorem dX12_init_120 : decode cX12_init 120 = .ok (.aload_n 0, 1) := by decide +kernel
theorem dX12_init_121 : decode cX12_init 121 = .ok (.sipush 242, 3) := by decide +kernel
theorem dX12_init_124 : decode cX12_init 124 = .ok (.newarray .int, 2) := by decide +kernel
theorem dX12_init_126 : decode cX12_init 126 = .ok (.putfield 61, 3) := by decide +kernel
theorem dX12_init_129 : decode cX12_init 129 = .ok (.aload_n 0, 1) := by decide +kernel
theorem dX12_init_130 : decode cX12_init 130 = .ok (.sipush 242, 3) := by decide +kernel
theorem dX12_init_133 : decode cX12_init 133 = .ok (.newarray .int, 2) := by decide +kernel
theorem dX12_init_135 : decode cX12_init 135 = .ok (.putfield 64, 3) := by decide +kernel
theorem dX12_init_138 : decode cX12_init 138 = .ok (.aload_n 0, 1) := by decide +kernel
theorem dX12_init_139 : decode cX12_init 139 = .ok (.iconst (-1), 1) := by decide +kernel
theorem dX12_init_140 : decode cX12_init 140 = .ok (.putfield 67, 3) := by decide +kernel
theorem dX12_init_143 : decode cX12_init 143 = .ok (.aload_n 0, 1) := by decide +kernel
theorem dX12_init_144 : decode cX12_init 144 = .ok (.sipush 8191, 3) := by decide +kernel
theorem dX12_init_147 : decode cX12_init 147 = .ok (.newarray .long, 2) := by decide +kernel
theorem dX12_init_149 : decode cX12_init 149 = .ok (.putfield 71, 3) := by decide +kernel
theorem dX12_init_152 : decode cX12_init 152 = .ok (.aload_n 0, 1) := by decide +kernel
theorem dX12_init_153 : decode cX12_init 153 = .ok (.sipush 8191, 3) := by decide +kernel
theorem dX12_init_156 : decode cX12_init 156 = .ok (.newarray .int, 2) := by decide +kernel
theorem dX12_init_158 : decode cX12_init 158 = .ok (.putfield 75, 3) := by decide +kernel
theorem dX12_init_161 : decode cX12_init 161 = .ok (.aload_n 0, 1) := by decide +kernel
theorem dX12_init_162 : decode cX12_init 162 = .ok (.iconst 3, 1) := by decide +kernel
theorem dX12_init_163 : decode cX12_init 163 = .ok (.newarray .int, 2) := by decide +kernel
theorem dX12_init_165 : decode cX12_init 165 = .ok (.putfield 78, 3) := by decide +kernel
theorem dX12_init_168 : decode cX12_init 168 = .ok (.aload_n 0, 1) := by decide +kernel
theorem dX12_init_169 : decode cX12_init 169 = .ok (.iconst 3, 1) := by decide +kernel
theorem dX12_init_170 : decode cX12_init 170 = .ok (.newarray .int, 2) := by decide +kernel
theorem dX12_init_172 : decode cX12_init 172 = .ok (.putfield 81, 3) := by decide +kernel
theorem dX12_init_175 : decode cX12_init 175 = .ok (.aload_n 0, 1) := by decide +kernel
theorem dX12_init_176 : decode cX12_init 176 = .ok (.bipush 8, 2) := by decide +kernel
theorem dX12_init_178 : decode cX12_init 178 = .ok (.newarray .int, 2) := by decide +kernel
theorem dX12_init_180 : decode cX12_init 180 = .ok (.putfield 84, 3) := by decide +kernel
theorem dX12_init_183 : decode cX12_init 183 = .ok (.aload_n 0, 1) := by decide +kernel
theorem dX12_init_184 : decode cX12_init 184 = .ok (.sipush 9680, 3) := by decide +kernel
theorem dX12_init_187 : decode cX12_init 187 = .ok (.newarray .int, 2) := by decide +kernel
theorem dX12_init_189 : decode cX12_init 189 = .ok (.putfield 87, 3) := by decide +kernel
theorem dX12_init_192 : decode cX12_init 192 = .ok (.aload_n 0, 1) := by decide +kernel
theorem dX12_init_193 : decode cX12_init 193 = .ok (.sipush 128, 3) := by decide +kernel
theorem dX12_init_196 : decode cX12_init 196 = .ok (.newarray .int, 2) := by decide +kernel
theorem dX12_init_198 : decode cX12_init 198 = .ok (.putfield 90, 3) := by decide +kernel
theorem dX12_init_201 : decode cX12_init 201 = .ok (.aload_n 0, 1) := by decide +kernel
theorem dX12_init_202 : decode cX12_init 202 = .ok (.bipush 10, 2) := by decide +kernel
theorem dX12_init_204 : decode cX12_init 204 = .ok (.newarray .int, 2) := by decide +kernel
theorem dX12_init_206 : decode cX12_init 206 = .ok (.putfield 93, 3) := by decide +kernel
theorem dX12_init_209 : decode cX12_init 209 = .ok (.aload_n 0, 1) := by decide +kernel
theorem dX12_init_210 : decode cX12_init 210 = .ok (.bipush 10, 2) := by decide +kernel
theorem dX12_init_212 : decode cX12_init 212 = .ok (.newarray .int, 2) := by decide +kernel
theorem dX12_init_214 : decode cX12_init 214 = .ok (.putfield 96, 3) := by decide +kernel
theorem dX12_init_217 : decode cX12_init 217 = .ok (.aload_n 0, 1) := by decide +kernel
theorem dX12_init_218 : decode cX12_init 218 = .ok (.bipush 10, 2) := by decide +kernel
theorem dX12_init_220 : decode cX12_init 220 = .ok (.newarray .int, 2) := by decide +kernel
theorem dX12_init_222 : decode cX12_init 222 = .ok (.putfield 99, 3) := by decide +kernel
theorem dX12_init_225 : decode cX12_init 225 = .ok (.aload_n 0, 1) := by decide +kernel
theorem dX12_init_226 : decode cX12_init 226 = .ok (.bipush 10, 2) := by decide +kernel
theorem dX12_init_228 : decode cX12_init 228 = .ok (.newarray .int, 2) := by decide +kernel
theorem dX12_init_230 : decode cX12_init 230 = .ok (.putfield 102, 3) := by decide +kernel
theorem dX12_init_233 : decode cX12_init 233 = .ok (.aload_n 0, 1) := by decide +kernel
theorem dX12_init_234 : decode cX12_init 234 = .ok (.iconst 3, 1) := by decide +kernel
theorem dX12_init_235 : decode cX12_init 235 = .ok (.newarray .int, 2) := by decide +kernel
theorem dX12_init_237 : decode cX12_init 237 = .ok (.putfield 105, 3) := by decide +kernel
theorem dX12_init_240 : decode cX12_init 240 = .ok (.aload_n 0, 1) := by decide +kernel
theorem dX12_init_241 : decode cX12_init 241 = .ok (.sipush 242, 3) := by decide +kernel
theorem dX12_init_244 : decode cX12_init 244 = .ok (.newarray .int, 2) := by decide +kernel
theorem dX12_init_246 : decode cX12_init 246 = .ok (.putfield 108, 3) := by decide +kernel
theorem dX12_init_249 : decode cX12_init 249 = .ok (.return_, 1) := by decide +kernel
theorem dX12_isIn_0 : decode cX12_isIn 0 = .ok (.lload_n 0, 1) := by decide +kernel
theorem dX12_isIn_1 : decode cX12_isIn 1 = .ok (.lload_n 2, 1) := by decide +kernel
theorem dX12_isIn_2 : decode cX12_isIn 2 = .ok (.lcmp, 1) := by decide +kernel
theorem dX12_isIn_3 : decode cX12_isIn 3 = .ok (.ifCond .lt 14, 3) := by decide +kernel
theorem dX12_isIn_6 : decode cX12_isIn 6 = .ok (.lload_n 0, 1) := by decide +kernel
theorem dX12_isIn_7 : decode cX12_isIn 7 = .ok (.lload 4, 2) := by decide +kernel
theorem dX12_isIn_12 : decode cX12_isIn 9 = .ok (.lcmp, 1) := by decide +kernel
theorem dX12_isIn_10 : decode cX12_isIn 10 = .ok (.ifCond .gt 7, 3) := by decide +kernel
theorem dX12_isIn_13 : decode cX12_isIn 13 = .ok (.iconst 1, 1) := by decide +kernel
theorem dX12_isIn_14 : decode cX12_isIn 14 = .ok (.goto 4, 3) := by decide +kernel
theorem dX12_isIn_17 : decode cX12_isIn 17 = .ok (.iconst 0, 1) := by decide +kernel
theorem dX12_isIn_18 : decode cX12_isIn 18 = .ok (.ireturn, 1) := by decide +kernel
theorem dX12_has_0 : decode cX12_has 0 = .ok (.iload_n 0, 1) := by decide +kernel
theorem dX12_has_1 : decode cX12_has 1 = .ok (.iload_n 1, 1) := by decide +kernel
theorem dX12_has_2 : decode cX12_has 2 = .ok (.ishr, 1) := by decide +kernel
theorem dX12_has_3 : decode cX12_has 3 = .ok (.iconst 1, 1) := by decide +kernel
theorem dX12_has_4 : decode cX12_has 4 = .ok (.iand, 1) := by decide +kernel
theorem dX12_has_5 : decode cX12_has 5 = .ok (.iconst 1, 1) := by decide +kernel
theorem dX12_has_6 : decode cX12_has 6 = .ok (.if_icmp .ne 7, 3) := by decide +kernel
theorem dX12_has_9 : decode cX12_has 9 = .ok (.iconst 1, 1) := by decide +kernel
theorem dX12_has_10 : decode cX12_has 10 = .ok (.goto 4, 3) := by decide +kernel
theorem dX12_has_13 : decode cX12_has 13 = .ok (.iconst 0, 1) := by decide +kernel
theorem dX12_has_14 : decode cX12_has 14 = .ok (.ireturn, 1) := by decide +kernel
theorem dX12_isAmong_0 : decode cX12_isAmong 0 = .ok (.iconst 0, 1) := by decide +kernel
theorem dX12_isAmong_1 : decode cX12_isAmong 1 = .ok (.istore_n 2, 1) := by decide +kernel
theorem dX12_isAmong_2 : decode cX12_isAmong 2 = .ok (.iload_n 2, 1) := by decide +kernel
theorem dX12_isAmong_3 : decode cX12_isAmong 3 = .ok (.aload_n 0, 1) := by decide +kernel
theorem dX12_isAmong_4 : decode cX12_isAmong 4 = .ok (.invokevirtual 114, 3) := by decide +kernel
theorem dX12_isAmong_7 : decode cX12_isAmong 7 = .ok (.if_icmp .ge 20, 3) := by decide +kernel
theorem dX12_isAmong_10 : decode cX12_isAmong 10 = .ok (.aload_n 0, 1) := by decide +kernel
theorem dX12_isAmong_11 : decode cX12_isAmong 11 = .ok (.iload_n 2, 1) := by decide +kernel
theorem dX12_isAmong_12 : decode cX12_isAmong 12 = .ok (.invokevirtual 120, 3) := by decide +kernel
theorem dX12_isAmong_15 : decode cX12_isAmong 15 = .ok (.iload_n 1, 1) := by decide +kernel
theorem dX12_isAmong_16 : decode cX12_isAmong 16 = .ok (.if_icmp .ne 5, 3) := by decide +kernel
theorem dX12_isAmong_19 : decode cX12_isAmong 19 = .ok (.iconst 1, 1) := by decide +kernel
theorem dX12_isAmong_20 : decode cX12_isAmong 20 = .ok (.ireturn, 1) := by decide +kernel
theorem dX12_isAmong_21 : decode cX12_isAmong 21 = .ok (.iinc 2 1, 3) := by decide +kernel
theorem dX12_isAmong_24 : decode cX12_isAmong 24 = .ok (.goto (-22), 3) := by decide +kernel
theorem dX12_isAmong_27 : decode cX12_isAmong 27 = .ok (.iconst 0, 1) := by decide +kernel
theorem dX12_isAmong_28 : decode cX12_isAmong 28 = .ok (.ireturn, 1) := by decide +kernel
theorem dX12_bytesIn_0 : decode cX12_bytesIn 0 = .ok (.iconst 0, 1) := by decide +kernel
theorem dX12_bytesIn_1 : decode cX12_bytesIn 1 = .ok (.istore_n 1, 1) := by decide +kernel
theorem dX12_bytesIn_2 : decode cX12_bytesIn 2 = .ok (.bipush 24, 2) := by decide +kernel
theorem dX12_bytesIn_4 : decode cX12_bytesIn 4 = .ok (.istore_n 2, 1) := by decide +kernel
theorem dX12_bytesIn_5 : decode cX12_bytesIn 5 = .ok (.iload_n 2, 1) := by decide +kernel
theorem dX12_bytesIn_6 : decode cX12_bytesIn 6 = .ok (.ifCond .lt 27, 3) := by decide +kernel
theorem dX12_bytesIn_9 : decode cX12_bytesIn 9 = .ok (.iload_n 1, 1) := by decide +kernel
theorem dX12_bytesIn_10 : decode cX12_bytesIn 10 = .ok (.iload_n 0, 1) := by decide +kernel
theorem dX12_bytesIn_11 : decode cX12_bytesIn 11 = .ok (.iload_n 2, 1) := by decide +kernel
theorem dX12_bytesIn_12 : decode cX12_bytesIn 12 = .ok (.ishr, 1) := by decide +kernel
theorem dX12_bytesIn_13 : decode cX12_bytesIn 13 = .ok (.sipush 255, 3) := by decide +kernel
theorem dX12_bytesIn_16 : decode cX12_bytesIn 16 = .ok (.iand, 1) := by decide +kernel
theorem dX12_bytesIn_17 : decode cX12_bytesIn 17 = .ok (.ifCond .eq 7, 3) := by decide +kernel
theorem dX12_bytesIn_20 : decode cX12_bytesIn 20 = .ok (.iconst 1, 1) := by decide +kernel
theorem dX12_bytesIn_21 : decode cX12_bytesIn 21 = .ok (.goto 4, 3) := by decide +kernel
theorem dX12_bytesIn_24 : decode cX12_bytesIn 24 = .ok (.iconst 0, 1) := by decide +kernel
theorem dX12_bytesIn_25 : decode cX12_bytesIn 25 = .ok (.iadd, 1) := by decide +kernel
theorem dX12_bytesIn_26 : decode cX12_bytesIn 26 = .ok (.istore_n 1, 1) := by decide +kernel
theorem dX12_bytesIn_27 : decode cX12_bytesIn 27 = .ok (.iinc 2 (-8), 3) := by decide +kernel
theorem dX12_bytesIn_30 : decode cX12_bytesIn 30 = .ok (.goto (-25), 3) := by decide +kernel
theorem dX12_bytesIn_33 : decode cX12_bytesIn 33 = .ok (.iload_n 1, 1) := by decide +kernel
theorem dX12_bytesIn_34 : decode cX12_bytesIn 34 = .ok (.ireturn, 1) := by decide +kernel
theorem dX12_put_0 : decode cX12_put 0 = .ok (.bipush 24, 2) := by decide +kernel
theorem dX12_put_2 : decode cX12_put 2 = .ok (.istore_n 2, 1) := by decide +kernel
theorem dX12_put_3 : decode cX12_put 3 = .ok (.iload_n 2, 1) := by decide +kernel
theorem dX12_put_4 : decode cX12_put 4 = .ok (.ifCond .lt 45, 3) := by decide +kernel
theorem dX12_put_7 : decode cX12_put 7 = .ok (.iload_n 1, 1) := by decide +kernel
theorem dX12_put_8 : decode cX12_put 8 = .ok (.iload_n 2, 1) := by decide +kernel
theorem dX12_put_9 : decode cX12_put 9 = .ok (.ishr, 1) := by decide +kernel
theorem dX12_put_10 : decode cX12_put 10 = .ok (.sipush 255, 3) := by decide +kernel
theorem dX12_put_13 : decode cX12_put 13 = .ok (.iand, 1) := by decide +kernel
theorem dX12_put_14 : decode cX12_put 14 = .ok (.ifCond .ne 6, 3) := by decide +kernel
theorem dX12_put_17 : decode cX12_put 17 = .ok (.goto 26, 3) := by decide +kernel
theorem dX12_put_20 : decode cX12_put 20 = .ok (.aload_n 0, 1) := by decide +kernel
theorem dX12_put_21 : decode cX12_put 21 = .ok (.getfield 9, 3) := by decide +kernel
theorem dX12_put_24 : decode cX12_put 24 = .ok (.aload_n 0, 1) := by decide +kernel
theorem dX12_put_25 : decode cX12_put 25 = .ok (.getfield 124, 3) := by decide +kernel
theorem dX12_put_28 : decode cX12_put 28 = .ok (.iload_n 1, 1) := by decide +kernel
theorem dX12_put_29 : decode cX12_put 29 = .ok (.iload_n 2, 1) := by decide +kernel
theorem dX12_put_30 : decode cX12_put 30 = .ok (.ishr, 1) := by decide +kernel
theorem dX12_put_31 : decode cX12_put 31 = .ok (.i2b, 1) := by decide +kernel
theorem dX12_put_32 : decode cX12_put 32 = .ok (.bastore, 1) := by decide +kernel
theorem dX12_put_33 : decode cX12_put 33 = .ok (.aload_n 0, 1) := by decide +kernel
theorem dX12_put_34 : decode cX12_put 34 = .ok (.dup, 1) := by decide +kernel
theorem dX12_put_35 : decode cX12_put 35 = .ok (.getfield 124, 3) := by decide +kernel
theorem dX12_put_38 : decode cX12_put 38 = .ok (.iconst 1, 1) := by decide +kernel
theorem dX12_put_39 : decode cX12_put 39 = .ok (.iadd, 1) := by decide +kernel
theorem dX12_put_40 : decode cX12_put 40 = .ok (.putfield 124, 3) := by decide +kernel
theorem dX12_put_43 : decode cX12_put 43 = .ok (.iinc 2 (-8), 3) := by decide +kernel
theorem dX12_put_46 : decode cX12_put 46 = .ok (.goto (-43), 3) := by decide +kernel
theorem dX12_put_49 : decode cX12_put 49 = .ok (.return_, 1) := by decide +kernel
theorem dX12_feed_0 : decode cX12_feed 0 = .ok (.aload_n 0, 1) := by decide +kernel
theorem dX12_feed_1 : decode cX12_feed 1 = .ok (.iconst 0, 1) := by decide +kernel
theorem dX12_feed_2 : decode cX12_feed 2 = .ok (.putfield 111, 3) := by decide +kernel
theorem dX12_feed_5 : decode cX12_feed 5 = .ok (.aload_n 0, 1) := by decide +kernel
theorem dX12_feed_6 : decode cX12_feed 6 = .ok (.getfield 124, 3) := by decide +kernel
theorem dX12_feed_9 : decode cX12_feed 9 = .ok (.iload_n 1, 1) := by decide +kernel
theorem dX12_feed_10 : decode cX12_feed 10 = .ok (.invokestatic 126, 3) := by decide +kernel
theorem dX12_feed_13 : decode cX12_feed 13 = .ok (.iadd, 1) := by decide +kernel
theorem dX12_feed_14 : decode cX12_feed 14 = .ok (.iload_n 2, 1) := by decide +kernel
theorem dX12_feed_15 : decode cX12_feed 15 = .ok (.invokestatic 126, 3) := by decide +kernel
theorem dX12_feed_18 : decode cX12_feed 18 = .ok (.iadd, 1) := by decide +kernel
theorem dX12_feed_19 : decode cX12_feed 19 = .ok (.iload_n 3, 1) := by decide +kernel
theorem dX12_feed_20 : decode cX12_feed 20 = .ok (.invokestatic 126, 3) := by decide +kernel
theorem dX12_feed_23 : decode cX12_feed 23 = .ok (.iadd, 1) := by decide +kernel
theorem dX12_feed_24 : decode cX12_feed 24 = .ok (.iload 4, 2) := by decide +kernel
theorem dX12_feed_26 : decode cX12_feed 26 = .ok (.invokestatic 126, 3) := by decide +kernel
theorem dX12_feed_29 : decode cX12_feed 29 = .ok (.iadd, 1) := by decide +kernel
theorem dX12_feed_30 : decode cX12_feed 30 = .ok (.iload 5, 2) := by decide +kernel
theorem dX12_feed_32 : decode cX12_feed 32 = .ok (.invokestatic 126, 3) := by decide +kernel
theorem dX12_feed_35 : decode cX12_feed 35 = .ok (.iadd, 1) := by decide +kernel
theorem dX12_feed_36 : decode cX12_feed 36 = .ok (.sipush 240, 3) := by decide +kernel
theorem dX12_feed_39 : decode cX12_feed 39 = .ok (.if_icmp .le 5, 3) := by decide +kernel
theorem dX12_feed_42 : decode cX12_feed 42 = .ok (.iconst (-1), 1) := by decide +kernel
theorem dX12_feed_43 : decode cX12_feed 43 = .ok (.ireturn, 1) := by decide +kernel
theorem dX12_feed_44 : decode cX12_feed 44 = .ok (.aload_n 0, 1) := by decide +kernel
theorem dX12_feed_45 : decode cX12_feed 45 = .ok (.iload_n 1, 1) := by decide +kernel
theorem dX12_feed_46 : decode cX12_feed 46 = .ok (.invokevirtual 130, 3) := by decide +kernel
theorem dX12_feed_49 : decode cX12_feed 49 = .ok (.aload_n 0, 1) := by decide +kernel
theorem dX12_feed_50 : decode cX12_feed 50 = .ok (.iload_n 2, 1) := by decide +kernel
theorem dX12_feed_51 : decode cX12_feed 51 = .ok (.invokevirtual 130, 3) := by decide +kernel
theorem dX12_feed_54 : decode cX12_feed 54 = .ok (.aload_n 0, 1) := by decide +kernel
theorem dX12_feed_55 : decode cX12_feed 55 = .ok (.iload_n 3, 1) := by decide +kernel
theorem dX12_feed_56 : decode cX12_feed 56 = .ok (.invokevirtual 130, 3) := by decide +kernel
theorem dX12_feed_59 : decode cX12_feed 59 = .ok (.aload_n 0, 1) := by decide +kernel
theorem dX12_feed_60 : decode cX12_feed 60 = .ok (.iload 4, 2) := by decide +kernel
theorem dX12_feed_62 : decode cX12_feed 62 = .ok (.invokevirtual 130, 3) := by decide +kernel
theorem dX12_feed_65 : decode cX12_feed 65 = .ok (.aload_n 0, 1) := by decide +kernel
theorem dX12_feed_66 : decode cX12_feed 66 = .ok (.iload 5, 2) := by decide +kernel
theorem dX12_feed_68 : decode cX12_feed 68 = .ok (.invokevirtual 130, 3) := by decide +kernel
theorem dX12_feed_71 : decode cX12_feed 71 = .ok (.aload_n 0, 1) := by decide +kernel
theorem dX12_feed_72 : decode cX12_feed 72 = .ok (.getfield 124, 3) := by decide +kernel
theorem dX12_feed_75 : decode cX12_feed 75 = .ok (.ireturn, 1) := by decide +kernel
theorem dX12_end_0 : decode cX12_end 0 = .ok (.aload_n 0, 1) := by decide +kernel
theorem dX12_end_1 : decode cX12_end 1 = .ok (.iconst 0, 1) := by decide +kernel
theorem dX12_end_2 : decode cX12_end 2 = .ok (.putfield 111, 3) := by decide +kernel
theorem dX12_end_5 : decode cX12_end 5 = .ok (.iload_n 1, 1) := by decide +kernel
theorem dX12_end_6 : decode cX12_end 6 = .ok (.ifCond .lt 11, 3) := by decide +kernel
theorem dX12_end_9 : decode cX12_end 9 = .ok (.iload_n 1, 1) := by decide +kernel
theorem dX12_end_10 : decode cX12_end 10 = .ok (.aload_n 0, 1) := by decide +kernel
theorem dX12_end_11 : decode cX12_end 11 = .ok (.getfield 124, 3) := by decide +kernel
theorem dX12_end_14 : decode cX12_end 14 = .ok (.if_icmp .le 5, 3) := by decide +kernel
theorem dX12_end_17 : decode cX12_end 17 = .ok (.iconst 0, 1) := by decide +kernel
theorem dX12_end_18 : decode cX12_end 18 = .ok (.ireturn, 1) := by decide +kernel
theorem dX12_end_19 : decode cX12_end 19 = .ok (.aload_n 0, 1) := by decide +kernel
theorem dX12_end_20 : decode cX12_end 20 = .ok (.iload_n 1, 1) := by decide +kernel
theorem dX12_end_21 : decode cX12_end 21 = .ok (.putfield 124, 3) := by decide +kernel
theorem dX12_end_24 : decode cX12_end 24 = .ok (.iconst 1, 1) := by decide +kernel
theorem dX12_end_25 : decode cX12_end 25 = .ok (.ireturn, 1) := by decide +kernel
theorem dX12_look_0 : decode cX12_look 0 = .ok (.aload_n 0, 1) := by decide +kernel
theorem dX12_look_1 : decode cX12_look 1 = .ok (.getfield 134, 3) := by decide +kernel
theorem dX12_look_4 : decode cX12_look 4 = .ok (.aload_n 0, 1) := by decide +kernel
theorem dX12_look_5 : decode cX12_look 5 = .ok (.getfield 137, 3) := by decide +kernel
theorem dX12_look_8 : decode cX12_look 8 = .ok (.if_icmp .ge 35, 3) := by decide +kernel
theorem dX12_look_11 : decode cX12_look 11 = .ok (.aload_n 0, 1) := by decide +kernel
theorem dX12_look_12 : decode cX12_look 12 = .ok (.getfield 23, 3) := by decide +kernel
theorem dX12_look_15 : decode cX12_look 15 = .ok (.aload_n 0, 1) := by decide +kernel
theorem dX12_look_16 : decode cX12_look 16 = .ok (.getfield 140, 3) := by decide +kernel
theorem dX12_look_19 : decode cX12_look 19 = .ok (.aload_n 0, 1) := by decide +kernel
theorem dX12_look_20 : decode cX12_look 20 = .ok (.getfield 134, 3) := by decide +kernel
theorem dX12_look_23 : decode cX12_look 23 = .ok (.iadd, 1) := by decide +kernel
theorem dX12_look_24 : decode cX12_look 24 = .ok (.baload, 1) := by decide +kernel
theorem dX12_look_25 : decode cX12_look 25 = .ok (.bipush 32, 2) := by decide +kernel
theorem dX12_look_27 : decode cX12_look 27 = .ok (.if_icmp .ne 16, 3) := by decide +kernel
theorem dX12_look_30 : decode cX12_look 30 = .ok (.aload_n 0, 1) := by decide +kernel
theorem dX12_look_31 : decode cX12_look 31 = .ok (.dup, 1) := by decide +kernel
theorem dX12_look_32 : decode cX12_look 32 = .ok (.getfield 134, 3) := by decide +kernel
theorem dX12_look_35 : decode cX12_look 35 = .ok (.iconst 1, 1) := by decide +kernel
theorem dX12_look_36 : decode cX12_look 36 = .ok (.iadd, 1) := by decide +kernel
theorem dX12_look_37 : decode cX12_look 37 = .ok (.putfield 134, 3) := by decide +kernel
theorem dX12_look_40 : decode cX12_look 40 = .ok (.goto (-40), 3) := by decide +kernel
theorem dX12_look_43 : decode cX12_look 43 = .ok (.aload_n 0, 1) := by decide +kernel
theorem dX12_look_44 : decode cX12_look 44 = .ok (.getfield 134, 3) := by decide +kernel
theorem dX12_look_47 : decode cX12_look 47 = .ok (.aload_n 0, 1) := by decide +kernel
theorem dX12_look_48 : decode cX12_look 48 = .ok (.getfield 137, 3) := by decide +kernel
theorem dX12_look_51 : decode cX12_look 51 = .ok (.if_icmp .ge 24, 3) := by decide +kernel
theorem dX12_look_54 : decode cX12_look 54 = .ok (.aload_n 0, 1) := by decide +kernel
theorem dX12_look_55 : decode cX12_look 55 = .ok (.getfield 23, 3) := by decide +kernel
theorem dX12_look_58 : decode cX12_look 58 = .ok (.aload_n 0, 1) := by decide +kernel
theorem dX12_look_59 : decode cX12_look 59 = .ok (.getfield 140, 3) := by decide +kernel
theorem dX12_look_62 : decode cX12_look 62 = .ok (.aload_n 0, 1) := by decide +kernel
theorem dX12_look_63 : decode cX12_look 63 = .ok (.getfield 134, 3) := by decide +kernel
theorem dX12_look_66 : decode cX12_look 66 = .ok (.iadd, 1) := by decide +kernel
theorem dX12_look_67 : decode cX12_look 67 = .ok (.baload, 1) := by decide +kernel
theorem dX12_look_68 : decode cX12_look 68 = .ok (.sipush 255, 3) := by decide +kernel
theorem dX12_look_71 : decode cX12_look 71 = .ok (.iand, 1) := by decide +kernel
theorem dX12_look_72 : decode cX12_look 72 = .ok (.goto 4, 3) := by decide +kernel
theorem dX12_look_75 : decode cX12_look 75 = .ok (.iconst (-1), 1) := by decide +kernel
theorem dX12_look_76 : decode cX12_look 76 = .ok (.ireturn, 1) := by decide +kernel
theorem dX12_fails_0 : decode cX12_fails 0 = .ok (.aload_n 0, 1) := by decide +kernel
theorem dX12_fails_1 : decode cX12_fails 1 = .ok (.getfield 143, 3) := by decide +kernel
theorem dX12_fails_4 : decode cX12_fails 4 = .ok (.iconst (-1), 1) := by decide +kernel
theorem dX12_fails_5 : decode cX12_fails 5 = .ok (.if_icmp .ne 11, 3) := by decide +kernel
theorem dX12_fails_8 : decode cX12_fails 8 = .ok (.aload_n 0, 1) := by decide +kernel
theorem dX12_fails_9 : decode cX12_fails 9 = .ok (.aload_n 0, 1) := by decide +kernel
theorem dX12_fails_10 : decode cX12_fails 10 = .ok (.getfield 134, 3) := by decide +kernel
theorem dX12_fails_13 : decode cX12_fails 13 = .ok (.putfield 143, 3) := by decide +kernel
theorem dX12_fails_16 : decode cX12_fails 16 = .ok (.iconst 0, 1) := by decide +kernel
theorem dX12_fails_17 : decode cX12_fails 17 = .ok (.ireturn, 1) := by decide +kernel
theorem dX12_goesIn_0 : decode cX12_goesIn 0 = .ok (.aload_n 0, 1) := by decide +kernel
theorem dX12_goesIn_1 : decode cX12_goesIn 1 = .ok (.getfield 146, 3) := by decide +kernel
theorem dX12_goesIn_4 : decode cX12_goesIn 4 = .ok (.bipush 6, 2) := by decide +kernel
theorem dX12_goesIn_6 : decode cX12_goesIn 6 = .ok (.if_icmp .ne 8, 3) := by decide +kernel
theorem dX12_goesIn_9 : decode cX12_goesIn 9 = .ok (.aload_n 0, 1) := by decide +kernel
theorem dX12_goesIn_10 : decode cX12_goesIn 10 = .ok (.invokevirtual 149, 3) := by decide +kernel
theorem dX12_goesIn_13 : decode cX12_goesIn 13 = .ok (.ireturn, 1) := by decide +kernel
theorem dX12_goesIn_14 : decode cX12_goesIn 14 = .ok (.aload_n 0, 1) := by decide +kernel
theorem dX12_goesIn_15 : decode cX12_goesIn 15 = .ok (.dup, 1) := by decide +kernel
theorem dX12_goesIn_16 : decode cX12_goesIn 16 = .ok (.getfield 146, 3) := by decide +kernel
theorem dX12_goesIn_19 : decode cX12_goesIn 19 = .ok (.iconst 1, 1) := by decide +kernel
theorem dX12_goesIn_20 : decode cX12_goesIn 20 = .ok (.iadd, 1) := by decide +kernel
theorem dX12_goesIn_21 : decode cX12_goesIn 21 = .ok (.putfield 146, 3) := by decide +kernel
theorem dX12_goesIn_24 : decode cX12_goesIn 24 = .ok (.aload_n 0, 1) := by decide +kernel
theorem dX12_goesIn_25 : decode cX12_goesIn 25 = .ok (.dup, 1) := by decide +kernel
theorem dX12_goesIn_26 : decode cX12_goesIn 26 = .ok (.getfield 134, 3) := by decide +kernel
theorem dX12_goesIn_29 : decode cX12_goesIn 29 = .ok (.iconst 1, 1) := by decide +kernel
theorem dX12_goesIn_30 : decode cX12_goesIn 30 = .ok (.iadd, 1) := by decide +kernel
theorem dX12_goesIn_31 : decode cX12_goesIn 31 = .ok (.putfield 134, 3) := by decide +kernel
theorem dX12_goesIn_34 : decode cX12_goesIn 34 = .ok (.iconst 1, 1) := by decide +kernel
theorem dX12_goesIn_35 : decode cX12_goesIn 35 = .ok (.ireturn, 1) := by decide +kernel
theorem dX12_takes_0 : decode cX12_takes 0 = .ok (.aload_n 0, 1) := by decide +kernel
theorem dX12_takes_1 : decode cX12_takes 1 = .ok (.getfield 143, 3) := by decide +kernel
theorem dX12_takes_4 : decode cX12_takes 4 = .ok (.iconst (-1), 1) := by decide +kernel
theorem dX12_takes_5 : decode cX12_takes 5 = .ok (.if_icmp .ne 11, 3) := by decide +kernel
theorem dX12_takes_8 : decode cX12_takes 8 = .ok (.aload_n 0, 1) := by decide +kernel
theorem dX12_takes_9 : decode cX12_takes 9 = .ok (.invokevirtual 153, 3) := by decide +kernel
theorem dX12_takes_12 : decode cX12_takes 12 = .ok (.iload_n 1, 1) := by decide +kernel
theorem dX12_takes_13 : decode cX12_takes 13 = .ok (.if_icmp .eq 8, 3) := by decide +kernel
theorem dX12_takes_16 : decode cX12_takes 16 = .ok (.aload_n 0, 1) := by decide +kernel
theorem dX12_takes_17 : decode cX12_takes 17 = .ok (.invokevirtual 149, 3) := by decide +kernel
theorem dX12_takes_20 : decode cX12_takes 20 = .ok (.ireturn, 1) := by decide +kernel
theorem dX12_takes_21 : decode cX12_takes 21 = .ok (.aload_n 0, 1) := by decide +kernel
theorem dX12_takes_22 : decode cX12_takes 22 = .ok (.dup, 1) := by decide +kernel
theorem dX12_takes_23 : decode cX12_takes 23 = .ok (.getfield 134, 3) := by decide +kernel
theorem dX12_takes_26 : decode cX12_takes 26 = .ok (.iconst 1, 1) := by decide +kernel
theorem dX12_takes_27 : decode cX12_takes 27 = .ok (.iadd, 1) := by decide +kernel
theorem dX12_takes_28 : decode cX12_takes 28 = .ok (.putfield 134, 3) := by decide +kernel
theorem dX12_takes_31 : decode cX12_takes 31 = .ok (.iconst 1, 1) := by decide +kernel
theorem dX12_takes_32 : decode cX12_takes 32 = .ok (.ireturn, 1) := by decide +kernel
theorem dX12_isDigit_0 : decode cX12_isDigit 0 = .ok (.aload_n 0, 1) := by decide +kernel
theorem dX12_isDigit_1 : decode cX12_isDigit 1 = .ok (.getfield 134, 3) := by decide +kernel
theorem dX12_isDigit_4 : decode cX12_isDigit 4 = .ok (.aload_n 0, 1) := by decide +kernel
theorem dX12_isDigit_5 : decode cX12_isDigit 5 = .ok (.getfield 137, 3) := by decide +kernel
theorem dX12_isDigit_8 : decode cX12_isDigit 8 = .ok (.if_icmp .ge 45, 3) := by decide +kernel
theorem dX12_isDigit_11 : decode cX12_isDigit 11 = .ok (.aload_n 0, 1) := by decide +kernel
theorem dX12_isDigit_12 : decode cX12_isDigit 12 = .ok (.getfield 23, 3) := by decide +kernel
theorem dX12_isDigit_15 : decode cX12_isDigit 15 = .ok (.aload_n 0, 1) := by decide +kernel
theorem dX12_isDigit_16 : decode cX12_isDigit 16 = .ok (.getfield 140, 3) := by decide +kernel
theorem dX12_isDigit_19 : decode cX12_isDigit 19 = .ok (.aload_n 0, 1) := by decide +kernel
theorem dX12_isDigit_20 : decode cX12_isDigit 20 = .ok (.getfield 134, 3) := by decide +kernel
theorem dX12_isDigit_23 : decode cX12_isDigit 23 = .ok (.iadd, 1) := by decide +kernel
theorem dX12_isDigit_24 : decode cX12_isDigit 24 = .ok (.baload, 1) := by decide +kernel
theorem dX12_isDigit_25 : decode cX12_isDigit 25 = .ok (.bipush 48, 2) := by decide +kernel
theorem dX12_isDigit_27 : decode cX12_isDigit 27 = .ok (.if_icmp .lt 26, 3) := by decide +kernel
theorem dX12_isDigit_30 : decode cX12_isDigit 30 = .ok (.aload_n 0, 1) := by decide +kernel
theorem dX12_isDigit_31 : decode cX12_isDigit 31 = .ok (.getfield 23, 3) := by decide +kernel
theorem dX12_isDigit_34 : decode cX12_isDigit 34 = .ok (.aload_n 0, 1) := by decide +kernel
theorem dX12_isDigit_35 : decode cX12_isDigit 35 = .ok (.getfield 140, 3) := by decide +kernel
theorem dX12_isDigit_38 : decode cX12_isDigit 38 = .ok (.aload_n 0, 1) := by decide +kernel
theorem dX12_isDigit_39 : decode cX12_isDigit 39 = .ok (.getfield 134, 3) := by decide +kernel
theorem dX12_isDigit_42 : decode cX12_isDigit 42 = .ok (.iadd, 1) := by decide +kernel
theorem dX12_isDigit_43 : decode cX12_isDigit 43 = .ok (.baload, 1) := by decide +kernel
theorem dX12_isDigit_44 : decode cX12_isDigit 44 = .ok (.bipush 57, 2) := by decide +kernel
theorem dX12_isDigit_46 : decode cX12_isDigit 46 = .ok (.if_icmp .gt 7, 3) := by decide +kernel
theorem dX12_isDigit_49 : decode cX12_isDigit 49 = .ok (.iconst 1, 1) := by decide +kernel
theorem dX12_isDigit_50 : decode cX12_isDigit 50 = .ok (.goto 4, 3) := by decide +kernel
theorem dX12_isDigit_53 : decode cX12_isDigit 53 = .ok (.iconst 0, 1) := by decide +kernel
theorem dX12_isDigit_54 : decode cX12_isDigit 54 = .ok (.ireturn, 1) := by decide +kernel
theorem dX12_within_0 : decode cX12_within 0 = .ok (.ldc2_w 156, 3) := by decide +kernel
theorem dX12_within_3 : decode cX12_within 3 = .ok (.ldc2_w 158, 3) := by decide +kernel
theorem dX12_within_6 : decode cX12_within 6 = .ok (.lload_n 0, 1) := by decide +kernel
theorem dX12_within_7 : decode cX12_within 7 = .ok (.invokestatic 160, 3) := by decide +kernel
theorem dX12_within_10 : decode cX12_within 10 = .ok (.invokestatic 166, 3) := by decide +kernel
theorem dX12_within_13 : decode cX12_within 13 = .ok (.l2i, 1) := by decide +kernel
theorem dX12_within_14 : decode cX12_within 14 = .ok (.ireturn, 1) := by decide +kernel
theorem dX12_atom_0 : decode cX12_atom 0 = .ok (.aload_n 0, 1) := by decide +kernel
theorem dX12_atom_1 : decode cX12_atom 1 = .ok (.invokevirtual 153, 3) := by decide +kernel
theorem dX12_atom_4 : decode cX12_atom 4 = .ok (.istore_n 1, 1) := by decide +kernel
theorem dX12_atom_5 : decode cX12_atom 5 = .ok (.ldc 32, 2) := by decide +kernel
theorem dX12_atom_7 : decode cX12_atom 7 = .ok (.iload_n 1, 1) := by decide +kernel
theorem dX12_atom_8 : decode cX12_atom 8 = .ok (.invokestatic 169, 3) := by decide +kernel
theorem dX12_atom_11 : decode cX12_atom 11 = .ok (.ifCond .eq 20, 3) := by decide +kernel
theorem dX12_atom_14 : decode cX12_atom 14 = .ok (.aload_n 0, 1) := by decide +kernel
theorem dX12_atom_15 : decode cX12_atom 15 = .ok (.dup, 1) := by decide +kernel
theorem dX12_atom_16 : decode cX12_atom 16 = .ok (.getfield 134, 3) := by decide +kernel
theorem dX12_atom_19 : decode cX12_atom 19 = .ok (.iconst 1, 1) := by decide +kernel
theorem dX12_atom_20 : decode cX12_atom 20 = .ok (.iadd, 1) := by decide +kernel
theorem dX12_atom_21 : decode cX12_atom 21 = .ok (.putfield 134, 3) := by decide +kernel
theorem dX12_atom_24 : decode cX12_atom 24 = .ok (.aload_n 0, 1) := by decide +kernel
theorem dX12_atom_25 : decode cX12_atom 25 = .ok (.getfield 20, 3) := by decide +kernel
theorem dX12_atom_28 : decode cX12_atom 28 = .ok (.iload_n 1, 1) := by decide +kernel
theorem dX12_atom_29 : decode cX12_atom 29 = .ok (.iaload, 1) := by decide +kernel
theorem dX12_atom_30 : decode cX12_atom 30 = .ok (.ireturn, 1) := by decide +kernel
theorem dX12_atom_31 : decode cX12_atom 31 = .ok (.iload_n 1, 1) := by decide +kernel
theorem dX12_atom_32 : decode cX12_atom 32 = .ok (.bipush 91, 2) := by decide +kernel
theorem dX12_atom_34 : decode cX12_atom 34 = .ok (.if_icmp .ne 40, 3) := by decide +kernel
theorem dX12_atom_37 : decode cX12_atom 37 = .ok (.aload_n 0, 1) := by decide +kernel
theorem dX12_atom_38 : decode cX12_atom 38 = .ok (.invokevirtual 173, 3) := by decide +kernel
theorem dX12_atom_41 : decode cX12_atom 41 = .ok (.ifCond .ne 5, 3) := by decide +kernel
theorem dX12_atom_44 : decode cX12_atom 44 = .ok (.iconst 0, 1) := by decide +kernel
theorem dX12_atom_45 : decode cX12_atom 45 = .ok (.ireturn, 1) := by decide +kernel
theorem dX12_atom_46 : decode cX12_atom 46 = .ok (.aload_n 0, 1) := by decide +kernel
theorem dX12_atom_47 : decode cX12_atom 47 = .ok (.invokevirtual 176, 3) := by decide +kernel
theorem dX12_atom_50 : decode cX12_atom 50 = .ok (.istore_n 2, 1) := by decide +kernel
theorem dX12_atom_51 : decode cX12_atom 51 = .ok (.aload_n 0, 1) := by decide +kernel
theorem dX12_atom_52 : decode cX12_atom 52 = .ok (.bipush 93, 2) := by decide +kernel
theorem dX12_atom_54 : decode cX12_atom 54 = .ok (.invokevirtual 179, 3) := by decide +kernel
theorem dX12_atom_57 : decode cX12_atom 57 = .ok (.ifCond .ne 5, 3) := by decide +kernel
theorem dX12_atom_60 : decode cX12_atom 60 = .ok (.iconst 0, 1) := by decide +kernel
theorem dX12_atom_61 : decode cX12_atom 61 = .ok (.ireturn, 1) := by decide +kernel
theorem dX12_atom_62 : decode cX12_atom 62 = .ok (.aload_n 0, 1) := by decide +kernel
theorem dX12_atom_63 : decode cX12_atom 63 = .ok (.dup, 1) := by decide +kernel
theorem dX12_atom_64 : decode cX12_atom 64 = .ok (.getfield 146, 3) := by decide +kernel
theorem dX12_atom_67 : decode cX12_atom 67 = .ok (.iconst 1, 1) := by decide +kernel
theorem dX12_atom_68 : decode cX12_atom 68 = .ok (.isub, 1) := by decide +kernel
theorem dX12_atom_69 : decode cX12_atom 69 = .ok (.putfield 146, 3) := by decide +kernel
theorem dX12_atom_72 : decode cX12_atom 72 = .ok (.iload_n 2, 1) := by decide +kernel
theorem dX12_atom_73 : decode cX12_atom 73 = .ok (.ireturn, 1) := by decide +kernel
theorem dX12_atom_74 : decode cX12_atom 74 = .ok (.aload_n 0, 1) := by decide +kernel
theorem dX12_atom_75 : decode cX12_atom 75 = .ok (.invokevirtual 183, 3) := by decide +kernel
theorem dX12_atom_78 : decode cX12_atom 78 = .ok (.ifCond .ne 8, 3) := by decide +kernel
theorem dX12_atom_81 : decode cX12_atom 81 = .ok (.aload_n 0, 1) := by decide +kernel
theorem dX12_atom_82 : decode cX12_atom 82 = .ok (.invokevirtual 149, 3) := by decide +kernel
theorem dX12_atom_85 : decode cX12_atom 85 = .ok (.pop, 1) := by decide +kernel
theorem dX12_atom_86 : decode cX12_atom 86 = .ok (.iconst 0, 1) := by decide +kernel
theorem dX12_atom_87 : decode cX12_atom 87 = .ok (.istore_n 2, 1) := by decide +kernel
theorem dX12_atom_88 : decode cX12_atom 88 = .ok (.iconst 0, 1) := by decide +kernel
theorem dX12_atom_89 : decode cX12_atom 89 = .ok (.istore_n 3, 1) := by decide +kernel
theorem dX12_atom_90 : decode cX12_atom 90 = .ok (.aload_n 0, 1) := by decide +kernel
theorem dX12_atom_91 : decode cX12_atom 91 = .ok (.invokevirtual 183, 3) := by decide +kernel
theorem dX12_atom_94 : decode cX12_atom 94 = .ok (.ifCond .eq 62, 3) := by decide +kernel
theorem dX12_atom_97 : decode cX12_atom 97 = .ok (.aload_n 0, 1) := by decide +kernel
theorem dX12_atom_98 : decode cX12_atom 98 = .ok (.getfield 143, 3) := by decide +kernel
theorem dX12_atom_101 : decode cX12_atom 101 = .ok (.iconst (-1), 1) := by decide +kernel
theorem dX12_atom_102 : decode cX12_atom 102 = .ok (.if_icmp .ne 54, 3) := by decide +kernel
theorem dX12_atom_105 : decode cX12_atom 105 = .ok (.iload_n 3, 1) := by decide +kernel
theorem dX12_atom_106 : decode cX12_atom 106 = .ok (.iconst 4, 1) := by decide +kernel
theorem dX12_atom_107 : decode cX12_atom 107 = .ok (.if_icmp .ne 10, 3) := by decide +kernel
theorem dX12_atom_110 : decode cX12_atom 110 = .ok (.aload_n 0, 1) := by decide +kernel
theorem dX12_atom_111 : decode cX12_atom 111 = .ok (.invokevirtual 149, 3) := by decide +kernel
theorem dX12_atom_114 : decode cX12_atom 114 = .ok (.pop, 1) := by decide +kernel
theorem dX12_atom_115 : decode cX12_atom 115 = .ok (.iconst 0, 1) := by decide +kernel
theorem dX12_atom_116 : decode cX12_atom 116 = .ok (.ireturn, 1) := by decide +kernel
theorem dX12_atom_117 : decode cX12_atom 117 = .ok (.bipush 10, 2) := by decide +kernel
theorem dX12_atom_119 : decode cX12_atom 119 = .ok (.iload_n 2, 1) := by decide +kernel
theorem dX12_atom_120 : decode cX12_atom 120 = .ok (.imul, 1) := by decide +kernel
theorem dX12_atom_121 : decode cX12_atom 121 = .ok (.aload_n 0, 1) := by decide +kernel
theorem dX12_atom_122 : decode cX12_atom 122 = .ok (.getfield 23, 3) := by decide +kernel
theorem dX12_atom_125 : decode cX12_atom 125 = .ok (.aload_n 0, 1) := by decide +kernel
theorem dX12_atom_126 : decode cX12_atom 126 = .ok (.getfield 140, 3) := by decide +kernel
theorem dX12_atom_129 : decode cX12_atom 129 = .ok (.aload_n 0, 1) := by decide +kernel
theorem dX12_atom_130 : decode cX12_atom 130 = .ok (.getfield 134, 3) := by decide +kernel
theorem dX12_atom_133 : decode cX12_atom 133 = .ok (.iadd, 1) := by decide +kernel
theorem dX12_atom_134 : decode cX12_atom 134 = .ok (.baload, 1) := by decide +kernel
theorem dX12_atom_135 : decode cX12_atom 135 = .ok (.iadd, 1) := by decide +kernel
theorem dX12_atom_136 : decode cX12_atom 136 = .ok (.bipush 48, 2) := by decide +kernel
theorem dX12_atom_138 : decode cX12_atom 138 = .ok (.isub, 1) := by decide +kernel
theorem dX12_atom_139 : decode cX12_atom 139 = .ok (.istore_n 2, 1) := by decide +kernel
theorem dX12_atom_140 : decode cX12_atom 140 = .ok (.aload_n 0, 1) := by decide +kernel
theorem dX12_atom_141 : decode cX12_atom 141 = .ok (.dup, 1) := by decide +kernel
theorem dX12_atom_142 : decode cX12_atom 142 = .ok (.getfield 134, 3) := by decide +kernel
theorem dX12_atom_145 : decode cX12_atom 145 = .ok (.iconst 1, 1) := by decide +kernel
theorem dX12_atom_146 : decode cX12_atom 146 = .ok (.iadd, 1) := by decide +kernel
theorem dX12_atom_147 : decode cX12_atom 147 = .ok (.putfield 134, 3) := by decide +kernel
theorem dX12_atom_150 : decode cX12_atom 150 = .ok (.iinc 3 1, 3) := by decide +kernel
theorem dX12_atom_153 : decode cX12_atom 153 = .ok (.goto (-63), 3) := by decide +kernel
theorem dX12_atom_156 : decode cX12_atom 156 = .ok (.iload_n 2, 1) := by decide +kernel
theorem dX12_atom_157 : decode cX12_atom 157 = .ok (.ireturn, 1) := by decide +kernel
theorem dX12_term_0 : decode cX12_term 0 = .ok (.aload_n 0, 1) := by decide +kernel
theorem dX12_term_1 : decode cX12_term 1 = .ok (.invokevirtual 186, 3) := by decide +kernel
theorem dX12_term_4 : decode cX12_term 4 = .ok (.istore_n 1, 1) := by decide +kernel
theorem dX12_term_5 : decode cX12_term 5 = .ok (.aload_n 0, 1) := by decide +kernel
theorem dX12_term_6 : decode cX12_term 6 = .ok (.getfield 143, 3) := by decide +kernel
theorem dX12_term_9 : decode cX12_term 9 = .ok (.iconst (-1), 1) := by decide +kernel
theorem dX12_term_10 : decode cX12_term 10 = .ok (.if_icmp .ne 84, 3) := by decide +kernel
theorem dX12_term_13 : decode cX12_term 13 = .ok (.aload_n 0, 1) := by decide +kernel
theorem dX12_term_14 : decode cX12_term 14 = .ok (.invokevirtual 153, 3) := by decide +kernel
theorem dX12_term_17 : decode cX12_term 17 = .ok (.bipush 42, 2) := by decide +kernel
theorem dX12_term_19 : decode cX12_term 19 = .ok (.if_icmp .eq 12, 3) := by decide +kernel
theorem dX12_term_22 : decode cX12_term 22 = .ok (.aload_n 0, 1) := by decide +kernel
theorem dX12_term_23 : decode cX12_term 23 = .ok (.invokevirtual 153, 3) := by decide +kernel
theorem dX12_term_26 : decode cX12_term 26 = .ok (.bipush 47, 2) := by decide +kernel
theorem dX12_term_28 : decode cX12_term 28 = .ok (.if_icmp .ne 66, 3) := by decide +kernel
theorem dX12_term_31 : decode cX12_term 31 = .ok (.aload_n 0, 1) := by decide +kernel
theorem dX12_term_32 : decode cX12_term 32 = .ok (.invokevirtual 153, 3) := by decide +kernel
theorem dX12_term_35 : decode cX12_term 35 = .ok (.bipush 42, 2) := by decide +kernel
theorem dX12_term_37 : decode cX12_term 37 = .ok (.if_icmp .ne 7, 3) := by decide +kernel
theorem dX12_term_40 : decode cX12_term 40 = .ok (.iconst 1, 1) := by decide +kernel
theorem dX12_term_41 : decode cX12_term 41 = .ok (.goto 4, 3) := by decide +kernel
theorem dX12_term_44 : decode cX12_term 44 = .ok (.iconst 0, 1) := by decide +kernel
theorem dX12_term_45 : decode cX12_term 45 = .ok (.istore_n 2, 1) := by decide +kernel
theorem dX12_term_46 : decode cX12_term 46 = .ok (.aload_n 0, 1) := by decide +kernel
theorem dX12_term_47 : decode cX12_term 47 = .ok (.dup, 1) := by decide +kernel
theorem dX12_term_48 : decode cX12_term 48 = .ok (.getfield 134, 3) := by decide +kernel
theorem dX12_term_51 : decode cX12_term 51 = .ok (.iconst 1, 1) := by decide +kernel
theorem dX12_term_52 : decode cX12_term 52 = .ok (.iadd, 1) := by decide +kernel
theorem dX12_term_53 : decode cX12_term 53 = .ok (.putfield 134, 3) := by decide +kernel
theorem dX12_term_56 : decode cX12_term 56 = .ok (.aload_n 0, 1) := by decide +kernel
theorem dX12_term_57 : decode cX12_term 57 = .ok (.invokevirtual 186, 3) := by decide +kernel
theorem dX12_term_60 : decode cX12_term 60 = .ok (.i2l, 1) := by decide +kernel
theorem dX12_term_61 : decode cX12_term 61 = .ok (.lstore_n 3, 1) := by decide +kernel
theorem dX12_term_62 : decode cX12_term 62 = .ok (.iload_n 2, 1) := by decide +kernel
theorem dX12_term_63 : decode cX12_term 63 = .ok (.ifCond .eq 10, 3) := by decide +kernel
theorem dX12_term_66 : decode cX12_term 66 = .ok (.iload_n 1, 1) := by decide +kernel
theorem dX12_term_67 : decode cX12_term 67 = .ok (.i2l, 1) := by decide +kernel
theorem dX12_term_68 : decode cX12_term 68 = .ok (.lload_n 3, 1) := by decide +kernel
theorem dX12_term_69 : decode cX12_term 69 = .ok (.lmul, 1) := by decide +kernel
theorem dX12_term_70 : decode cX12_term 70 = .ok (.goto 17, 3) := by decide +kernel
theorem dX12_term_73 : decode cX12_term 73 = .ok (.lload_n 3, 1) := by decide +kernel
theorem dX12_term_74 : decode cX12_term 74 = .ok (.lconst 0, 1) := by decide +kernel
theorem dX12_term_75 : decode cX12_term 75 = .ok (.lcmp, 1) := by decide +kernel
theorem dX12_term_76 : decode cX12_term 76 = .ok (.ifCond .ne 7, 3) := by decide +kernel
theorem dX12_term_79 : decode cX12_term 79 = .ok (.lconst 0, 1) := by decide +kernel
theorem dX12_term_80 : decode cX12_term 80 = .ok (.goto 7, 3) := by decide +kernel
theorem dX12_term_83 : decode cX12_term 83 = .ok (.iload_n 1, 1) := by decide +kernel
theorem dX12_term_84 : decode cX12_term 84 = .ok (.i2l, 1) := by decide +kernel
theorem dX12_term_85 : decode cX12_term 85 = .ok (.lload_n 3, 1) := by decide +kernel
theorem dX12_term_86 : decode cX12_term 86 = .ok (.ldiv, 1) := by decide +kernel
theorem dX12_term_87 : decode cX12_term 87 = .ok (.invokestatic 189, 3) := by decide +kernel
theorem dX12_term_90 : decode cX12_term 90 = .ok (.istore_n 1, 1) := by decide +kernel
theorem dX12_term_91 : decode cX12_term 91 = .ok (.goto (-86), 3) := by decide +kernel
theorem dX12_term_94 : decode cX12_term 94 = .ok (.iload_n 1, 1) := by decide +kernel
theorem dX12_term_95 : decode cX12_term 95 = .ok (.ireturn, 1) := by decide +kernel
theorem dX12_sum_0 : decode cX12_sum 0 = .ok (.aload_n 0, 1) := by decide +kernel
theorem dX12_sum_1 : decode cX12_sum 1 = .ok (.invokevirtual 193, 3) := by decide +kernel
theorem dX12_sum_4 : decode cX12_sum 4 = .ok (.istore_n 1, 1) := by decide +kernel
theorem dX12_sum_5 : decode cX12_sum 5 = .ok (.aload_n 0, 1) := by decide +kernel
theorem dX12_sum_6 : decode cX12_sum 6 = .ok (.getfield 143, 3) := by decide +kernel
theorem dX12_sum_9 : decode cX12_sum 9 = .ok (.iconst (-1), 1) := by decide +kernel
theorem dX12_sum_10 : decode cX12_sum 10 = .ok (.if_icmp .ne 74, 3) := by decide +kernel
theorem dX12_sum_13 : decode cX12_sum 13 = .ok (.aload_n 0, 1) := by decide +kernel
theorem dX12_sum_14 : decode cX12_sum 14 = .ok (.invokevirtual 153, 3) := by decide +kernel
theorem dX12_sum_17 : decode cX12_sum 17 = .ok (.bipush 43, 2) := by decide +kernel
theorem dX12_sum_19 : decode cX12_sum 19 = .ok (.if_icmp .eq 12, 3) := by decide +kernel
theorem dX12_sum_22 : decode cX12_sum 22 = .ok (.aload_n 0, 1) := by decide +kernel
theorem dX12_sum_23 : decode cX12_sum 23 = .ok (.invokevirtual 153, 3) := by decide +kernel
theorem dX12_sum_26 : decode cX12_sum 26 = .ok (.bipush 45, 2) := by decide +kernel
theorem dX12_sum_28 : decode cX12_sum 28 = .ok (.if_icmp .ne 56, 3) := by decide +kernel
theorem dX12_sum_31 : decode cX12_sum 31 = .ok (.aload_n 0, 1) := by decide +kernel
theorem dX12_sum_32 : decode cX12_sum 32 = .ok (.invokevirtual 153, 3) := by decide +kernel
theorem dX12_sum_35 : decode cX12_sum 35 = .ok (.bipush 43, 2) := by decide +kernel
theorem dX12_sum_37 : decode cX12_sum 37 = .ok (.if_icmp .ne 7, 3) := by decide +kernel
theorem dX12_sum_40 : decode cX12_sum 40 = .ok (.iconst 1, 1) := by decide +kernel
theorem dX12_sum_41 : decode cX12_sum 41 = .ok (.goto 4, 3) := by decide +kernel
theorem dX12_sum_44 : decode cX12_sum 44 = .ok (.iconst 0, 1) := by decide +kernel
theorem dX12_sum_45 : decode cX12_sum 45 = .ok (.istore_n 2, 1) := by decide +kernel
theorem dX12_sum_46 : decode cX12_sum 46 = .ok (.aload_n 0, 1) := by decide +kernel
theorem dX12_sum_47 : decode cX12_sum 47 = .ok (.dup, 1) := by decide +kernel
theorem dX12_sum_48 : decode cX12_sum 48 = .ok (.getfield 134, 3) := by decide +kernel
theorem dX12_sum_51 : decode cX12_sum 51 = .ok (.iconst 1, 1) := by decide +kernel
theorem dX12_sum_52 : decode cX12_sum 52 = .ok (.iadd, 1) := by decide +kernel
theorem dX12_sum_53 : decode cX12_sum 53 = .ok (.putfield 134, 3) := by decide +kernel
theorem dX12_sum_56 : decode cX12_sum 56 = .ok (.aload_n 0, 1) := by decide +kernel
theorem dX12_sum_57 : decode cX12_sum 57 = .ok (.invokevirtual 193, 3) := by decide +kernel
theorem dX12_sum_60 : decode cX12_sum 60 = .ok (.i2l, 1) := by decide +kernel
theorem dX12_sum_61 : decode cX12_sum 61 = .ok (.lstore_n 3, 1) := by decide +kernel
theorem dX12_sum_62 : decode cX12_sum 62 = .ok (.iload_n 2, 1) := by decide +kernel
theorem dX12_sum_63 : decode cX12_sum 63 = .ok (.ifCond .eq 10, 3) := by decide +kernel
theorem dX12_sum_66 : decode cX12_sum 66 = .ok (.iload_n 1, 1) := by decide +kernel
theorem dX12_sum_67 : decode cX12_sum 67 = .ok (.i2l, 1) := by decide +kernel
theorem dX12_sum_68 : decode cX12_sum 68 = .ok (.lload_n 3, 1) := by decide +kernel
theorem dX12_sum_69 : decode cX12_sum 69 = .ok (.ladd, 1) := by decide +kernel
theorem dX12_sum_70 : decode cX12_sum 70 = .ok (.goto 7, 3) := by decide +kernel
theorem dX12_sum_73 : decode cX12_sum 73 = .ok (.iload_n 1, 1) := by decide +kernel
theorem dX12_sum_74 : decode cX12_sum 74 = .ok (.i2l, 1) := by decide +kernel
theorem dX12_sum_75 : decode cX12_sum 75 = .ok (.lload_n 3, 1) := by decide +kernel
theorem dX12_sum_76 : decode cX12_sum 76 = .ok (.lsub, 1) := by decide +kernel
theorem dX12_sum_77 : decode cX12_sum 77 = .ok (.invokestatic 189, 3) := by decide +kernel
theorem dX12_sum_80 : decode cX12_sum 80 = .ok (.istore_n 1, 1) := by decide +kernel
theorem dX12_sum_81 : decode cX12_sum 81 = .ok (.goto (-76), 3) := by decide +kernel
theorem dX12_sum_84 : decode cX12_sum 84 = .ok (.iload_n 1, 1) := by decide +kernel
theorem dX12_sum_85 : decode cX12_sum 85 = .ok (.ireturn, 1) := by decide +kernel
theorem dX12_isSign_0 : decode cX12_isSign 0 = .ok (.iload_n 0, 1) := by decide +kernel
theorem dX12_isSign_1 : decode cX12_isSign 1 = .ok (.bipush 61, 2) := by decide +kernel
theorem dX12_isSign_3 : decode cX12_isSign 3 = .ok (.if_icmp .eq 15, 3) := by decide +kernel
theorem dX12_isSign_6 : decode cX12_isSign 6 = .ok (.iload_n 0, 1) := by decide +kernel
theorem dX12_isSign_7 : decode cX12_isSign 7 = .ok (.bipush 60, 2) := by decide +kernel
theorem dX12_isSign_9 : decode cX12_isSign 9 = .ok (.if_icmp .eq 9, 3) := by decide +kernel
theorem dX12_isSign_12 : decode cX12_isSign 12 = .ok (.iload_n 0, 1) := by decide +kernel
theorem dX12_isSign_13 : decode cX12_isSign 13 = .ok (.bipush 62, 2) := by decide +kernel
theorem dX12_isSign_15 : decode cX12_isSign 15 = .ok (.if_icmp .ne 7, 3) := by decide +kernel
theorem dX12_isSign_18 : decode cX12_isSign 18 = .ok (.iconst 1, 1) := by decide +kernel
theorem dX12_isSign_19 : decode cX12_isSign 19 = .ok (.goto 4, 3) := by decide +kernel
theorem dX12_isSign_22 : decode cX12_isSign 22 = .ok (.iconst 0, 1) := by decide +kernel
theorem dX12_isSign_23 : decode cX12_isSign 23 = .ok (.ireturn, 1) := by decide +kernel
theorem dX12_compares_0 : decode cX12_compares 0 = .ok (.iload_n 1, 1) := by decide +kernel
theorem dX12_compares_1 : decode cX12_compares 1 = .ok (.ifCond .eq 7, 3) := by decide +kernel
theorem dX12_compares_4 : decode cX12_compares 4 = .ok (.iload_n 2, 1) := by decide +kernel
theorem dX12_compares_5 : decode cX12_compares 5 = .ok (.goto 7, 3) := by decide +kernel
theorem dX12_compares_8 : decode cX12_compares 8 = .ok (.aload_n 0, 1) := by decide +kernel
theorem dX12_compares_9 : decode cX12_compares 9 = .ok (.invokevirtual 176, 3) := by decide +kernel
theorem dX12_compares_12 : decode cX12_compares 12 = .ok (.istore_n 3, 1) := by decide +kernel
theorem dX12_compares_13 : decode cX12_compares 13 = .ok (.aload_n 0, 1) := by decide +kernel
theorem dX12_compares_14 : decode cX12_compares 14 = .ok (.getfield 143, 3) := by decide +kernel
theorem dX12_compares_17 : decode cX12_compares 17 = .ok (.iconst (-1), 1) := by decide +kernel
theorem dX12_compares_18 : decode cX12_compares 18 = .ok (.if_icmp .eq 5, 3) := by decide +kernel
theorem dX12_compares_21 : decode cX12_compares 21 = .ok (.iconst 0, 1) := by decide +kernel
theorem dX12_compares_22 : decode cX12_compares 22 = .ok (.ireturn, 1) := by decide +kernel
theorem dX12_compares_23 : decode cX12_compares 23 = .ok (.aload_n 0, 1) := by decide +kernel
theorem dX12_compares_24 : decode cX12_compares 24 = .ok (.invokevirtual 153, 3) := by decide +kernel
theorem dX12_compares_27 : decode cX12_compares 27 = .ok (.istore 4, 2) := by decide +kernel
theorem dX12_compares_29 : decode cX12_compares 29 = .ok (.iload 4, 2) := by decide +kernel
theorem dX12_compares_31 : decode cX12_compares 31 = .ok (.invokestatic 196, 3) := by decide +kernel
theorem dX12_compares_34 : decode cX12_compares 34 = .ok (.ifCond .ne 8, 3) := by decide +kernel
theorem dX12_compares_37 : decode cX12_compares 37 = .ok (.aload_n 0, 1) := by decide +kernel
theorem dX12_compares_38 : decode cX12_compares 38 = .ok (.invokevirtual 149, 3) := by decide +kernel
theorem dX12_compares_41 : decode cX12_compares 41 = .ok (.ireturn, 1) := by decide +kernel
theorem dX12_compares_42 : decode cX12_compares 42 = .ok (.aload_n 0, 1) := by decide +kernel
theorem dX12_compares_43 : decode cX12_compares 43 = .ok (.dup, 1) := by decide +kernel
theorem dX12_compares_44 : decode cX12_compares 44 = .ok (.getfield 134, 3) := by decide +kernel
theorem dX12_compares_47 : decode cX12_compares 47 = .ok (.iconst 1, 1) := by decide +kernel
theorem dX12_compares_48 : decode cX12_compares 48 = .ok (.iadd, 1) := by decide +kernel
theorem dX12_compares_49 : decode cX12_compares 49 = .ok (.putfield 134, 3) := by decide +kernel
theorem dX12_compares_52 : decode cX12_compares 52 = .ok (.aload_n 0, 1) := by decide +kernel
theorem dX12_compares_53 : decode cX12_compares 53 = .ok (.invokevirtual 176, 3) := by decide +kernel
theorem dX12_compares_56 : decode cX12_compares 56 = .ok (.istore 5, 2) := by decide +kernel
theorem dX12_compares_58 : decode cX12_compares 58 = .ok (.iload 4, 2) := by decide +kernel
theorem dX12_compares_60 : decode cX12_compares 60 = .ok (.bipush 61, 2) := by decide +kernel
theorem dX12_compares_62 : decode cX12_compares 62 = .ok (.if_icmp .ne 17, 3) := by decide +kernel
theorem dX12_compares_65 : decode cX12_compares 65 = .ok (.iload_n 3, 1) := by decide +kernel
theorem dX12_compares_66 : decode cX12_compares 66 = .ok (.iload 5, 2) := by decide +kernel
theorem dX12_compares_68 : decode cX12_compares 68 = .ok (.if_icmp .ne 7, 3) := by decide +kernel
theorem dX12_compares_71 : decode cX12_compares 71 = .ok (.iconst 1, 1) := by decide +kernel
theorem dX12_compares_72 : decode cX12_compares 72 = .ok (.goto 39, 3) := by decide +kernel
theorem dX12_compares_75 : decode cX12_compares 75 = .ok (.iconst 0, 1) := by decide +kernel
theorem dX12_compares_76 : decode cX12_compares 76 = .ok (.goto 35, 3) := by decide +kernel
theorem dX12_compares_79 : decode cX12_compares 79 = .ok (.iload 4, 2) := by decide +kernel
theorem dX12_compares_81 : decode cX12_compares 81 = .ok (.bipush 60, 2) := by decide +kernel
theorem dX12_compares_83 : decode cX12_compares 83 = .ok (.if_icmp .ne 17, 3) := by decide +kernel
theorem dX12_compares_86 : decode cX12_compares 86 = .ok (.iload_n 3, 1) := by decide +kernel
theorem dX12_compares_87 : decode cX12_compares 87 = .ok (.iload 5, 2) := by decide +kernel
theorem dX12_compares_89 : decode cX12_compares 89 = .ok (.if_icmp .ge 7, 3) := by decide +kernel
theorem dX12_compares_92 : decode cX12_compares 92 = .ok (.iconst 1, 1) := by decide +kernel
theorem dX12_compares_93 : decode cX12_compares 93 = .ok (.goto 18, 3) := by decide +kernel
theorem dX12_compares_96 : decode cX12_compares 96 = .ok (.iconst 0, 1) := by decide +kernel
theorem dX12_compares_97 : decode cX12_compares 97 = .ok (.goto 14, 3) := by decide +kernel
theorem dX12_compares_100 : decode cX12_compares 100 = .ok (.iload_n 3, 1) := by decide +kernel
theorem dX12_compares_101 : decode cX12_compares 101 = .ok (.iload 5, 2) := by decide +kernel
theorem dX12_compares_103 : decode cX12_compares 103 = .ok (.if_icmp .le 7, 3) := by decide +kernel
theorem dX12_compares_106 : decode cX12_compares 106 = .ok (.iconst 1, 1) := by decide +kernel
theorem dX12_compares_107 : decode cX12_compares 107 = .ok (.goto 4, 3) := by decide +kernel
theorem dX12_compares_110 : decode cX12_compares 110 = .ok (.iconst 0, 1) := by decide +kernel
theorem dX12_compares_111 : decode cX12_compares 111 = .ok (.ireturn, 1) := by decide +kernel
theorem dX12_unit_0 : decode cX12_unit 0 = .ok (.aload_n 0, 1) := by decide +kernel
theorem dX12_unit_1 : decode cX12_unit 1 = .ok (.invokevirtual 153, 3) := by decide +kernel
theorem dX12_unit_4 : decode cX12_unit 4 = .ok (.istore_n 1, 1) := by decide +kernel
theorem dX12_unit_5 : decode cX12_unit 5 = .ok (.iload_n 1, 1) := by decide +kernel
theorem dX12_unit_6 : decode cX12_unit 6 = .ok (.bipush 33, 2) := by decide +kernel
theorem dX12_unit_8 : decode cX12_unit 8 = .ok (.if_icmp .ne 37, 3) := by decide +kernel
theorem dX12_unit_11 : decode cX12_unit 11 = .ok (.aload_n 0, 1) := by decide +kernel
theorem dX12_unit_12 : decode cX12_unit 12 = .ok (.invokevirtual 173, 3) := by decide +kernel
theorem dX12_unit_15 : decode cX12_unit 15 = .ok (.ifCond .ne 5, 3) := by decide +kernel
theorem dX12_unit_18 : decode cX12_unit 18 = .ok (.iconst 0, 1) := by decide +kernel
theorem dX12_unit_19 : decode cX12_unit 19 = .ok (.ireturn, 1) := by decide +kernel
theorem dX12_unit_20 : decode cX12_unit 20 = .ok (.aload_n 0, 1) := by decide +kernel
theorem dX12_unit_21 : decode cX12_unit 21 = .ok (.invokevirtual 199, 3) := by decide +kernel
theorem dX12_unit_24 : decode cX12_unit 24 = .ok (.istore_n 2, 1) := by decide +kernel
theorem dX12_unit_25 : decode cX12_unit 25 = .ok (.aload_n 0, 1) := by decide +kernel
theorem dX12_unit_26 : decode cX12_unit 26 = .ok (.dup, 1) := by decide +kernel
theorem dX12_unit_27 : decode cX12_unit 27 = .ok (.getfield 146, 3) := by decide +kernel
theorem dX12_unit_30 : decode cX12_unit 30 = .ok (.iconst 1, 1) := by decide +kernel
theorem dX12_unit_31 : decode cX12_unit 31 = .ok (.isub, 1) := by decide +kernel
theorem dX12_unit_32 : decode cX12_unit 32 = .ok (.putfield 146, 3) := by decide +kernel
theorem dX12_unit_35 : decode cX12_unit 35 = .ok (.iload_n 2, 1) := by decide +kernel
theorem dX12_unit_36 : decode cX12_unit 36 = .ok (.ifCond .ne 7, 3) := by decide +kernel
theorem dX12_unit_39 : decode cX12_unit 39 = .ok (.iconst 1, 1) := by decide +kernel
theorem dX12_unit_40 : decode cX12_unit 40 = .ok (.goto 4, 3) := by decide +kernel
theorem dX12_unit_43 : decode cX12_unit 43 = .ok (.iconst 0, 1) := by decide +kernel
theorem dX12_unit_44 : decode cX12_unit 44 = .ok (.ireturn, 1) := by decide +kernel
theorem dX12_unit_45 : decode cX12_unit 45 = .ok (.iload_n 1, 1) := by decide +kernel
theorem dX12_unit_46 : decode cX12_unit 46 = .ok (.bipush 40, 2) := by decide +kernel
theorem dX12_unit_48 : decode cX12_unit 48 = .ok (.if_icmp .ne 42, 3) := by decide +kernel
theorem dX12_unit_51 : decode cX12_unit 51 = .ok (.aload_n 0, 1) := by decide +kernel
theorem dX12_unit_52 : decode cX12_unit 52 = .ok (.invokevirtual 173, 3) := by decide +kernel
theorem dX12_unit_55 : decode cX12_unit 55 = .ok (.ifCond .ne 5, 3) := by decide +kernel
theorem dX12_unit_58 : decode cX12_unit 58 = .ok (.iconst 0, 1) := by decide +kernel
theorem dX12_unit_59 : decode cX12_unit 59 = .ok (.ireturn, 1) := by decide +kernel
theorem dX12_unit_60 : decode cX12_unit 60 = .ok (.aload_n 0, 1) := by decide +kernel
theorem dX12_unit_61 : decode cX12_unit 61 = .ok (.iconst 0, 1) := by decide +kernel
theorem dX12_unit_62 : decode cX12_unit 62 = .ok (.iconst 0, 1) := by decide +kernel
theorem dX12_unit_63 : decode cX12_unit 63 = .ok (.invokevirtual 202, 3) := by decide +kernel
theorem dX12_unit_66 : decode cX12_unit 66 = .ok (.istore_n 2, 1) := by decide +kernel
theorem dX12_unit_67 : decode cX12_unit 67 = .ok (.aload_n 0, 1) := by decide +kernel
theorem dX12_unit_68 : decode cX12_unit 68 = .ok (.bipush 41, 2) := by decide +kernel
theorem dX12_unit_70 : decode cX12_unit 70 = .ok (.invokevirtual 179, 3) := by decide +kernel
theorem dX12_unit_73 : decode cX12_unit 73 = .ok (.ifCond .ne 5, 3) := by decide +kernel
theorem dX12_unit_76 : decode cX12_unit 76 = .ok (.iconst 0, 1) := by decide +kernel
theorem dX12_unit_77 : decode cX12_unit 77 = .ok (.ireturn, 1) := by decide +kernel
theorem dX12_unit_78 : decode cX12_unit 78 = .ok (.aload_n 0, 1) := by decide +kernel
theorem dX12_unit_79 : decode cX12_unit 79 = .ok (.dup, 1) := by decide +kernel
theorem dX12_unit_80 : decode cX12_unit 80 = .ok (.getfield 146, 3) := by decide +kernel
theorem dX12_unit_83 : decode cX12_unit 83 = .ok (.iconst 1, 1) := by decide +kernel
theorem dX12_unit_84 : decode cX12_unit 84 = .ok (.isub, 1) := by decide +kernel
theorem dX12_unit_85 : decode cX12_unit 85 = .ok (.putfield 146, 3) := by decide +kernel
theorem dX12_unit_88 : decode cX12_unit 88 = .ok (.iload_n 2, 1) := by decide +kernel
theorem dX12_unit_89 : decode cX12_unit 89 = .ok (.ireturn, 1) := by decide +kernel
theorem dX12_unit_90 : decode cX12_unit 90 = .ok (.aload_n 0, 1) := by decide +kernel
theorem dX12_unit_91 : decode cX12_unit 91 = .ok (.iconst 0, 1) := by decide +kernel
theorem dX12_unit_92 : decode cX12_unit 92 = .ok (.iconst 0, 1) := by decide +kernel
theorem dX12_unit_93 : decode cX12_unit 93 = .ok (.invokevirtual 206, 3) := by decide +kernel
theorem dX12_unit_96 : decode cX12_unit 96 = .ok (.ireturn, 1) := by decide +kernel
theorem dX12_part_0 : decode cX12_part 0 = .ok (.iload_n 1, 1) := by decide +kernel
theorem dX12_part_1 : decode cX12_part 1 = .ok (.ifCond .eq 12, 3) := by decide +kernel
theorem dX12_part_4 : decode cX12_part 4 = .ok (.aload_n 0, 1) := by decide +kernel
theorem dX12_part_5 : decode cX12_part 5 = .ok (.iconst 1, 1) := by decide +kernel
theorem dX12_part_6 : decode cX12_part 6 = .ok (.iload_n 2, 1) := by decide +kernel
theorem dX12_part_7 : decode cX12_part 7 = .ok (.invokevirtual 206, 3) := by decide +kernel
theorem dX12_part_10 : decode cX12_part 10 = .ok (.goto 7, 3) := by decide +kernel
theorem dX12_part_13 : decode cX12_part 13 = .ok (.aload_n 0, 1) := by decide +kernel
theorem dX12_part_14 : decode cX12_part 14 = .ok (.invokevirtual 199, 3) := by decide +kernel
theorem dX12_part_17 : decode cX12_part 17 = .ok (.istore_n 3, 1) := by decide +kernel
theorem dX12_part_18 : decode cX12_part 18 = .ok (.aload_n 0, 1) := by decide +kernel
theorem dX12_part_19 : decode cX12_part 19 = .ok (.getfield 143, 3) := by decide +kernel
theorem dX12_part_22 : decode cX12_part 22 = .ok (.iconst (-1), 1) := by decide +kernel
theorem dX12_part_23 : decode cX12_part 23 = .ok (.if_icmp .ne 46, 3) := by decide +kernel
theorem dX12_part_26 : decode cX12_part 26 = .ok (.aload_n 0, 1) := by decide +kernel
theorem dX12_part_27 : decode cX12_part 27 = .ok (.invokevirtual 153, 3) := by decide +kernel
theorem dX12_part_30 : decode cX12_part 30 = .ok (.bipush 38, 2) := by decide +kernel
theorem dX12_part_32 : decode cX12_part 32 = .ok (.if_icmp .ne 37, 3) := by decide +kernel
theorem dX12_part_35 : decode cX12_part 35 = .ok (.aload_n 0, 1) := by decide +kernel
theorem dX12_part_36 : decode cX12_part 36 = .ok (.dup, 1) := by decide +kernel
theorem dX12_part_37 : decode cX12_part 37 = .ok (.getfield 134, 3) := by decide +kernel
theorem dX12_part_40 : decode cX12_part 40 = .ok (.iconst 1, 1) := by decide +kernel
theorem dX12_part_41 : decode cX12_part 41 = .ok (.iadd, 1) := by decide +kernel
theorem dX12_part_42 : decode cX12_part 42 = .ok (.putfield 134, 3) := by decide +kernel
theorem dX12_part_45 : decode cX12_part 45 = .ok (.aload_n 0, 1) := by decide +kernel
theorem dX12_part_46 : decode cX12_part 46 = .ok (.invokevirtual 199, 3) := by decide +kernel
theorem dX12_part_49 : decode cX12_part 49 = .ok (.istore 4, 2) := by decide +kernel
theorem dX12_part_51 : decode cX12_part 51 = .ok (.iload_n 3, 1) := by decide +kernel
theorem dX12_part_52 : decode cX12_part 52 = .ok (.ifCond .eq 12, 3) := by decide +kernel
theorem dX12_part_55 : decode cX12_part 55 = .ok (.iload 4, 2) := by decide +kernel
theorem dX12_part_57 : decode cX12_part 57 = .ok (.ifCond .eq 7, 3) := by decide +kernel
theorem dX12_part_60 : decode cX12_part 60 = .ok (.iconst 1, 1) := by decide +kernel
theorem dX12_part_61 : decode cX12_part 61 = .ok (.goto 4, 3) := by decide +kernel
theorem dX12_part_64 : decode cX12_part 64 = .ok (.iconst 0, 1) := by decide +kernel
theorem dX12_part_65 : decode cX12_part 65 = .ok (.istore_n 3, 1) := by decide +kernel
theorem dX12_part_66 : decode cX12_part 66 = .ok (.goto (-48), 3) := by decide +kernel
theorem dX12_part_69 : decode cX12_part 69 = .ok (.iload_n 3, 1) := by decide +kernel
theorem dX12_part_70 : decode cX12_part 70 = .ok (.ireturn, 1) := by decide +kernel
theorem dX12_condition_0 : decode cX12_condition 0 = .ok (.aload_n 0, 1) := by decide +kernel
theorem dX12_condition_1 : decode cX12_condition 1 = .ok (.iload_n 1, 1) := by decide +kernel
theorem dX12_condition_2 : decode cX12_condition 2 = .ok (.iload_n 2, 1) := by decide +kernel
theorem dX12_condition_3 : decode cX12_condition 3 = .ok (.invokevirtual 209, 3) := by decide +kernel
theorem dX12_condition_6 : decode cX12_condition 6 = .ok (.istore_n 3, 1) := by decide +kernel
theorem dX12_condition_7 : decode cX12_condition 7 = .ok (.aload_n 0, 1) := by decide +kernel
theorem dX12_condition_8 : decode cX12_condition 8 = .ok (.getfield 143, 3) := by decide +kernel
theorem dX12_condition_11 : decode cX12_condition 11 = .ok (.iconst (-1), 1) := by decide +kernel
theorem dX12_condition_12 : decode cX12_condition 12 = .ok (.if_icmp .ne 48, 3) := by decide +kernel
theorem dX12_condition_15 : decode cX12_condition 15 = .ok (.aload_n 0, 1) := by decide +kernel
theorem dX12_condition_16 : decode cX12_condition 16 = .ok (.invokevirtual 153, 3) := by decide +kernel
theorem dX12_condition_19 : decode cX12_condition 19 = .ok (.bipush 124, 2) := by decide +kernel
theorem dX12_condition_21 : decode cX12_condition 21 = .ok (.if_icmp .ne 39, 3) := by decide +kernel
theorem dX12_condition_24 : decode cX12_condition 24 = .ok (.aload_n 0, 1) := by decide +kernel
theorem dX12_condition_25 : decode cX12_condition 25 = .ok (.dup, 1) := by decide +kernel
theorem dX12_condition_26 : decode cX12_condition 26 = .ok (.getfield 134, 3) := by decide +kernel
theorem dX12_condition_29 : decode cX12_condition 29 = .ok (.iconst 1, 1) := by decide +kernel
theorem dX12_condition_30 : decode cX12_condition 30 = .ok (.iadd, 1) := by decide +kernel
theorem dX12_condition_31 : decode cX12_condition 31 = .ok (.putfield 134, 3) := by decide +kernel
theorem dX12_condition_34 : decode cX12_condition 34 = .ok (.aload_n 0, 1) := by decide +kernel
theorem dX12_condition_35 : decode cX12_condition 35 = .ok (.iconst 0, 1) := by decide +kernel
theorem dX12_condition_36 : decode cX12_condition 36 = .ok (.iconst 0, 1) := by decide +kernel
theorem dX12_condition_37 : decode cX12_condition 37 = .ok (.invokevirtual 209, 3) := by decide +kernel
theorem dX12_condition_40 : decode cX12_condition 40 = .ok (.istore 4, 2) := by decide +kernel
theorem dX12_condition_42 : decode cX12_condition 42 = .ok (.iload_n 3, 1) := by decide +kernel
theorem dX12_condition_43 : decode cX12_condition 43 = .ok (.ifCond .ne 8, 3) := by decide +kernel
theorem dX12_condition_46 : decode cX12_condition 46 = .ok (.iload 4, 2) := by decide +kernel
theorem dX12_condition_48 : decode cX12_condition 48 = .ok (.ifCond .eq 7, 3) := by decide +kernel
theorem dX12_condition_51 : decode cX12_condition 51 = .ok (.iconst 1, 1) := by decide +kernel
theorem dX12_condition_52 : decode cX12_condition 52 = .ok (.goto 4, 3) := by decide +kernel
theorem dX12_condition_55 : decode cX12_condition 55 = .ok (.iconst 0, 1) := by decide +kernel
theorem dX12_condition_56 : decode cX12_condition 56 = .ok (.istore_n 3, 1) := by decide +kernel
theorem dX12_condition_57 : decode cX12_condition 57 = .ok (.goto (-50), 3) := by decide +kernel
theorem dX12_condition_60 : decode cX12_condition 60 = .ok (.iload_n 3, 1) := by decide +kernel
theorem dX12_condition_61 : decode cX12_condition 61 = .ok (.ireturn, 1) := by decide +kernel
theorem dX12_clause_0 : decode cX12_clause 0 = .ok (.aload_n 0, 1) := by decide +kernel
theorem dX12_clause_1 : decode cX12_clause 1 = .ok (.invokevirtual 153, 3) := by decide +kernel
theorem dX12_clause_4 : decode cX12_clause 4 = .ok (.istore_n 1, 1) := by decide +kernel
theorem dX12_clause_5 : decode cX12_clause 5 = .ok (.ldc 26, 2) := by decide +kernel
theorem dX12_clause_7 : decode cX12_clause 7 = .ok (.iload_n 1, 1) := by decide +kernel
theorem dX12_clause_8 : decode cX12_clause 8 = .ok (.invokestatic 169, 3) := by decide +kernel
theorem dX12_clause_11 : decode cX12_clause 11 = .ok (.ifCond .ne 9, 3) := by decide +kernel
theorem dX12_clause_14 : decode cX12_clause 14 = .ok (.aload_n 0, 1) := by decide +kernel
theorem dX12_clause_15 : decode cX12_clause 15 = .ok (.invokevirtual 149, 3) := by decide +kernel
theorem dX12_clause_18 : decode cX12_clause 18 = .ok (.pop, 1) := by decide +kernel
theorem dX12_clause_19 : decode cX12_clause 19 = .ok (.return_, 1) := by decide +kernel
theorem dX12_clause_20 : decode cX12_clause 20 = .ok (.aload_n 0, 1) := by decide +kernel
theorem dX12_clause_21 : decode cX12_clause 21 = .ok (.dup, 1) := by decide +kernel
theorem dX12_clause_22 : decode cX12_clause 22 = .ok (.getfield 134, 3) := by decide +kernel
theorem dX12_clause_25 : decode cX12_clause 25 = .ok (.iconst 1, 1) := by decide +kernel
theorem dX12_clause_26 : decode cX12_clause 26 = .ok (.iadd, 1) := by decide +kernel
theorem dX12_clause_27 : decode cX12_clause 27 = .ok (.putfield 134, 3) := by decide +kernel
theorem dX12_clause_30 : decode cX12_clause 30 = .ok (.aload_n 0, 1) := by decide +kernel
theorem dX12_clause_31 : decode cX12_clause 31 = .ok (.bipush 58, 2) := by decide +kernel
theorem dX12_clause_33 : decode cX12_clause 33 = .ok (.invokevirtual 179, 3) := by decide +kernel
theorem dX12_clause_36 : decode cX12_clause 36 = .ok (.ifCond .ne 4, 3) := by decide +kernel
theorem dX12_clause_39 : decode cX12_clause 39 = .ok (.return_, 1) := by decide +kernel
theorem dX12_clause_40 : decode cX12_clause 40 = .ok (.iconst 1, 1) := by decide +kernel
theorem dX12_clause_41 : decode cX12_clause 41 = .ok (.istore_n 2, 1) := by decide +kernel
theorem dX12_clause_42 : decode cX12_clause 42 = .ok (.iconst 0, 1) := by decide +kernel
theorem dX12_clause_43 : decode cX12_clause 43 = .ok (.istore_n 3, 1) := by decide +kernel
theorem dX12_clause_44 : decode cX12_clause 44 = .ok (.aload_n 0, 1) := by decide +kernel
theorem dX12_clause_45 : decode cX12_clause 45 = .ok (.invokevirtual 153, 3) := by decide +kernel
theorem dX12_clause_48 : decode cX12_clause 48 = .ok (.istore 4, 2) := by decide +kernel
theorem dX12_clause_50 : decode cX12_clause 50 = .ok (.iload 4, 2) := by decide +kernel
theorem dX12_clause_52 : decode cX12_clause 52 = .ok (.bipush 33, 2) := by decide +kernel
theorem dX12_clause_54 : decode cX12_clause 54 = .ok (.if_icmp .eq 10, 3) := by decide +kernel
theorem dX12_clause_57 : decode cX12_clause 57 = .ok (.iload 4, 2) := by decide +kernel
theorem dX12_clause_59 : decode cX12_clause 59 = .ok (.bipush 40, 2) := by decide +kernel
theorem dX12_clause_61 : decode cX12_clause 61 = .ok (.if_icmp .ne 28, 3) := by decide +kernel
theorem dX12_clause_64 : decode cX12_clause 64 = .ok (.aload_n 0, 1) := by decide +kernel
theorem dX12_clause_65 : decode cX12_clause 65 = .ok (.iconst 0, 1) := by decide +kernel
theorem dX12_clause_66 : decode cX12_clause 66 = .ok (.iconst 0, 1) := by decide +kernel
theorem dX12_clause_67 : decode cX12_clause 67 = .ok (.invokevirtual 202, 3) := by decide +kernel
theorem dX12_clause_70 : decode cX12_clause 70 = .ok (.istore_n 2, 1) := by decide +kernel
theorem dX12_clause_71 : decode cX12_clause 71 = .ok (.aload_n 0, 1) := by decide +kernel
theorem dX12_clause_72 : decode cX12_clause 72 = .ok (.bipush 63, 2) := by decide +kernel
theorem dX12_clause_74 : decode cX12_clause 74 = .ok (.invokevirtual 179, 3) := by decide +kernel
theorem dX12_clause_77 : decode cX12_clause 77 = .ok (.ifCond .ne 4, 3) := by decide +kernel
theorem dX12_clause_80 : decode cX12_clause 80 = .ok (.return_, 1) := by decide +kernel
theorem dX12_clause_81 : decode cX12_clause 81 = .ok (.aload_n 0, 1) := by decide +kernel
theorem dX12_clause_82 : decode cX12_clause 82 = .ok (.invokevirtual 176, 3) := by decide +kernel
theorem dX12_clause_85 : decode cX12_clause 85 = .ok (.istore_n 3, 1) := by decide +kernel
theorem dX12_clause_86 : decode cX12_clause 86 = .ok (.goto 48, 3) := by decide +kernel
theorem dX12_clause_89 : decode cX12_clause 89 = .ok (.aload_n 0, 1) := by decide +kernel
theorem dX12_clause_90 : decode cX12_clause 90 = .ok (.invokevirtual 176, 3) := by decide +kernel
theorem dX12_clause_93 : decode cX12_clause 93 = .ok (.istore_n 3, 1) := by decide +kernel
theorem dX12_clause_94 : decode cX12_clause 94 = .ok (.aload_n 0, 1) := by decide +kernel
theorem dX12_clause_95 : decode cX12_clause 95 = .ok (.getfield 143, 3) := by decide +kernel
theorem dX12_clause_98 : decode cX12_clause 98 = .ok (.iconst (-1), 1) := by decide +kernel
theorem dX12_clause_99 : decode cX12_clause 99 = .ok (.if_icmp .ne 35, 3) := by decide +kernel
theorem dX12_clause_102 : decode cX12_clause 102 = .ok (.aload_n 0, 1) := by decide +kernel
theorem dX12_clause_103 : decode cX12_clause 103 = .ok (.invokevirtual 153, 3) := by decide +kernel
theorem dX12_clause_106 : decode cX12_clause 106 = .ok (.invokestatic 196, 3) := by decide +kernel
theorem dX12_clause_109 : decode cX12_clause 109 = .ok (.ifCond .eq 25, 3) := by decide +kernel
theorem dX12_clause_112 : decode cX12_clause 112 = .ok (.aload_n 0, 1) := by decide +kernel
theorem dX12_clause_113 : decode cX12_clause 113 = .ok (.iconst 1, 1) := by decide +kernel
theorem dX12_clause_114 : decode cX12_clause 114 = .ok (.iload_n 3, 1) := by decide +kernel
theorem dX12_clause_115 : decode cX12_clause 115 = .ok (.invokevirtual 202, 3) := by decide +kernel
theorem dX12_clause_118 : decode cX12_clause 118 = .ok (.istore_n 2, 1) := by decide +kernel
theorem dX12_clause_119 : decode cX12_clause 119 = .ok (.aload_n 0, 1) := by decide +kernel
theorem dX12_clause_120 : decode cX12_clause 120 = .ok (.bipush 63, 2) := by decide +kernel
theorem dX12_clause_122 : decode cX12_clause 122 = .ok (.invokevirtual 179, 3) := by decide +kernel
theorem dX12_clause_125 : decode cX12_clause 125 = .ok (.ifCond .ne 4, 3) := by decide +kernel
theorem dX12_clause_128 : decode cX12_clause 128 = .ok (.return_, 1) := by decide +kernel
theorem dX12_clause_129 : decode cX12_clause 129 = .ok (.aload_n 0, 1) := by decide +kernel
theorem dX12_clause_130 : decode cX12_clause 130 = .ok (.invokevirtual 176, 3) := by decide +kernel
theorem dX12_clause_133 : decode cX12_clause 133 = .ok (.istore_n 3, 1) := by decide +kernel
theorem dX12_clause_134 : decode cX12_clause 134 = .ok (.aload_n 0, 1) := by decide +kernel
theorem dX12_clause_135 : decode cX12_clause 135 = .ok (.getfield 143, 3) := by decide +kernel
theorem dX12_clause_138 : decode cX12_clause 138 = .ok (.iconst (-1), 1) := by decide +kernel
theorem dX12_clause_139 : decode cX12_clause 139 = .ok (.if_icmp .ne 22, 3) := by decide +kernel
theorem dX12_clause_142 : decode cX12_clause 142 = .ok (.aload_n 0, 1) := by decide +kernel
theorem dX12_clause_143 : decode cX12_clause 143 = .ok (.getfield 212, 3) := by decide +kernel
theorem dX12_clause_146 : decode cX12_clause 146 = .ok (.ifCond .ne 15, 3) := by decide +kernel
theorem dX12_clause_149 : decode cX12_clause 149 = .ok (.iload_n 1, 1) := by decide +kernel
theorem dX12_clause_150 : decode cX12_clause 150 = .ok (.aload_n 0, 1) := by decide +kernel
theorem dX12_clause_151 : decode cX12_clause 151 = .ok (.getfield 216, 3) := by decide +kernel
theorem dX12_clause_154 : decode cX12_clause 154 = .ok (.if_icmp .ne 7, 3) := by decide +kernel
theorem dX12_clause_157 : decode cX12_clause 157 = .ok (.iload_n 2, 1) := by decide +kernel
theorem dX12_clause_158 : decode cX12_clause 158 = .ok (.ifCond .ne 4, 3) := by decide +kernel
theorem dX12_clause_161 : decode cX12_clause 161 = .ok (.return_, 1) := by decide +kernel
theorem dX12_clause_162 : decode cX12_clause 162 = .ok (.aload_n 0, 1) := by decide +kernel
theorem dX12_clause_163 : decode cX12_clause 163 = .ok (.iconst 1, 1) := by decide +kernel
theorem dX12_clause_164 : decode cX12_clause 164 = .ok (.putfield 212, 3) := by decide +kernel
theorem dX12_clause_167 : decode cX12_clause 167 = .ok (.aload_n 0, 1) := by decide +kernel
theorem dX12_clause_168 : decode cX12_clause 168 = .ok (.iload_n 3, 1) := by decide +kernel
theorem dX12_clause_169 : decode cX12_clause 169 = .ok (.putfield 219, 3) := by decide +kernel
theorem dX12_clause_172 : decode cX12_clause 172 = .ok (.return_, 1) := by decide +kernel
theorem dX12_starts_0 : decode cX12_starts 0 = .ok (.aload_n 0, 1) := by decide +kernel
theorem dX12_starts_1 : decode cX12_starts 1 = .ok (.aload_n 1, 1) := by decide +kernel
theorem dX12_starts_2 : decode cX12_starts 2 = .ok (.putfield 23, 3) := by decide +kernel
theorem dX12_starts_5 : decode cX12_starts 5 = .ok (.aload_n 0, 1) := by decide +kernel
theorem dX12_starts_6 : decode cX12_starts 6 = .ok (.iload_n 2, 1) := by decide +kernel
theorem dX12_starts_7 : decode cX12_starts 7 = .ok (.putfield 140, 3) := by decide +kernel
theorem dX12_starts_10 : decode cX12_starts 10 = .ok (.aload_n 0, 1) := by decide +kernel
theorem dX12_starts_11 : decode cX12_starts 11 = .ok (.iload_n 3, 1) := by decide +kernel
theorem dX12_starts_12 : decode cX12_starts 12 = .ok (.putfield 137, 3) := by decide +kernel
theorem dX12_starts_15 : decode cX12_starts 15 = .ok (.aload_n 0, 1) := by decide +kernel
theorem dX12_starts_16 : decode cX12_starts 16 = .ok (.iconst 0, 1) := by decide +kernel
theorem dX12_starts_17 : decode cX12_starts 17 = .ok (.putfield 134, 3) := by decide +kernel
theorem dX12_starts_20 : decode cX12_starts 20 = .ok (.aload_n 0, 1) := by decide +kernel
theorem dX12_starts_21 : decode cX12_starts 21 = .ok (.iconst (-1), 1) := by decide +kernel
theorem dX12_starts_22 : decode cX12_starts 22 = .ok (.putfield 143, 3) := by decide +kernel
theorem dX12_starts_25 : decode cX12_starts 25 = .ok (.return_, 1) := by decide +kernel
theorem dX12_goThrough_0 : decode cX12_goThrough 0 = .ok (.aload_n 0, 1) := by decide +kernel
theorem dX12_goThrough_1 : decode cX12_goThrough 1 = .ok (.aload_n 1, 1) := by decide +kernel
theorem dX12_goThrough_2 : decode cX12_goThrough 2 = .ok (.iload_n 2, 1) := by decide +kernel
theorem dX12_goThrough_3 : decode cX12_goThrough 3 = .ok (.iload_n 3, 1) := by decide +kernel
theorem dX12_goThrough_4 : decode cX12_goThrough 4 = .ok (.invokevirtual 222, 3) := by decide +kernel
theorem dX12_goThrough_7 : decode cX12_goThrough 7 = .ok (.aload_n 0, 1) := by decide +kernel
theorem dX12_goThrough_8 : decode cX12_goThrough 8 = .ok (.bipush 121, 2) := by decide +kernel
theorem dX12_goThrough_10 : decode cX12_goThrough 10 = .ok (.putfield 216, 3) := by decide +kernel
theorem dX12_goThrough_13 : decode cX12_goThrough 13 = .ok (.aload_n 0, 1) := by decide +kernel
theorem dX12_goThrough_14 : decode cX12_goThrough 14 = .ok (.iconst 0, 1) := by decide +kernel
theorem dX12_goThrough_15 : decode cX12_goThrough 15 = .ok (.putfield 146, 3) := by decide +kernel
theorem dX12_goThrough_18 : decode cX12_goThrough 18 = .ok (.aload_n 0, 1) := by decide +kernel
theorem dX12_goThrough_19 : decode cX12_goThrough 19 = .ok (.iconst 0, 1) := by decide +kernel
theorem dX12_goThrough_20 : decode cX12_goThrough 20 = .ok (.putfield 212, 3) := by decide +kernel
theorem dX12_goThrough_23 : decode cX12_goThrough 23 = .ok (.aload_n 0, 1) := by decide +kernel
theorem dX12_goThrough_24 : decode cX12_goThrough 24 = .ok (.iconst 0, 1) := by decide +kernel
theorem dX12_goThrough_25 : decode cX12_goThrough 25 = .ok (.putfield 219, 3) := by decide +kernel
theorem dX12_goThrough_28 : decode cX12_goThrough 28 = .ok (.aload_n 0, 1) := by decide +kernel
theorem dX12_goThrough_29 : decode cX12_goThrough 29 = .ok (.invokevirtual 226, 3) := by decide +kernel
theorem dX12_goThrough_32 : decode cX12_goThrough 32 = .ok (.aload_n 0, 1) := by decide +kernel
theorem dX12_goThrough_33 : decode cX12_goThrough 33 = .ok (.getfield 143, 3) := by decide +kernel
theorem dX12_goThrough_36 : decode cX12_goThrough 36 = .ok (.iconst (-1), 1) := by decide +kernel
theorem dX12_goThrough_37 : decode cX12_goThrough 37 = .ok (.if_icmp .ne 29, 3) := by decide +kernel
theorem dX12_goThrough_40 : decode cX12_goThrough 40 = .ok (.aload_n 0, 1) := by decide +kernel
theorem dX12_goThrough_41 : decode cX12_goThrough 41 = .ok (.invokevirtual 153, 3) := by decide +kernel
theorem dX12_goThrough_44 : decode cX12_goThrough 44 = .ok (.bipush 59, 2) := by decide +kernel
theorem dX12_goThrough_46 : decode cX12_goThrough 46 = .ok (.if_icmp .ne 20, 3) := by decide +kernel
theorem dX12_goThrough_49 : decode cX12_goThrough 49 = .ok (.aload_n 0, 1) := by decide +kernel
theorem dX12_goThrough_50 : decode cX12_goThrough 50 = .ok (.dup, 1) := by decide +kernel
theorem dX12_goThrough_51 : decode cX12_goThrough 51 = .ok (.getfield 134, 3) := by decide +kernel
theorem dX12_goThrough_54 : decode cX12_goThrough 54 = .ok (.iconst 1, 1) := by decide +kernel
theorem dX12_goThrough_55 : decode cX12_goThrough 55 = .ok (.iadd, 1) := by decide +kernel
theorem dX12_goThrough_56 : decode cX12_goThrough 56 = .ok (.putfield 134, 3) := by decide +kernel
theorem dX12_goThrough_59 : decode cX12_goThrough 59 = .ok (.aload_n 0, 1) := by decide +kernel
theorem dX12_goThrough_60 : decode cX12_goThrough 60 = .ok (.invokevirtual 226, 3) := by decide +kernel
theorem dX12_goThrough_63 : decode cX12_goThrough 63 = .ok (.goto (-31), 3) := by decide +kernel
theorem dX12_goThrough_66 : decode cX12_goThrough 66 = .ok (.aload_n 0, 1) := by decide +kernel
theorem dX12_goThrough_67 : decode cX12_goThrough 67 = .ok (.getfield 143, 3) := by decide +kernel
theorem dX12_goThrough_70 : decode cX12_goThrough 70 = .ok (.iconst (-1), 1) := by decide +kernel
theorem dX12_goThrough_71 : decode cX12_goThrough 71 = .ok (.if_icmp .ne 16, 3) := by decide +kernel
theorem dX12_goThrough_74 : decode cX12_goThrough 74 = .ok (.aload_n 0, 1) := by decide +kernel
theorem dX12_goThrough_75 : decode cX12_goThrough 75 = .ok (.invokevirtual 153, 3) := by decide +kernel
theorem dX12_goThrough_78 : decode cX12_goThrough 78 = .ok (.iconst (-1), 1) := by decide +kernel
theorem dX12_goThrough_79 : decode cX12_goThrough 79 = .ok (.if_icmp .eq 8, 3) := by decide +kernel
theorem dX12_goThrough_82 : decode cX12_goThrough 82 = .ok (.aload_n 0, 1) := by decide +kernel
theorem dX12_goThrough_83 : decode cX12_goThrough 83 = .ok (.invokevirtual 149, 3) := by decide +kernel
theorem dX12_goThrough_86 : decode cX12_goThrough 86 = .ok (.pop, 1) := by decide +kernel
theorem dX12_goThrough_87 : decode cX12_goThrough 87 = .ok (.return_, 1) := by decide +kernel
theorem dX12_here_0 : decode cX12_here 0 = .ok (.aload_n 0, 1) := by decide +kernel
theorem dX12_here_1 : decode cX12_here 1 = .ok (.getfield 134, 3) := by decide +kernel
theorem dX12_here_4 : decode cX12_here 4 = .ok (.aload_n 0, 1) := by decide +kernel
theorem dX12_here_5 : decode cX12_here 5 = .ok (.getfield 137, 3) := by decide +kernel
theorem dX12_here_8 : decode cX12_here 8 = .ok (.if_icmp .ge 24, 3) := by decide +kernel
theorem dX12_here_11 : decode cX12_here 11 = .ok (.aload_n 0, 1) := by decide +kernel
theorem dX12_here_12 : decode cX12_here 12 = .ok (.getfield 23, 3) := by decide +kernel
theorem dX12_here_15 : decode cX12_here 15 = .ok (.aload_n 0, 1) := by decide +kernel
theorem dX12_here_16 : decode cX12_here 16 = .ok (.getfield 140, 3) := by decide +kernel
theorem dX12_here_19 : decode cX12_here 19 = .ok (.aload_n 0, 1) := by decide +kernel
theorem dX12_here_20 : decode cX12_here 20 = .ok (.getfield 134, 3) := by decide +kernel
theorem dX12_here_23 : decode cX12_here 23 = .ok (.iadd, 1) := by decide +kernel
theorem dX12_here_24 : decode cX12_here 24 = .ok (.baload, 1) := by decide +kernel
theorem dX12_here_25 : decode cX12_here 25 = .ok (.sipush 255, 3) := by decide +kernel
theorem dX12_here_28 : decode cX12_here 28 = .ok (.iand, 1) := by decide +kernel
theorem dX12_here_29 : decode cX12_here 29 = .ok (.goto 4, 3) := by decide +kernel
theorem dX12_here_32 : decode cX12_here 32 = .ok (.iconst (-1), 1) := by decide +kernel
theorem dX12_here_33 : decode cX12_here 33 = .ok (.ireturn, 1) := by decide +kernel
theorem dX12_spotOf_0 : decode cX12_spotOf 0 = .ok (.iconst 0, 1) := by decide +kernel
theorem dX12_spotOf_1 : decode cX12_spotOf 1 = .ok (.istore_n 2, 1) := by decide +kernel
theorem dX12_spotOf_2 : decode cX12_spotOf 2 = .ok (.iload_n 2, 1) := by decide +kernel
theorem dX12_spotOf_3 : decode cX12_spotOf 3 = .ok (.aload_n 0, 1) := by decide +kernel
theorem dX12_spotOf_4 : decode cX12_spotOf 4 = .ok (.invokevirtual 114, 3) := by decide +kernel
theorem dX12_spotOf_7 : decode cX12_spotOf 7 = .ok (.if_icmp .ge 20, 3) := by decide +kernel
theorem dX12_spotOf_10 : decode cX12_spotOf 10 = .ok (.aload_n 0, 1) := by decide +kernel
theorem dX12_spotOf_11 : decode cX12_spotOf 11 = .ok (.iload_n 2, 1) := by decide +kernel
theorem dX12_spotOf_12 : decode cX12_spotOf 12 = .ok (.invokevirtual 120, 3) := by decide +kernel
theorem dX12_spotOf_15 : decode cX12_spotOf 15 = .ok (.iload_n 1, 1) := by decide +kernel
theorem dX12_spotOf_16 : decode cX12_spotOf 16 = .ok (.if_icmp .ne 5, 3) := by decide +kernel
theorem dX12_spotOf_19 : decode cX12_spotOf 19 = .ok (.iload_n 2, 1) := by decide +kernel
theorem dX12_spotOf_20 : decode cX12_spotOf 20 = .ok (.ireturn, 1) := by decide +kernel
theorem dX12_spotOf_21 : decode cX12_spotOf 21 = .ok (.iinc 2 1, 3) := by decide +kernel
theorem dX12_spotOf_24 : decode cX12_spotOf 24 = .ok (.goto (-22), 3) := by decide +kernel
theorem dX12_spotOf_27 : decode cX12_spotOf 27 = .ok (.iconst (-1), 1) := by decide +kernel
theorem dX12_spotOf_28 : decode cX12_spotOf 28 = .ok (.ireturn, 1) := by decide +kernel
theorem dX12_number_0 : decode cX12_number 0 = .ok (.aload_n 0, 1) := by decide +kernel
theorem dX12_number_1 : decode cX12_number 1 = .ok (.invokevirtual 153, 3) := by decide +kernel
theorem dX12_number_4 : decode cX12_number 4 = .ok (.istore_n 3, 1) := by decide +kernel
theorem dX12_number_5 : decode cX12_number 5 = .ok (.aload_n 0, 1) := by decide +kernel
theorem dX12_number_6 : decode cX12_number 6 = .ok (.invokevirtual 183, 3) := by decide +kernel
theorem dX12_number_9 : decode cX12_number 9 = .ok (.ifCond .ne 10, 3) := by decide +kernel
theorem dX12_number_12 : decode cX12_number 12 = .ok (.aload_n 0, 1) := by decide +kernel
theorem dX12_number_13 : decode cX12_number 13 = .ok (.invokevirtual 149, 3) := by decide +kernel
theorem dX12_number_16 : decode cX12_number 16 = .ok (.pop, 1) := by decide +kernel
theorem dX12_number_17 : decode cX12_number 17 = .ok (.iconst 0, 1) := by decide +kernel
theorem dX12_number_18 : decode cX12_number 18 = .ok (.ireturn, 1) := by decide +kernel
theorem dX12_number_19 : decode cX12_number 19 = .ok (.iload_n 3, 1) := by decide +kernel
theorem dX12_number_20 : decode cX12_number 20 = .ok (.bipush 48, 2) := by decide +kernel
theorem dX12_number_22 : decode cX12_number 22 = .ok (.isub, 1) := by decide +kernel
theorem dX12_number_23 : decode cX12_number 23 = .ok (.istore 4, 2) := by decide +kernel
theorem dX12_number_25 : decode cX12_number 25 = .ok (.aload_n 0, 1) := by decide +kernel
theorem dX12_number_26 : decode cX12_number 26 = .ok (.dup, 1) := by decide +kernel
theorem dX12_number_27 : decode cX12_number 27 = .ok (.getfield 134, 3) := by decide +kernel
theorem dX12_number_30 : decode cX12_number 30 = .ok (.iconst 1, 1) := by decide +kernel
theorem dX12_number_31 : decode cX12_number 31 = .ok (.iadd, 1) := by decide +kernel
theorem dX12_number_32 : decode cX12_number 32 = .ok (.putfield 134, 3) := by decide +kernel
theorem dX12_number_35 : decode cX12_number 35 = .ok (.aload_n 0, 1) := by decide +kernel
theorem dX12_number_36 : decode cX12_number 36 = .ok (.invokevirtual 183, 3) := by decide +kernel
theorem dX12_number_39 : decode cX12_number 39 = .ok (.ifCond .eq 28, 3) := by decide +kernel
theorem dX12_number_42 : decode cX12_number 42 = .ok (.bipush 10, 2) := by decide +kernel
theorem dX12_number_44 : decode cX12_number 44 = .ok (.iload 4, 2) := by decide +kernel
theorem dX12_number_46 : decode cX12_number 46 = .ok (.imul, 1) := by decide +kernel
theorem dX12_number_47 : decode cX12_number 47 = .ok (.aload_n 0, 1) := by decide +kernel
theorem dX12_number_48 : decode cX12_number 48 = .ok (.invokevirtual 229, 3) := by decide +kernel
theorem dX12_number_51 : decode cX12_number 51 = .ok (.iadd, 1) := by decide +kernel
theorem dX12_number_52 : decode cX12_number 52 = .ok (.bipush 48, 2) := by decide +kernel
theorem dX12_number_54 : decode cX12_number 54 = .ok (.isub, 1) := by decide +kernel
theorem dX12_number_55 : decode cX12_number 55 = .ok (.istore 4, 2) := by decide +kernel
theorem dX12_number_57 : decode cX12_number 57 = .ok (.aload_n 0, 1) := by decide +kernel
theorem dX12_number_58 : decode cX12_number 58 = .ok (.dup, 1) := by decide +kernel
theorem dX12_number_59 : decode cX12_number 59 = .ok (.getfield 134, 3) := by decide +kernel
theorem dX12_number_62 : decode cX12_number 62 = .ok (.iconst 1, 1) := by decide +kernel
theorem dX12_number_63 : decode cX12_number 63 = .ok (.iadd, 1) := by decide +kernel
theorem dX12_number_64 : decode cX12_number 64 = .ok (.putfield 134, 3) := by decide +kernel
theorem dX12_number_67 : decode cX12_number 67 = .ok (.aload_n 0, 1) := by decide +kernel
theorem dX12_number_68 : decode cX12_number 68 = .ok (.invokevirtual 183, 3) := by decide +kernel
theorem dX12_number_71 : decode cX12_number 71 = .ok (.ifCond .eq 10, 3) := by decide +kernel
theorem dX12_number_74 : decode cX12_number 74 = .ok (.aload_n 0, 1) := by decide +kernel
theorem dX12_number_75 : decode cX12_number 75 = .ok (.invokevirtual 149, 3) := by decide +kernel
theorem dX12_number_78 : decode cX12_number 78 = .ok (.pop, 1) := by decide +kernel
theorem dX12_number_79 : decode cX12_number 79 = .ok (.iconst 0, 1) := by decide +kernel
theorem dX12_number_80 : decode cX12_number 80 = .ok (.ireturn, 1) := by decide +kernel
theorem dX12_number_81 : decode cX12_number 81 = .ok (.iload 4, 2) := by decide +kernel
theorem dX12_number_83 : decode cX12_number 83 = .ok (.i2l, 1) := by decide +kernel
theorem dX12_number_84 : decode cX12_number 84 = .ok (.iload_n 1, 1) := by decide +kernel
theorem dX12_number_85 : decode cX12_number 85 = .ok (.i2l, 1) := by decide +kernel
theorem dX12_number_86 : decode cX12_number 86 = .ok (.iload_n 2, 1) := by decide +kernel
theorem dX12_number_87 : decode cX12_number 87 = .ok (.i2l, 1) := by decide +kernel
theorem dX12_number_88 : decode cX12_number 88 = .ok (.invokestatic 232, 3) := by decide +kernel
theorem dX12_number_91 : decode cX12_number 91 = .ok (.ifCond .ne 18, 3) := by decide +kernel
theorem dX12_number_94 : decode cX12_number 94 = .ok (.aload_n 0, 1) := by decide +kernel
theorem dX12_number_95 : decode cX12_number 95 = .ok (.dup, 1) := by decide +kernel
theorem dX12_number_96 : decode cX12_number 96 = .ok (.getfield 134, 3) := by decide +kernel
theorem dX12_number_99 : decode cX12_number 99 = .ok (.iconst 1, 1) := by decide +kernel
theorem dX12_number_100 : decode cX12_number 100 = .ok (.isub, 1) := by decide +kernel
theorem dX12_number_101 : decode cX12_number 101 = .ok (.putfield 134, 3) := by decide +kernel
theorem dX12_number_104 : decode cX12_number 104 = .ok (.aload_n 0, 1) := by decide +kernel
theorem dX12_number_105 : decode cX12_number 105 = .ok (.invokevirtual 149, 3) := by decide +kernel
theorem dX12_number_108 : decode cX12_number 108 = .ok (.pop, 1) := by decide +kernel
theorem dX12_number_109 : decode cX12_number 109 = .ok (.iload 4, 2) := by decide +kernel
theorem dX12_number_111 : decode cX12_number 111 = .ok (.ireturn, 1) := by decide +kernel
theorem dX12_mostOf_0 : decode cX12_mostOf 0 = .ok (.iload_n 0, 1) := by decide +kernel
theorem dX12_mostOf_1 : decode cX12_mostOf 1 = .ok (.bipush 115, 2) := by decide +kernel
theorem dX12_mostOf_3 : decode cX12_mostOf 3 = .ok (.if_icmp .ne 34, 3) := by decide +kernel
theorem dX12_mostOf_6 : decode cX12_mostOf 6 = .ok (.iload_n 1, 1) := by decide +kernel
theorem dX12_mostOf_7 : decode cX12_mostOf 7 = .ok (.ifCond .ne 8, 3) := by decide +kernel
theorem dX12_mostOf_10 : decode cX12_mostOf 10 = .ok (.bipush 9, 2) := by decide +kernel
theorem dX12_mostOf_12 : decode cX12_mostOf 12 = .ok (.goto 24, 3) := by decide +kernel
theorem dX12_mostOf_15 : decode cX12_mostOf 15 = .ok (.iload_n 1, 1) := by decide +kernel
theorem dX12_mostOf_16 : decode cX12_mostOf 16 = .ok (.iconst 1, 1) := by decide +kernel
theorem dX12_mostOf_17 : decode cX12_mostOf 17 = .ok (.if_icmp .ne 7, 3) := by decide +kernel
theorem dX12_mostOf_20 : decode cX12_mostOf 20 = .ok (.iconst 3, 1) := by decide +kernel
theorem dX12_mostOf_21 : decode cX12_mostOf 21 = .ok (.goto 15, 3) := by decide +kernel
theorem dX12_mostOf_24 : decode cX12_mostOf 24 = .ok (.iload_n 1, 1) := by decide +kernel
theorem dX12_mostOf_25 : decode cX12_mostOf 25 = .ok (.iconst 2, 1) := by decide +kernel
theorem dX12_mostOf_26 : decode cX12_mostOf 26 = .ok (.if_icmp .ne 8, 3) := by decide +kernel
theorem dX12_mostOf_29 : decode cX12_mostOf 29 = .ok (.bipush 12, 2) := by decide +kernel
theorem dX12_mostOf_31 : decode cX12_mostOf 31 = .ok (.goto 5, 3) := by decide +kernel
theorem dX12_mostOf_34 : decode cX12_mostOf 34 = .ok (.bipush 20, 2) := by decide +kernel
theorem dX12_mostOf_36 : decode cX12_mostOf 36 = .ok (.ireturn, 1) := by decide +kernel
theorem dX12_mostOf_37 : decode cX12_mostOf 37 = .ok (.iload_n 0, 1) := by decide +kernel
theorem dX12_mostOf_38 : decode cX12_mostOf 38 = .ok (.bipush 99, 2) := by decide +kernel
theorem dX12_mostOf_40 : decode cX12_mostOf 40 = .ok (.if_icmp .ne 15, 3) := by decide +kernel
theorem dX12_mostOf_43 : decode cX12_mostOf 43 = .ok (.iload_n 1, 1) := by decide +kernel
theorem dX12_mostOf_44 : decode cX12_mostOf 44 = .ok (.iconst 2, 1) := by decide +kernel
theorem dX12_mostOf_45 : decode cX12_mostOf 45 = .ok (.if_icmp .ne 7, 3) := by decide +kernel
theorem dX12_mostOf_48 : decode cX12_mostOf 48 = .ok (.iconst 4, 1) := by decide +kernel
theorem dX12_mostOf_49 : decode cX12_mostOf 49 = .ok (.goto 5, 3) := by decide +kernel
theorem dX12_mostOf_52 : decode cX12_mostOf 52 = .ok (.bipush 9, 2) := by decide +kernel
theorem dX12_mostOf_54 : decode cX12_mostOf 54 = .ok (.ireturn, 1) := by decide +kernel
theorem dX12_mostOf_55 : decode cX12_mostOf 55 = .ok (.iload_n 1, 1) := by decide +kernel
theorem dX12_mostOf_56 : decode cX12_mostOf 56 = .ok (.bipush 6, 2) := by decide +kernel
theorem dX12_mostOf_58 : decode cX12_mostOf 58 = .ok (.if_icmp .ne 7, 3) := by decide +kernel
theorem dX12_mostOf_61 : decode cX12_mostOf 61 = .ok (.iconst 3, 1) := by decide +kernel
theorem dX12_mostOf_62 : decode cX12_mostOf 62 = .ok (.goto 5, 3) := by decide +kernel
theorem dX12_mostOf_65 : decode cX12_mostOf 65 = .ok (.bipush 9, 2) := by decide +kernel
theorem dX12_mostOf_67 : decode cX12_mostOf 67 = .ok (.ireturn, 1) := by decide +kernel
theorem dX12_leastOf_0 : decode cX12_leastOf 0 = .ok (.iload_n 0, 1) := by decide +kernel
theorem dX12_leastOf_1 : decode cX12_leastOf 1 = .ok (.bipush 115, 2) := by decide +kernel
theorem dX12_leastOf_3 : decode cX12_leastOf 3 = .ok (.if_icmp .ne 8, 3) := by decide +kernel
theorem dX12_leastOf_6 : decode cX12_leastOf 6 = .ok (.iload_n 1, 1) := by decide +kernel
theorem dX12_leastOf_7 : decode cX12_leastOf 7 = .ok (.iconst 1, 1) := by decide +kernel
theorem dX12_leastOf_8 : decode cX12_leastOf 8 = .ok (.if_icmp .gt 14, 3) := by decide +kernel
theorem dX12_leastOf_11 : decode cX12_leastOf 11 = .ok (.iload_n 0, 1) := by decide +kernel
theorem dX12_leastOf_12 : decode cX12_leastOf 12 = .ok (.bipush 99, 2) := by decide +kernel
theorem dX12_leastOf_14 : decode cX12_leastOf 14 = .ok (.if_icmp .ne 12, 3) := by decide +kernel
theorem dX12_leastOf_17 : decode cX12_leastOf 17 = .ok (.iload_n 1, 1) := by decide +kernel
theorem dX12_leastOf_18 : decode cX12_leastOf 18 = .ok (.iconst 2, 1) := by decide +kernel
theorem dX12_leastOf_19 : decode cX12_leastOf 19 = .ok (.if_icmp .ne 7, 3) := by decide +kernel
theorem dX12_leastOf_22 : decode cX12_leastOf 22 = .ok (.iconst 1, 1) := by decide +kernel
theorem dX12_leastOf_23 : decode cX12_leastOf 23 = .ok (.goto 4, 3) := by decide +kernel
theorem dX12_leastOf_26 : decode cX12_leastOf 26 = .ok (.iconst 0, 1) := by decide +kernel
theorem dX12_leastOf_27 : decode cX12_leastOf 27 = .ok (.ireturn, 1) := by decide +kernel
theorem dX12_usual_0 : decode cX12_usual 0 = .ok (.iload_n 0, 1) := by decide +kernel
theorem dX12_usual_1 : decode cX12_usual 1 = .ok (.bipush 115, 2) := by decide +kernel
theorem dX12_usual_3 : decode cX12_usual 3 = .ok (.if_icmp .ne 33, 3) := by decide +kernel
theorem dX12_usual_6 : decode cX12_usual 6 = .ok (.iload_n 1, 1) := by decide +kernel
theorem dX12_usual_7 : decode cX12_usual 7 = .ok (.ifCond .ne 7, 3) := by decide +kernel
theorem dX12_usual_10 : decode cX12_usual 10 = .ok (.iconst 2, 1) := by decide +kernel
theorem dX12_usual_11 : decode cX12_usual 11 = .ok (.goto 24, 3) := by decide +kernel
theorem dX12_usual_14 : decode cX12_usual 14 = .ok (.iload_n 1, 1) := by decide +kernel
theorem dX12_usual_15 : decode cX12_usual 15 = .ok (.iconst 1, 1) := by decide +kernel
theorem dX12_usual_16 : decode cX12_usual 16 = .ok (.if_icmp .ne 7, 3) := by decide +kernel
theorem dX12_usual_19 : decode cX12_usual 19 = .ok (.iconst 0, 1) := by decide +kernel
theorem dX12_usual_20 : decode cX12_usual 20 = .ok (.goto 15, 3) := by decide +kernel
theorem dX12_usual_23 : decode cX12_usual 23 = .ok (.iload_n 1, 1) := by decide +kernel
theorem dX12_usual_24 : decode cX12_usual 24 = .ok (.iconst 2, 1) := by decide +kernel
theorem dX12_usual_25 : decode cX12_usual 25 = .ok (.if_icmp .ne 8, 3) := by decide +kernel
theorem dX12_usual_28 : decode cX12_usual 28 = .ok (.bipush 6, 2) := by decide +kernel
theorem dX12_usual_30 : decode cX12_usual 30 = .ok (.goto 5, 3) := by decide +kernel
theorem dX12_usual_33 : decode cX12_usual 33 = .ok (.bipush 8, 2) := by decide +kernel
theorem dX12_usual_35 : decode cX12_usual 35 = .ok (.ireturn, 1) := by decide +kernel
theorem dX12_usual_36 : decode cX12_usual 36 = .ok (.iload_n 0, 1) := by decide +kernel
theorem dX12_usual_37 : decode cX12_usual 37 = .ok (.bipush 99, 2) := by decide +kernel
theorem dX12_usual_39 : decode cX12_usual 39 = .ok (.if_icmp .ne 23, 3) := by decide +kernel
theorem dX12_usual_42 : decode cX12_usual 42 = .ok (.iload_n 1, 1) := by decide +kernel
theorem dX12_usual_43 : decode cX12_usual 43 = .ok (.iconst 2, 1) := by decide +kernel
theorem dX12_usual_44 : decode cX12_usual 44 = .ok (.if_icmp .ne 7, 3) := by decide +kernel
theorem dX12_usual_47 : decode cX12_usual 47 = .ok (.iconst 2, 1) := by decide +kernel
theorem dX12_usual_48 : decode cX12_usual 48 = .ok (.goto 13, 3) := by decide +kernel
theorem dX12_usual_51 : decode cX12_usual 51 = .ok (.iload_n 1, 1) := by decide +kernel
theorem dX12_usual_52 : decode cX12_usual 52 = .ok (.iconst 3, 1) := by decide +kernel
theorem dX12_usual_53 : decode cX12_usual 53 = .ok (.if_icmp .ne 7, 3) := by decide +kernel
theorem dX12_usual_56 : decode cX12_usual 56 = .ok (.iconst 3, 1) := by decide +kernel
theorem dX12_usual_57 : decode cX12_usual 57 = .ok (.goto 4, 3) := by decide +kernel
theorem dX12_usual_60 : decode cX12_usual 60 = .ok (.iconst 0, 1) := by decide +kernel
theorem dX12_usual_61 : decode cX12_usual 61 = .ok (.ireturn, 1) := by decide +kernel
theorem dX12_usual_62 : decode cX12_usual 62 = .ok (.iload_n 1, 1) := by decide +kernel
theorem dX12_usual_63 : decode cX12_usual 63 = .ok (.iconst 2, 1) := by decide +kernel
theorem dX12_usual_64 : decode cX12_usual 64 = .ok (.if_icmp .eq 9, 3) := by decide +kernel
theorem dX12_usual_67 : decode cX12_usual 67 = .ok (.iload_n 1, 1) := by decide +kernel
theorem dX12_usual_68 : decode cX12_usual 68 = .ok (.bipush 6, 2) := by decide +kernel
theorem dX12_usual_70 : decode cX12_usual 70 = .ok (.if_icmp .ne 7, 3) := by decide +kernel
theorem dX12_usual_73 : decode cX12_usual 73 = .ok (.iconst 3, 1) := by decide +kernel
theorem dX12_usual_74 : decode cX12_usual 74 = .ok (.goto 14, 3) := by decide +kernel
theorem dX12_usual_77 : decode cX12_usual 77 = .ok (.iload_n 1, 1) := by decide +kernel
theorem dX12_usual_78 : decode cX12_usual 78 = .ok (.bipush 7, 2) := by decide +kernel
theorem dX12_usual_80 : decode cX12_usual 80 = .ok (.if_icmp .ne 7, 3) := by decide +kernel
theorem dX12_usual_83 : decode cX12_usual 83 = .ok (.iconst 2, 1) := by decide +kernel
theorem dX12_usual_84 : decode cX12_usual 84 = .ok (.goto 4, 3) := by decide +kernel
theorem dX12_usual_87 : decode cX12_usual 87 = .ok (.iconst 0, 1) := by decide +kernel
theorem dX12_usual_88 : decode cX12_usual 88 = .ok (.ireturn, 1) := by decide +kernel
theorem dX12_readItems_0 : decode cX12_readItems 0 = .ok (.iconst 0, 1) := by decide +kernel
theorem dX12_readItems_1 : decode cX12_readItems 1 = .ok (.istore 5, 2) := by decide +kernel
theorem dX12_readItems_3 : decode cX12_readItems 3 = .ok (.iload 5, 2) := by decide +kernel
theorem dX12_readItems_5 : decode cX12_readItems 5 = .ok (.aload 4, 2) := by decide +kernel
theorem dX12_readItems_7 : decode cX12_readItems 7 = .ok (.invokevirtual 114, 3) := by decide +kernel
theorem dX12_readItems_10 : decode cX12_readItems 10 = .ok (.if_icmp .ge 21, 3) := by decide +kernel
theorem dX12_readItems_13 : decode cX12_readItems 13 = .ok (.aload_n 2, 1) := by decide +kernel
theorem dX12_readItems_14 : decode cX12_readItems 14 = .ok (.iload_n 3, 1) := by decide +kernel
theorem dX12_readItems_15 : decode cX12_readItems 15 = .ok (.iload 5, 2) := by decide +kernel
theorem dX12_readItems_17 : decode cX12_readItems 17 = .ok (.iadd, 1) := by decide +kernel
theorem dX12_readItems_18 : decode cX12_readItems 18 = .ok (.iload_n 1, 1) := by decide +kernel
theorem dX12_readItems_19 : decode cX12_readItems 19 = .ok (.iload 5, 2) := by decide +kernel
theorem dX12_readItems_21 : decode cX12_readItems 21 = .ok (.invokestatic 236, 3) := by decide +kernel
theorem dX12_readItems_24 : decode cX12_readItems 24 = .ok (.iastore, 1) := by decide +kernel
theorem dX12_readItems_25 : decode cX12_readItems 25 = .ok (.iinc 5 1, 3) := by decide +kernel
theorem dX12_readItems_28 : decode cX12_readItems 28 = .ok (.goto (-25), 3) := by decide +kernel
theorem dX12_readItems_31 : decode cX12_readItems 31 = .ok (.iconst 0, 1) := by decide +kernel
theorem dX12_readItems_32 : decode cX12_readItems 32 = .ok (.istore 5, 2) := by decide +kernel
theorem dX12_readItems_34 : decode cX12_readItems 34 = .ok (.aload 4, 2) := by decide +kernel
theorem dX12_readItems_36 : decode cX12_readItems 36 = .ok (.aload_n 0, 1) := by decide +kernel
theorem dX12_readItems_37 : decode cX12_readItems 37 = .ok (.invokevirtual 153, 3) := by decide +kernel
theorem dX12_readItems_40 : decode cX12_readItems 40 = .ok (.invokestatic 240, 3) := by decide +kernel
theorem dX12_readItems_43 : decode cX12_readItems 43 = .ok (.istore 6, 2) := by decide +kernel
theorem dX12_readItems_45 : decode cX12_readItems 45 = .ok (.iload 6, 2) := by decide +kernel
theorem dX12_readItems_47 : decode cX12_readItems 47 = .ok (.iconst (-1), 1) := by decide +kernel
theorem dX12_readItems_48 : decode cX12_readItems 48 = .ok (.if_icmp .eq 90, 3) := by decide +kernel
theorem dX12_readItems_51 : decode cX12_readItems 51 = .ok (.aload_n 0, 1) := by decide +kernel
theorem dX12_readItems_52 : decode cX12_readItems 52 = .ok (.getfield 143, 3) := by decide +kernel
theorem dX12_readItems_55 : decode cX12_readItems 55 = .ok (.iconst (-1), 1) := by decide +kernel
theorem dX12_readItems_56 : decode cX12_readItems 56 = .ok (.if_icmp .ne 82, 3) := by decide +kernel
theorem dX12_readItems_59 : decode cX12_readItems 59 = .ok (.iload 5, 2) := by decide +kernel
theorem dX12_readItems_61 : decode cX12_readItems 61 = .ok (.iload 6, 2) := by decide +kernel
theorem dX12_readItems_63 : decode cX12_readItems 63 = .ok (.invokestatic 244, 3) := by decide +kernel
theorem dX12_readItems_66 : decode cX12_readItems 66 = .ok (.ifCond .eq 9, 3) := by decide +kernel
theorem dX12_readItems_69 : decode cX12_readItems 69 = .ok (.aload_n 0, 1) := by decide +kernel
theorem dX12_readItems_70 : decode cX12_readItems 70 = .ok (.invokevirtual 149, 3) := by decide +kernel
theorem dX12_readItems_73 : decode cX12_readItems 73 = .ok (.pop, 1) := by decide +kernel
theorem dX12_readItems_74 : decode cX12_readItems 74 = .ok (.return_, 1) := by decide +kernel
theorem dX12_readItems_75 : decode cX12_readItems 75 = .ok (.iload 5, 2) := by decide +kernel
theorem dX12_readItems_77 : decode cX12_readItems 77 = .ok (.iconst 1, 1) := by decide +kernel
theorem dX12_readItems_78 : decode cX12_readItems 78 = .ok (.iload 6, 2) := by decide +kernel
theorem dX12_readItems_80 : decode cX12_readItems 80 = .ok (.ishl, 1) := by decide +kernel
theorem dX12_readItems_81 : decode cX12_readItems 81 = .ok (.ior, 1) := by decide +kernel
theorem dX12_readItems_82 : decode cX12_readItems 82 = .ok (.istore 5, 2) := by decide +kernel
theorem dX12_readItems_84 : decode cX12_readItems 84 = .ok (.aload_n 0, 1) := by decide +kernel
theorem dX12_readItems_85 : decode cX12_readItems 85 = .ok (.dup, 1) := by decide +kernel
theorem dX12_readItems_86 : decode cX12_readItems 86 = .ok (.getfield 134, 3) := by decide +kernel
theorem dX12_readItems_89 : decode cX12_readItems 89 = .ok (.iconst 1, 1) := by decide +kernel
theorem dX12_readItems_90 : decode cX12_readItems 90 = .ok (.iadd, 1) := by decide +kernel
theorem dX12_readItems_91 : decode cX12_readItems 91 = .ok (.putfield 134, 3) := by decide +kernel
theorem dX12_readItems_94 : decode cX12_readItems 94 = .ok (.aload_n 2, 1) := by decide +kernel
theorem dX12_readItems_95 : decode cX12_readItems 95 = .ok (.iload_n 3, 1) := by decide +kernel
theorem dX12_readItems_96 : decode cX12_readItems 96 = .ok (.iload 6, 2) := by decide +kernel
theorem dX12_readItems_98 : decode cX12_readItems 98 = .ok (.iadd, 1) := by decide +kernel
theorem dX12_readItems_99 : decode cX12_readItems 99 = .ok (.aload_n 0, 1) := by decide +kernel
theorem dX12_readItems_100 : decode cX12_readItems 100 = .ok (.iload_n 1, 1) := by decide +kernel
theorem dX12_readItems_101 : decode cX12_readItems 101 = .ok (.iload 6, 2) := by decide +kernel
theorem dX12_readItems_103 : decode cX12_readItems 103 = .ok (.invokestatic 248, 3) := by decide +kernel
theorem dX12_readItems_106 : decode cX12_readItems 106 = .ok (.iload_n 1, 1) := by decide +kernel
theorem dX12_readItems_107 : decode cX12_readItems 107 = .ok (.iload 6, 2) := by decide +kernel
theorem dX12_readItems_109 : decode cX12_readItems 109 = .ok (.invokestatic 251, 3) := by decide +kernel
theorem dX12_readItems_112 : decode cX12_readItems 112 = .ok (.invokevirtual 254, 3) := by decide +kernel
theorem dX12_readItems_115 : decode cX12_readItems 115 = .ok (.iastore, 1) := by decide +kernel
theorem dX12_readItems_116 : decode cX12_readItems 116 = .ok (.aload_n 0, 1) := by decide +kernel
theorem dX12_readItems_117 : decode cX12_readItems 117 = .ok (.getfield 143, 3) := by decide +kernel
theorem dX12_readItems_120 : decode cX12_readItems 120 = .ok (.iconst (-1), 1) := by decide +kernel
theorem dX12_readItems_121 : decode cX12_readItems 121 = .ok (.if_icmp .ne (-76), 3) := by decide +kernel
theorem dX12_readItems_124 : decode cX12_readItems 124 = .ok (.aload 4, 2) := by decide +kernel
theorem dX12_readItems_126 : decode cX12_readItems 126 = .ok (.aload_n 0, 1) := by decide +kernel
theorem dX12_readItems_127 : decode cX12_readItems 127 = .ok (.invokevirtual 153, 3) := by decide +kernel
theorem dX12_readItems_130 : decode cX12_readItems 130 = .ok (.invokestatic 240, 3) := by decide +kernel
theorem dX12_readItems_133 : decode cX12_readItems 133 = .ok (.istore 6, 2) := by decide +kernel
theorem dX12_readItems_135 : decode cX12_readItems 135 = .ok (.goto (-90), 3) := by decide +kernel
theorem dX12_readItems_138 : decode cX12_readItems 138 = .ok (.return_, 1) := by decide +kernel
theorem dX12_readClause_0 : decode cX12_readClause 0 = .ok (.aload_n 0, 1) := by decide +kernel
theorem dX12_readClause_1 : decode cX12_readClause 1 = .ok (.invokevirtual 153, 3) := by decide +kernel
theorem dX12_readClause_4 : decode cX12_readClause 4 = .ok (.istore_n 1, 1) := by decide +kernel
theorem dX12_readClause_5 : decode cX12_readClause 5 = .ok (.iload_n 1, 1) := by decide +kernel
theorem dX12_readClause_6 : decode cX12_readClause 6 = .ok (.bipush 115, 2) := by decide +kernel
theorem dX12_readClause_8 : decode cX12_readClause 8 = .ok (.if_icmp .ne 10, 3) := by decide +kernel
theorem dX12_readClause_11 : decode cX12_readClause 11 = .ok (.aload_n 0, 1) := by decide +kernel
theorem dX12_readClause_12 : decode cX12_readClause 12 = .ok (.getfield 257, 3) := by decide +kernel
theorem dX12_readClause_15 : decode cX12_readClause 15 = .ok (.ifCond .eq 32, 3) := by decide +kernel
theorem dX12_readClause_18 : decode cX12_readClause 18 = .ok (.iload_n 1, 1) := by decide +kernel
theorem dX12_readClause_19 : decode cX12_readClause 19 = .ok (.bipush 98, 2) := by decide +kernel
theorem dX12_readClause_21 : decode cX12_readClause 21 = .ok (.if_icmp .ne 12, 3) := by decide +kernel
theorem dX12_readClause_24 : decode cX12_readClause 24 = .ok (.aload_n 0, 1) := by decide +kernel
theorem dX12_readClause_25 : decode cX12_readClause 25 = .ok (.getfield 260, 3) := by decide +kernel
theorem dX12_readClause_28 : decode cX12_readClause 28 = .ok (.bipush 8, 2) := by decide +kernel
theorem dX12_readClause_30 : decode cX12_readClause 30 = .ok (.if_icmp .lt 17, 3) := by decide +kernel
theorem dX12_readClause_33 : decode cX12_readClause 33 = .ok (.iload_n 1, 1) := by decide +kernel
theorem dX12_readClause_34 : decode cX12_readClause 34 = .ok (.bipush 99, 2) := by decide +kernel
theorem dX12_readClause_36 : decode cX12_readClause 36 = .ok (.if_icmp .ne 15, 3) := by decide +kernel
theorem dX12_readClause_39 : decode cX12_readClause 39 = .ok (.aload_n 0, 1) := by decide +kernel
theorem dX12_readClause_40 : decode cX12_readClause 40 = .ok (.getfield 263, 3) := by decide +kernel
theorem dX12_readClause_43 : decode cX12_readClause 43 = .ok (.iconst 3, 1) := by decide +kernel
theorem dX12_readClause_44 : decode cX12_readClause 44 = .ok (.if_icmp .ge 7, 3) := by decide +kernel
theorem dX12_readClause_47 : decode cX12_readClause 47 = .ok (.iconst 1, 1) := by decide +kernel
theorem dX12_readClause_48 : decode cX12_readClause 48 = .ok (.goto 4, 3) := by decide +kernel
theorem dX12_readClause_51 : decode cX12_readClause 51 = .ok (.iconst 0, 1) := by decide +kernel
theorem dX12_readClause_52 : decode cX12_readClause 52 = .ok (.istore_n 2, 1) := by decide +kernel
theorem dX12_readClause_53 : decode cX12_readClause 53 = .ok (.iload_n 2, 1) := by decide +kernel
theorem dX12_readClause_54 : decode cX12_readClause 54 = .ok (.ifCond .ne 9, 3) := by decide +kernel
theorem dX12_readClause_57 : decode cX12_readClause 57 = .ok (.aload_n 0, 1) := by decide +kernel
theorem dX12_readClause_58 : decode cX12_readClause 58 = .ok (.invokevirtual 149, 3) := by decide +kernel
theorem dX12_readClause_61 : decode cX12_readClause 61 = .ok (.pop, 1) := by decide +kernel
theorem dX12_readClause_62 : decode cX12_readClause 62 = .ok (.return_, 1) := by decide +kernel
theorem dX12_readClause_63 : decode cX12_readClause 63 = .ok (.aload_n 0, 1) := by decide +kernel
theorem dX12_readClause_64 : decode cX12_readClause 64 = .ok (.dup, 1) := by decide +kernel
theorem dX12_readClause_65 : decode cX12_readClause 65 = .ok (.getfield 134, 3) := by decide +kernel
theorem dX12_readClause_68 : decode cX12_readClause 68 = .ok (.iconst 1, 1) := by decide +kernel
theorem dX12_readClause_69 : decode cX12_readClause 69 = .ok (.iadd, 1) := by decide +kernel
theorem dX12_readClause_70 : decode cX12_readClause 70 = .ok (.putfield 134, 3) := by decide +kernel
theorem dX12_readClause_73 : decode cX12_readClause 73 = .ok (.iload_n 1, 1) := by decide +kernel
theorem dX12_readClause_74 : decode cX12_readClause 74 = .ok (.bipush 115, 2) := by decide +kernel
theorem dX12_readClause_76 : decode cX12_readClause 76 = .ok (.if_icmp .ne 24, 3) := by decide +kernel
theorem dX12_readClause_79 : decode cX12_readClause 79 = .ok (.aload_n 0, 1) := by decide +kernel
theorem dX12_readClause_80 : decode cX12_readClause 80 = .ok (.iconst 1, 1) := by decide +kernel
theorem dX12_readClause_81 : decode cX12_readClause 81 = .ok (.putfield 257, 3) := by decide +kernel
theorem dX12_readClause_84 : decode cX12_readClause 84 = .ok (.aload_n 0, 1) := by decide +kernel
theorem dX12_readClause_85 : decode cX12_readClause 85 = .ok (.iload_n 1, 1) := by decide +kernel
theorem dX12_readClause_86 : decode cX12_readClause 86 = .ok (.aload_n 0, 1) := by decide +kernel
theorem dX12_readClause_87 : decode cX12_readClause 87 = .ok (.getfield 40, 3) := by decide +kernel
theorem dX12_readClause_90 : decode cX12_readClause 90 = .ok (.iconst 0, 1) := by decide +kernel
theorem dX12_readClause_91 : decode cX12_readClause 91 = .ok (.ldc_w 266, 3) := by decide +kernel
theorem dX12_readClause_94 : decode cX12_readClause 94 = .ok (.invokevirtual 268, 3) := by decide +kernel
theorem dX12_readClause_97 : decode cX12_readClause 97 = .ok (.goto 73, 3) := by decide +kernel
theorem dX12_readClause_100 : decode cX12_readClause 100 = .ok (.iload_n 1, 1) := by decide +kernel
theorem dX12_readClause_101 : decode cX12_readClause 101 = .ok (.bipush 98, 2) := by decide +kernel
theorem dX12_readClause_103 : decode cX12_readClause 103 = .ok (.if_icmp .ne 37, 3) := by decide +kernel
theorem dX12_readClause_106 : decode cX12_readClause 106 = .ok (.aload_n 0, 1) := by decide +kernel
theorem dX12_readClause_107 : decode cX12_readClause 107 = .ok (.dup, 1) := by decide +kernel
theorem dX12_readClause_108 : decode cX12_readClause 108 = .ok (.getfield 260, 3) := by decide +kernel
theorem dX12_readClause_111 : decode cX12_readClause 111 = .ok (.iconst 1, 1) := by decide +kernel
theorem dX12_readClause_112 : decode cX12_readClause 112 = .ok (.iadd, 1) := by decide +kernel
theorem dX12_readClause_113 : decode cX12_readClause 113 = .ok (.putfield 260, 3) := by decide +kernel
theorem dX12_readClause_116 : decode cX12_readClause 116 = .ok (.aload_n 0, 1) := by decide +kernel
theorem dX12_readClause_117 : decode cX12_readClause 117 = .ok (.iload_n 1, 1) := by decide +kernel
theorem dX12_readClause_118 : decode cX12_readClause 118 = .ok (.aload_n 0, 1) := by decide +kernel
theorem dX12_readClause_119 : decode cX12_readClause 119 = .ok (.getfield 46, 3) := by decide +kernel
theorem dX12_readClause_122 : decode cX12_readClause 122 = .ok (.bipush 8, 2) := by decide +kernel
theorem dX12_readClause_124 : decode cX12_readClause 124 = .ok (.aload_n 0, 1) := by decide +kernel
theorem dX12_readClause_125 : decode cX12_readClause 125 = .ok (.getfield 260, 3) := by decide +kernel
theorem dX12_readClause_128 : decode cX12_readClause 128 = .ok (.iconst 1, 1) := by decide +kernel
theorem dX12_readClause_129 : decode cX12_readClause 129 = .ok (.isub, 1) := by decide +kernel
theorem dX12_readClause_130 : decode cX12_readClause 130 = .ok (.imul, 1) := by decide +kernel
theorem dX12_readClause_131 : decode cX12_readClause 131 = .ok (.ldc_w 272, 3) := by decide +kernel
theorem dX12_readClause_134 : decode cX12_readClause 134 = .ok (.invokevirtual 268, 3) := by decide +kernel
theorem dX12_readClause_137 : decode cX12_readClause 137 = .ok (.goto 33, 3) := by decide +kernel
theorem dX12_readClause_140 : decode cX12_readClause 140 = .ok (.aload_n 0, 1) := by decide +kernel
theorem dX12_readClause_141 : decode cX12_readClause 141 = .ok (.dup, 1) := by decide +kernel
theorem dX12_readClause_142 : decode cX12_readClause 142 = .ok (.getfield 263, 3) := by decide +kernel
theorem dX12_readClause_145 : decode cX12_readClause 145 = .ok (.iconst 1, 1) := by decide +kernel
theorem dX12_readClause_146 : decode cX12_readClause 146 = .ok (.iadd, 1) := by decide +kernel
theorem dX12_readClause_147 : decode cX12_readClause 147 = .ok (.putfield 263, 3) := by decide +kernel
theorem dX12_readClause_150 : decode cX12_readClause 150 = .ok (.aload_n 0, 1) := by decide +kernel
theorem dX12_readClause_151 : decode cX12_readClause 151 = .ok (.iload_n 1, 1) := by decide +kernel
theorem dX12_readClause_152 : decode cX12_readClause 152 = .ok (.aload_n 0, 1) := by decide +kernel
theorem dX12_readClause_153 : decode cX12_readClause 153 = .ok (.getfield 52, 3) := by decide +kernel
theorem dX12_readClause_156 : decode cX12_readClause 156 = .ok (.iconst 4, 1) := by decide +kernel
theorem dX12_readClause_157 : decode cX12_readClause 157 = .ok (.aload_n 0, 1) := by decide +kernel
theorem dX12_readClause_158 : decode cX12_readClause 158 = .ok (.getfield 263, 3) := by decide +kernel
theorem dX12_readClause_161 : decode cX12_readClause 161 = .ok (.iconst 1, 1) := by decide +kernel
theorem dX12_readClause_162 : decode cX12_readClause 162 = .ok (.isub, 1) := by decide +kernel
theorem dX12_readClause_163 : decode cX12_readClause 163 = .ok (.imul, 1) := by decide +kernel
theorem dX12_readClause_164 : decode cX12_readClause 164 = .ok (.ldc_w 274, 3) := by decide +kernel
theorem dX12_readClause_167 : decode cX12_readClause 167 = .ok (.invokevirtual 268, 3) := by decide +kernel
theorem dX12_readClause_170 : decode cX12_readClause 170 = .ok (.return_, 1) := by decide +kernel
theorem dX12_isWhole_0 : decode cX12_isWhole 0 = .ok (.iconst 0, 1) := by decide +kernel
theorem dX12_isWhole_1 : decode cX12_isWhole 1 = .ok (.istore_n 1, 1) := by decide +kernel
theorem dX12_isWhole_2 : decode cX12_isWhole 2 = .ok (.iload_n 1, 1) := by decide +kernel
theorem dX12_isWhole_3 : decode cX12_isWhole 3 = .ok (.aload_n 0, 1) := by decide +kernel
theorem dX12_isWhole_4 : decode cX12_isWhole 4 = .ok (.getfield 260, 3) := by decide +kernel
theorem dX12_isWhole_7 : decode cX12_isWhole 7 = .ok (.if_icmp .ge 70, 3) := by decide +kernel
theorem dX12_isWhole_10 : decode cX12_isWhole 10 = .ok (.iconst 0, 1) := by decide +kernel
theorem dX12_isWhole_11 : decode cX12_isWhole 11 = .ok (.istore_n 2, 1) := by decide +kernel
theorem dX12_isWhole_12 : decode cX12_isWhole 12 = .ok (.iload_n 2, 1) := by decide +kernel
theorem dX12_isWhole_13 : decode cX12_isWhole 13 = .ok (.iload_n 1, 1) := by decide +kernel
theorem dX12_isWhole_14 : decode cX12_isWhole 14 = .ok (.if_icmp .ge 57, 3) := by decide +kernel
theorem dX12_isWhole_17 : decode cX12_isWhole 17 = .ok (.aload_n 0, 1) := by decide +kernel
theorem dX12_isWhole_18 : decode cX12_isWhole 18 = .ok (.getfield 46, 3) := by decide +kernel
theorem dX12_isWhole_21 : decode cX12_isWhole 21 = .ok (.bipush 8, 2) := by decide +kernel
theorem dX12_isWhole_23 : decode cX12_isWhole 23 = .ok (.iload_n 1, 1) := by decide +kernel
theorem dX12_isWhole_24 : decode cX12_isWhole 24 = .ok (.imul, 1) := by decide +kernel
theorem dX12_isWhole_25 : decode cX12_isWhole 25 = .ok (.iaload, 1) := by decide +kernel
theorem dX12_isWhole_26 : decode cX12_isWhole 26 = .ok (.aload_n 0, 1) := by decide +kernel
theorem dX12_isWhole_27 : decode cX12_isWhole 27 = .ok (.getfield 46, 3) := by decide +kernel
theorem dX12_isWhole_30 : decode cX12_isWhole 30 = .ok (.bipush 8, 2) := by decide +kernel
theorem dX12_isWhole_32 : decode cX12_isWhole 32 = .ok (.iload_n 2, 1) := by decide +kernel
theorem dX12_isWhole_33 : decode cX12_isWhole 33 = .ok (.imul, 1) := by decide +kernel
theorem dX12_isWhole_34 : decode cX12_isWhole 34 = .ok (.iaload, 1) := by decide +kernel
theorem dX12_isWhole_35 : decode cX12_isWhole 35 = .ok (.if_icmp .ne 30, 3) := by decide +kernel
theorem dX12_isWhole_38 : decode cX12_isWhole 38 = .ok (.aload_n 0, 1) := by decide +kernel
theorem dX12_isWhole_39 : decode cX12_isWhole 39 = .ok (.getfield 46, 3) := by decide +kernel
theorem dX12_isWhole_42 : decode cX12_isWhole 42 = .ok (.bipush 8, 2) := by decide +kernel
theorem dX12_isWhole_44 : decode cX12_isWhole 44 = .ok (.iload_n 1, 1) := by decide +kernel
theorem dX12_isWhole_45 : decode cX12_isWhole 45 = .ok (.imul, 1) := by decide +kernel
theorem dX12_isWhole_46 : decode cX12_isWhole 46 = .ok (.iconst 1, 1) := by decide +kernel
theorem dX12_isWhole_47 : decode cX12_isWhole 47 = .ok (.iadd, 1) := by decide +kernel
theorem dX12_isWhole_48 : decode cX12_isWhole 48 = .ok (.iaload, 1) := by decide +kernel
theorem dX12_isWhole_49 : decode cX12_isWhole 49 = .ok (.aload_n 0, 1) := by decide +kernel
theorem dX12_isWhole_50 : decode cX12_isWhole 50 = .ok (.getfield 46, 3) := by decide +kernel
theorem dX12_isWhole_53 : decode cX12_isWhole 53 = .ok (.bipush 8, 2) := by decide +kernel
theorem dX12_isWhole_55 : decode cX12_isWhole 55 = .ok (.iload_n 2, 1) := by decide +kernel
theorem dX12_isWhole_56 : decode cX12_isWhole 56 = .ok (.imul, 1) := by decide +kernel
theorem dX12_isWhole_57 : decode cX12_isWhole 57 = .ok (.iconst 1, 1) := by decide +kernel
theorem dX12_isWhole_58 : decode cX12_isWhole 58 = .ok (.iadd, 1) := by decide +kernel
theorem dX12_isWhole_59 : decode cX12_isWhole 59 = .ok (.iaload, 1) := by decide +kernel
theorem dX12_isWhole_60 : decode cX12_isWhole 60 = .ok (.if_icmp .ne 5, 3) := by decide +kernel
theorem dX12_isWhole_63 : decode cX12_isWhole 63 = .ok (.iconst 0, 1) := by decide +kernel
theorem dX12_isWhole_64 : decode cX12_isWhole 64 = .ok (.ireturn, 1) := by decide +kernel
theorem dX12_isWhole_65 : decode cX12_isWhole 65 = .ok (.iinc 2 1, 3) := by decide +kernel
theorem dX12_isWhole_68 : decode cX12_isWhole 68 = .ok (.goto (-56), 3) := by decide +kernel
theorem dX12_isWhole_71 : decode cX12_isWhole 71 = .ok (.iinc 1 1, 3) := by decide +kernel
theorem dX12_isWhole_74 : decode cX12_isWhole 74 = .ok (.goto (-72), 3) := by decide +kernel
theorem dX12_isWhole_77 : decode cX12_isWhole 77 = .ok (.aload_n 0, 1) := by decide +kernel
theorem dX12_isWhole_78 : decode cX12_isWhole 78 = .ok (.getfield 260, 3) := by decide +kernel
theorem dX12_isWhole_81 : decode cX12_isWhole 81 = .ok (.ifCond .le 15, 3) := by decide +kernel
theorem dX12_isWhole_84 : decode cX12_isWhole 84 = .ok (.aload_n 0, 1) := by decide +kernel
theorem dX12_isWhole_85 : decode cX12_isWhole 85 = .ok (.getfield 263, 3) := by decide +kernel
theorem dX12_isWhole_88 : decode cX12_isWhole 88 = .ok (.iconst 1, 1) := by decide +kernel
theorem dX12_isWhole_89 : decode cX12_isWhole 89 = .ok (.if_icmp .le 7, 3) := by decide +kernel
theorem dX12_isWhole_92 : decode cX12_isWhole 92 = .ok (.iconst 1, 1) := by decide +kernel
theorem dX12_isWhole_93 : decode cX12_isWhole 93 = .ok (.goto 4, 3) := by decide +kernel
theorem dX12_isWhole_96 : decode cX12_isWhole 96 = .ok (.iconst 0, 1) := by decide +kernel
theorem dX12_isWhole_97 : decode cX12_isWhole 97 = .ok (.ireturn, 1) := by decide +kernel
theorem dX12_readBorough_0 : decode cX12_readBorough 0 = .ok (.aload_n 0, 1) := by decide +kernel
theorem dX12_readBorough_1 : decode cX12_readBorough 1 = .ok (.aload_n 0, 1) := by decide +kernel
theorem dX12_readBorough_2 : decode cX12_readBorough 2 = .ok (.getfield 9, 3) := by decide +kernel
theorem dX12_readBorough_5 : decode cX12_readBorough 5 = .ok (.iconst 0, 1) := by decide +kernel
theorem dX12_readBorough_6 : decode cX12_readBorough 6 = .ok (.aload_n 0, 1) := by decide +kernel
theorem dX12_readBorough_7 : decode cX12_readBorough 7 = .ok (.getfield 124, 3) := by decide +kernel
theorem dX12_readBorough_10 : decode cX12_readBorough 10 = .ok (.invokevirtual 222, 3) := by decide +kernel
theorem dX12_readBorough_13 : decode cX12_readBorough 13 = .ok (.aload_n 0, 1) := by decide +kernel
theorem dX12_readBorough_14 : decode cX12_readBorough 14 = .ok (.iconst 0, 1) := by decide +kernel
theorem dX12_readBorough_15 : decode cX12_readBorough 15 = .ok (.putfield 260, 3) := by decide +kernel
theorem dX12_readBorough_18 : decode cX12_readBorough 18 = .ok (.aload_n 0, 1) := by decide +kernel
theorem dX12_readBorough_19 : decode cX12_readBorough 19 = .ok (.iconst 0, 1) := by decide +kernel
theorem dX12_readBorough_20 : decode cX12_readBorough 20 = .ok (.putfield 263, 3) := by decide +kernel
theorem dX12_readBorough_23 : decode cX12_readBorough 23 = .ok (.aload_n 0, 1) := by decide +kernel
theorem dX12_readBorough_24 : decode cX12_readBorough 24 = .ok (.iconst 0, 1) := by decide +kernel
theorem dX12_readBorough_25 : decode cX12_readBorough 25 = .ok (.putfield 257, 3) := by decide +kernel
theorem dX12_readBorough_28 : decode cX12_readBorough 28 = .ok (.iconst 0, 1) := by decide +kernel
theorem dX12_readBorough_29 : decode cX12_readBorough 29 = .ok (.istore_n 1, 1) := by decide +kernel
theorem dX12_readBorough_30 : decode cX12_readBorough 30 = .ok (.iload_n 1, 1) := by decide +kernel
theorem dX12_readBorough_31 : decode cX12_readBorough 31 = .ok (.iconst 4, 1) := by decide +kernel
theorem dX12_readBorough_32 : decode cX12_readBorough 32 = .ok (.if_icmp .ge 21, 3) := by decide +kernel
theorem dX12_readBorough_35 : decode cX12_readBorough 35 = .ok (.aload_n 0, 1) := by decide +kernel
theorem dX12_readBorough_36 : decode cX12_readBorough 36 = .ok (.getfield 40, 3) := by decide +kernel
theorem dX12_readBorough_39 : decode cX12_readBorough 39 = .ok (.iload_n 1, 1) := by decide +kernel
theorem dX12_readBorough_40 : decode cX12_readBorough 40 = .ok (.bipush 115, 2) := by decide +kernel
theorem dX12_readBorough_42 : decode cX12_readBorough 42 = .ok (.iload_n 1, 1) := by decide +kernel
theorem dX12_readBorough_43 : decode cX12_readBorough 43 = .ok (.invokestatic 236, 3) := by decide +kernel
theorem dX12_readBorough_46 : decode cX12_readBorough 46 = .ok (.iastore, 1) := by decide +kernel
theorem dX12_readBorough_47 : decode cX12_readBorough 47 = .ok (.iinc 1 1, 3) := by decide +kernel
theorem dX12_readBorough_50 : decode cX12_readBorough 50 = .ok (.goto (-20), 3) := by decide +kernel
theorem dX12_readBorough_53 : decode cX12_readBorough 53 = .ok (.iconst 1, 1) := by decide +kernel
theorem dX12_readBorough_54 : decode cX12_readBorough 54 = .ok (.istore_n 1, 1) := by decide +kernel
theorem dX12_readBorough_55 : decode cX12_readBorough 55 = .ok (.iload_n 1, 1) := by decide +kernel
theorem dX12_readBorough_56 : decode cX12_readBorough 56 = .ok (.ifCond .eq 55, 3) := by decide +kernel
theorem dX12_readBorough_59 : decode cX12_readBorough 59 = .ok (.aload_n 0, 1) := by decide +kernel
theorem dX12_readBorough_60 : decode cX12_readBorough 60 = .ok (.getfield 143, 3) := by decide +kernel
theorem dX12_readBorough_63 : decode cX12_readBorough 63 = .ok (.iconst (-1), 1) := by decide +kernel
theorem dX12_readBorough_64 : decode cX12_readBorough 64 = .ok (.if_icmp .ne 47, 3) := by decide +kernel
theorem dX12_readBorough_67 : decode cX12_readBorough 67 = .ok (.aload_n 0, 1) := by decide +kernel
theorem dX12_readBorough_68 : decode cX12_readBorough 68 = .ok (.invokevirtual 276, 3) := by decide +kernel
theorem dX12_readBorough_71 : decode cX12_readBorough 71 = .ok (.aload_n 0, 1) := by decide +kernel
theorem dX12_readBorough_72 : decode cX12_readBorough 72 = .ok (.getfield 143, 3) := by decide +kernel
theorem dX12_readBorough_75 : decode cX12_readBorough 75 = .ok (.iconst (-1), 1) := by decide +kernel
theorem dX12_readBorough_76 : decode cX12_readBorough 76 = .ok (.if_icmp .ne 16, 3) := by decide +kernel
theorem dX12_readBorough_79 : decode cX12_readBorough 79 = .ok (.aload_n 0, 1) := by decide +kernel
theorem dX12_readBorough_80 : decode cX12_readBorough 80 = .ok (.invokevirtual 153, 3) := by decide +kernel
theorem dX12_readBorough_83 : decode cX12_readBorough 83 = .ok (.bipush 59, 2) := by decide +kernel
theorem dX12_readBorough_85 : decode cX12_readBorough 85 = .ok (.if_icmp .ne 7, 3) := by decide +kernel
theorem dX12_readBorough_88 : decode cX12_readBorough 88 = .ok (.iconst 1, 1) := by decide +kernel
theorem dX12_readBorough_89 : decode cX12_readBorough 89 = .ok (.goto 4, 3) := by decide +kernel
theorem dX12_readBorough_92 : decode cX12_readBorough 92 = .ok (.iconst 0, 1) := by decide +kernel
theorem dX12_readBorough_93 : decode cX12_readBorough 93 = .ok (.istore_n 1, 1) := by decide +kernel
theorem dX12_readBorough_94 : decode cX12_readBorough 94 = .ok (.iload_n 1, 1) := by decide +kernel
theorem dX12_readBorough_95 : decode cX12_readBorough 95 = .ok (.ifCond .eq (-40), 3) := by decide +kernel
theorem dX12_readBorough_98 : decode cX12_readBorough 98 = .ok (.aload_n 0, 1) := by decide +kernel
theorem dX12_readBorough_99 : decode cX12_readBorough 99 = .ok (.dup, 1) := by decide +kernel
theorem dX12_readBorough_100 : decode cX12_readBorough 100 = .ok (.getfield 134, 3) := by decide +kernel
theorem dX12_readBorough_103 : decode cX12_readBorough 103 = .ok (.iconst 1, 1) := by decide +kernel
theorem dX12_readBorough_104 : decode cX12_readBorough 104 = .ok (.iadd, 1) := by decide +kernel
theorem dX12_readBorough_105 : decode cX12_readBorough 105 = .ok (.putfield 134, 3) := by decide +kernel
theorem dX12_readBorough_108 : decode cX12_readBorough 108 = .ok (.goto (-53), 3) := by decide +kernel
theorem dX12_readBorough_111 : decode cX12_readBorough 111 = .ok (.aload_n 0, 1) := by decide +kernel
theorem dX12_readBorough_112 : decode cX12_readBorough 112 = .ok (.getfield 143, 3) := by decide +kernel
theorem dX12_readBorough_115 : decode cX12_readBorough 115 = .ok (.iconst (-1), 1) := by decide +kernel
theorem dX12_readBorough_116 : decode cX12_readBorough 116 = .ok (.if_icmp .ne 23, 3) := by decide +kernel
theorem dX12_readBorough_119 : decode cX12_readBorough 119 = .ok (.aload_n 0, 1) := by decide +kernel
theorem dX12_readBorough_120 : decode cX12_readBorough 120 = .ok (.invokevirtual 153, 3) := by decide +kernel
theorem dX12_readBorough_123 : decode cX12_readBorough 123 = .ok (.iconst (-1), 1) := by decide +kernel
theorem dX12_readBorough_124 : decode cX12_readBorough 124 = .ok (.if_icmp .ne 10, 3) := by decide +kernel
theorem dX12_readBorough_127 : decode cX12_readBorough 127 = .ok (.aload_n 0, 1) := by decide +kernel
theorem dX12_readBorough_128 : decode cX12_readBorough 128 = .ok (.invokevirtual 279, 3) := by decide +kernel
theorem dX12_readBorough_131 : decode cX12_readBorough 131 = .ok (.ifCond .ne 8, 3) := by decide +kernel
theorem dX12_readBorough_134 : decode cX12_readBorough 134 = .ok (.aload_n 0, 1) := by decide +kernel
theorem dX12_readBorough_135 : decode cX12_readBorough 135 = .ok (.invokevirtual 149, 3) := by decide +kernel
theorem dX12_readBorough_138 : decode cX12_readBorough 138 = .ok (.pop, 1) := by decide +kernel
theorem dX12_readBorough_139 : decode cX12_readBorough 139 = .ok (.return_, 1) := by decide +kernel
theorem dX12_digit_0 : decode cX12_digit 0 = .ok (.aload_n 0, 1) := by decide +kernel
theorem dX12_digit_1 : decode cX12_digit 1 = .ok (.invokevirtual 153, 3) := by decide +kernel
theorem dX12_digit_4 : decode cX12_digit 4 = .ok (.istore_n 1, 1) := by decide +kernel
theorem dX12_digit_5 : decode cX12_digit 5 = .ok (.aload_n 0, 1) := by decide +kernel
theorem dX12_digit_6 : decode cX12_digit 6 = .ok (.invokevirtual 183, 3) := by decide +kernel
theorem dX12_digit_9 : decode cX12_digit 9 = .ok (.ifCond .ne 10, 3) := by decide +kernel
theorem dX12_digit_12 : decode cX12_digit 12 = .ok (.aload_n 0, 1) := by decide +kernel
theorem dX12_digit_13 : decode cX12_digit 13 = .ok (.invokevirtual 149, 3) := by decide +kernel
theorem dX12_digit_16 : decode cX12_digit 16 = .ok (.pop, 1) := by decide +kernel
theorem dX12_digit_17 : decode cX12_digit 17 = .ok (.iconst 0, 1) := by decide +kernel
theorem dX12_digit_18 : decode cX12_digit 18 = .ok (.ireturn, 1) := by decide +kernel
theorem dX12_digit_19 : decode cX12_digit 19 = .ok (.aload_n 0, 1) := by decide +kernel
theorem dX12_digit_20 : decode cX12_digit 20 = .ok (.dup, 1) := by decide +kernel
theorem dX12_digit_21 : decode cX12_digit 21 = .ok (.getfield 134, 3) := by decide +kernel
theorem dX12_digit_24 : decode cX12_digit 24 = .ok (.iconst 1, 1) := by decide +kernel
theorem dX12_digit_25 : decode cX12_digit 25 = .ok (.iadd, 1) := by decide +kernel
theorem dX12_digit_26 : decode cX12_digit 26 = .ok (.putfield 134, 3) := by decide +kernel
theorem dX12_digit_29 : decode cX12_digit 29 = .ok (.iload_n 1, 1) := by decide +kernel
theorem dX12_digit_30 : decode cX12_digit 30 = .ok (.bipush 48, 2) := by decide +kernel
theorem dX12_digit_32 : decode cX12_digit 32 = .ok (.isub, 1) := by decide +kernel
theorem dX12_digit_33 : decode cX12_digit 33 = .ok (.ireturn, 1) := by decide +kernel
theorem dX12_readStep_0 : decode cX12_readStep 0 = .ok (.ldc_w 282, 3) := by decide +kernel
theorem dX12_readStep_3 : decode cX12_readStep 3 = .ok (.aload_n 0, 1) := by decide +kernel
theorem dX12_readStep_4 : decode cX12_readStep 4 = .ok (.invokevirtual 153, 3) := by decide +kernel
theorem dX12_readStep_7 : decode cX12_readStep 7 = .ok (.invokestatic 240, 3) := by decide +kernel
theorem dX12_readStep_10 : decode cX12_readStep 10 = .ok (.istore_n 2, 1) := by decide +kernel
theorem dX12_readStep_11 : decode cX12_readStep 11 = .ok (.iload_n 2, 1) := by decide +kernel
theorem dX12_readStep_12 : decode cX12_readStep 12 = .ok (.iconst (-1), 1) := by decide +kernel
theorem dX12_readStep_13 : decode cX12_readStep 13 = .ok (.if_icmp .ne 9, 3) := by decide +kernel
theorem dX12_readStep_16 : decode cX12_readStep 16 = .ok (.aload_n 0, 1) := by decide +kernel
theorem dX12_readStep_17 : decode cX12_readStep 17 = .ok (.invokevirtual 149, 3) := by decide +kernel
theorem dX12_readStep_20 : decode cX12_readStep 20 = .ok (.pop, 1) := by decide +kernel
theorem dX12_readStep_21 : decode cX12_readStep 21 = .ok (.return_, 1) := by decide +kernel
theorem dX12_readStep_22 : decode cX12_readStep 22 = .ok (.aload_n 0, 1) := by decide +kernel
theorem dX12_readStep_23 : decode cX12_readStep 23 = .ok (.dup, 1) := by decide +kernel
theorem dX12_readStep_24 : decode cX12_readStep 24 = .ok (.getfield 134, 3) := by decide +kernel
theorem dX12_readStep_27 : decode cX12_readStep 27 = .ok (.iconst 1, 1) := by decide +kernel
theorem dX12_readStep_28 : decode cX12_readStep 28 = .ok (.iadd, 1) := by decide +kernel
theorem dX12_readStep_29 : decode cX12_readStep 29 = .ok (.putfield 134, 3) := by decide +kernel
theorem dX12_readStep_32 : decode cX12_readStep 32 = .ok (.aload_n 0, 1) := by decide +kernel
theorem dX12_readStep_33 : decode cX12_readStep 33 = .ok (.getfield 55, 3) := by decide +kernel
theorem dX12_readStep_36 : decode cX12_readStep 36 = .ok (.iload_n 1, 1) := by decide +kernel
theorem dX12_readStep_37 : decode cX12_readStep 37 = .ok (.iload_n 2, 1) := by decide +kernel
theorem dX12_readStep_38 : decode cX12_readStep 38 = .ok (.iastore, 1) := by decide +kernel
theorem dX12_readStep_39 : decode cX12_readStep 39 = .ok (.aload_n 0, 1) := by decide +kernel
theorem dX12_readStep_40 : decode cX12_readStep 40 = .ok (.getfield 55, 3) := by decide +kernel
theorem dX12_readStep_43 : decode cX12_readStep 43 = .ok (.iload_n 1, 1) := by decide +kernel
theorem dX12_readStep_44 : decode cX12_readStep 44 = .ok (.iconst 1, 1) := by decide +kernel
theorem dX12_readStep_45 : decode cX12_readStep 45 = .ok (.iadd, 1) := by decide +kernel
theorem dX12_readStep_46 : decode cX12_readStep 46 = .ok (.aload_n 0, 1) := by decide +kernel
theorem dX12_readStep_47 : decode cX12_readStep 47 = .ok (.invokevirtual 284, 3) := by decide +kernel
theorem dX12_readStep_50 : decode cX12_readStep 50 = .ok (.iastore, 1) := by decide +kernel
theorem dX12_readStep_51 : decode cX12_readStep 51 = .ok (.aload_n 0, 1) := by decide +kernel
theorem dX12_readStep_52 : decode cX12_readStep 52 = .ok (.getfield 55, 3) := by decide +kernel
theorem dX12_readStep_55 : decode cX12_readStep 55 = .ok (.iload_n 1, 1) := by decide +kernel
theorem dX12_readStep_56 : decode cX12_readStep 56 = .ok (.iconst 2, 1) := by decide +kernel
theorem dX12_readStep_57 : decode cX12_readStep 57 = .ok (.iadd, 1) := by decide +kernel
theorem dX12_readStep_58 : decode cX12_readStep 58 = .ok (.iconst (-1), 1) := by decide +kernel
theorem dX12_readStep_59 : decode cX12_readStep 59 = .ok (.iastore, 1) := by decide +kernel
theorem dX12_readStep_60 : decode cX12_readStep 60 = .ok (.aload_n 0, 1) := by decide +kernel
theorem dX12_readStep_61 : decode cX12_readStep 61 = .ok (.getfield 55, 3) := by decide +kernel
theorem dX12_readStep_64 : decode cX12_readStep 64 = .ok (.iload_n 1, 1) := by decide +kernel
theorem dX12_readStep_65 : decode cX12_readStep 65 = .ok (.iconst 3, 1) := by decide +kernel
theorem dX12_readStep_66 : decode cX12_readStep 66 = .ok (.iadd, 1) := by decide +kernel
theorem dX12_readStep_67 : decode cX12_readStep 67 = .ok (.iconst (-1), 1) := by decide +kernel
theorem dX12_readStep_68 : decode cX12_readStep 68 = .ok (.iastore, 1) := by decide +kernel
theorem dX12_readStep_69 : decode cX12_readStep 69 = .ok (.aload_n 0, 1) := by decide +kernel
theorem dX12_readStep_70 : decode cX12_readStep 70 = .ok (.getfield 143, 3) := by decide +kernel
theorem dX12_readStep_73 : decode cX12_readStep 73 = .ok (.iconst (-1), 1) := by decide +kernel
theorem dX12_readStep_74 : decode cX12_readStep 74 = .ok (.if_icmp .ne 20, 3) := by decide +kernel
theorem dX12_readStep_77 : decode cX12_readStep 77 = .ok (.iload_n 2, 1) := by decide +kernel
theorem dX12_readStep_78 : decode cX12_readStep 78 = .ok (.iconst 3, 1) := by decide +kernel
theorem dX12_readStep_79 : decode cX12_readStep 79 = .ok (.if_icmp .ge 15, 3) := by decide +kernel
theorem dX12_readStep_82 : decode cX12_readStep 82 = .ok (.aload_n 0, 1) := by decide +kernel
theorem dX12_readStep_83 : decode cX12_readStep 83 = .ok (.getfield 55, 3) := by decide +kernel
theorem dX12_readStep_86 : decode cX12_readStep 86 = .ok (.iload_n 1, 1) := by decide +kernel
theorem dX12_readStep_87 : decode cX12_readStep 87 = .ok (.iconst 2, 1) := by decide +kernel
theorem dX12_readStep_88 : decode cX12_readStep 88 = .ok (.iadd, 1) := by decide +kernel
theorem dX12_readStep_89 : decode cX12_readStep 89 = .ok (.aload_n 0, 1) := by decide +kernel
theorem dX12_readStep_90 : decode cX12_readStep 90 = .ok (.invokevirtual 284, 3) := by decide +kernel
theorem dX12_readStep_93 : decode cX12_readStep 93 = .ok (.iastore, 1) := by decide +kernel
theorem dX12_readStep_94 : decode cX12_readStep 94 = .ok (.aload_n 0, 1) := by decide +kernel
theorem dX12_readStep_95 : decode cX12_readStep 95 = .ok (.getfield 143, 3) := by decide +kernel
theorem dX12_readStep_98 : decode cX12_readStep 98 = .ok (.iconst (-1), 1) := by decide +kernel
theorem dX12_readStep_99 : decode cX12_readStep 99 = .ok (.if_icmp .ne 19, 3) := by decide +kernel
theorem dX12_readStep_102 : decode cX12_readStep 102 = .ok (.iload_n 2, 1) := by decide +kernel
theorem dX12_readStep_103 : decode cX12_readStep 103 = .ok (.ifCond .ne 15, 3) := by decide +kernel
theorem dX12_readStep_106 : decode cX12_readStep 106 = .ok (.aload_n 0, 1) := by decide +kernel
theorem dX12_readStep_107 : decode cX12_readStep 107 = .ok (.getfield 55, 3) := by decide +kernel
theorem dX12_readStep_110 : decode cX12_readStep 110 = .ok (.iload_n 1, 1) := by decide +kernel
theorem dX12_readStep_111 : decode cX12_readStep 111 = .ok (.iconst 3, 1) := by decide +kernel
theorem dX12_readStep_112 : decode cX12_readStep 112 = .ok (.iadd, 1) := by decide +kernel
theorem dX12_readStep_113 : decode cX12_readStep 113 = .ok (.aload_n 0, 1) := by decide +kernel
theorem dX12_readStep_114 : decode cX12_readStep 114 = .ok (.invokevirtual 284, 3) := by decide +kernel
theorem dX12_readStep_117 : decode cX12_readStep 117 = .ok (.iastore, 1) := by decide +kernel
theorem dX12_readStep_118 : decode cX12_readStep 118 = .ok (.return_, 1) := by decide +kernel
theorem dX12_readPlan_0 : decode cX12_readPlan 0 = .ok (.aload_n 0, 1) := by decide +kernel
theorem dX12_readPlan_1 : decode cX12_readPlan 1 = .ok (.aload_n 0, 1) := by decide +kernel
theorem dX12_readPlan_2 : decode cX12_readPlan 2 = .ok (.getfield 9, 3) := by decide +kernel
theorem dX12_readPlan_5 : decode cX12_readPlan 5 = .ok (.iconst 0, 1) := by decide +kernel
theorem dX12_readPlan_6 : decode cX12_readPlan 6 = .ok (.aload_n 0, 1) := by decide +kernel
theorem dX12_readPlan_7 : decode cX12_readPlan 7 = .ok (.getfield 124, 3) := by decide +kernel
theorem dX12_readPlan_10 : decode cX12_readPlan 10 = .ok (.invokevirtual 222, 3) := by decide +kernel
theorem dX12_readPlan_13 : decode cX12_readPlan 13 = .ok (.iconst 0, 1) := by decide +kernel
theorem dX12_readPlan_14 : decode cX12_readPlan 14 = .ok (.istore_n 1, 1) := by decide +kernel
theorem dX12_readPlan_15 : decode cX12_readPlan 15 = .ok (.iconst 1, 1) := by decide +kernel
theorem dX12_readPlan_16 : decode cX12_readPlan 16 = .ok (.istore_n 2, 1) := by decide +kernel
theorem dX12_readPlan_17 : decode cX12_readPlan 17 = .ok (.iload_n 2, 1) := by decide +kernel
theorem dX12_readPlan_18 : decode cX12_readPlan 18 = .ok (.ifCond .eq 73, 3) := by decide +kernel
theorem dX12_readPlan_21 : decode cX12_readPlan 21 = .ok (.aload_n 0, 1) := by decide +kernel
theorem dX12_readPlan_22 : decode cX12_readPlan 22 = .ok (.iconst 4, 1) := by decide +kernel
theorem dX12_readPlan_23 : decode cX12_readPlan 23 = .ok (.bipush 64, 2) := by decide +kernel
theorem dX12_readPlan_25 : decode cX12_readPlan 25 = .ok (.iload_n 1, 1) := by decide +kernel
theorem dX12_readPlan_26 : decode cX12_readPlan 26 = .ok (.iadd, 1) := by decide +kernel
theorem dX12_readPlan_27 : decode cX12_readPlan 27 = .ok (.imul, 1) := by decide +kernel
theorem dX12_readPlan_28 : decode cX12_readPlan 28 = .ok (.invokevirtual 287, 3) := by decide +kernel
theorem dX12_readPlan_31 : decode cX12_readPlan 31 = .ok (.aload_n 0, 1) := by decide +kernel
theorem dX12_readPlan_32 : decode cX12_readPlan 32 = .ok (.getfield 143, 3) := by decide +kernel
theorem dX12_readPlan_35 : decode cX12_readPlan 35 = .ok (.iconst (-1), 1) := by decide +kernel
theorem dX12_readPlan_36 : decode cX12_readPlan 36 = .ok (.if_icmp .eq 4, 3) := by decide +kernel
theorem dX12_readPlan_39 : decode cX12_readPlan 39 = .ok (.return_, 1) := by decide +kernel
theorem dX12_readPlan_40 : decode cX12_readPlan 40 = .ok (.iinc 1 1, 3) := by decide +kernel
theorem dX12_readPlan_43 : decode cX12_readPlan 43 = .ok (.aload_n 0, 1) := by decide +kernel
theorem dX12_readPlan_44 : decode cX12_readPlan 44 = .ok (.invokevirtual 153, 3) := by decide +kernel
theorem dX12_readPlan_47 : decode cX12_readPlan 47 = .ok (.bipush 59, 2) := by decide +kernel
theorem dX12_readPlan_49 : decode cX12_readPlan 49 = .ok (.if_icmp .ne 7, 3) := by decide +kernel
theorem dX12_readPlan_52 : decode cX12_readPlan 52 = .ok (.iconst 1, 1) := by decide +kernel
theorem dX12_readPlan_53 : decode cX12_readPlan 53 = .ok (.goto 4, 3) := by decide +kernel
theorem dX12_readPlan_56 : decode cX12_readPlan 56 = .ok (.iconst 0, 1) := by decide +kernel
theorem dX12_readPlan_57 : decode cX12_readPlan 57 = .ok (.istore_n 2, 1) := by decide +kernel
theorem dX12_readPlan_58 : decode cX12_readPlan 58 = .ok (.iload_n 2, 1) := by decide +kernel
theorem dX12_readPlan_59 : decode cX12_readPlan 59 = .ok (.ifCond .eq 15, 3) := by decide +kernel
theorem dX12_readPlan_62 : decode cX12_readPlan 62 = .ok (.iload_n 1, 1) := by decide +kernel
theorem dX12_readPlan_63 : decode cX12_readPlan 63 = .ok (.bipush 16, 2) := by decide +kernel
theorem dX12_readPlan_65 : decode cX12_readPlan 65 = .ok (.if_icmp .ne 9, 3) := by decide +kernel
theorem dX12_readPlan_68 : decode cX12_readPlan 68 = .ok (.aload_n 0, 1) := by decide +kernel
theorem dX12_readPlan_69 : decode cX12_readPlan 69 = .ok (.invokevirtual 149, 3) := by decide +kernel
theorem dX12_readPlan_72 : decode cX12_readPlan 72 = .ok (.pop, 1) := by decide +kernel
theorem dX12_readPlan_73 : decode cX12_readPlan 73 = .ok (.return_, 1) := by decide +kernel
theorem dX12_readPlan_74 : decode cX12_readPlan 74 = .ok (.iload_n 2, 1) := by decide +kernel
theorem dX12_readPlan_75 : decode cX12_readPlan 75 = .ok (.ifCond .eq (-58), 3) := by decide +kernel
theorem dX12_readPlan_78 : decode cX12_readPlan 78 = .ok (.aload_n 0, 1) := by decide +kernel
theorem dX12_readPlan_79 : decode cX12_readPlan 79 = .ok (.dup, 1) := by decide +kernel
theorem dX12_readPlan_80 : decode cX12_readPlan 80 = .ok (.getfield 134, 3) := by decide +kernel
theorem dX12_readPlan_83 : decode cX12_readPlan 83 = .ok (.iconst 1, 1) := by decide +kernel
theorem dX12_readPlan_84 : decode cX12_readPlan 84 = .ok (.iadd, 1) := by decide +kernel
theorem dX12_readPlan_85 : decode cX12_readPlan 85 = .ok (.putfield 134, 3) := by decide +kernel
theorem dX12_readPlan_88 : decode cX12_readPlan 88 = .ok (.goto (-71), 3) := by decide +kernel
theorem dX12_readPlan_91 : decode cX12_readPlan 91 = .ok (.aload_n 0, 1) := by decide +kernel
theorem dX12_readPlan_92 : decode cX12_readPlan 92 = .ok (.getfield 58, 3) := by decide +kernel
theorem dX12_readPlan_95 : decode cX12_readPlan 95 = .ok (.iconst 4, 1) := by decide +kernel
theorem dX12_readPlan_96 : decode cX12_readPlan 96 = .ok (.iload_n 1, 1) := by decide +kernel
theorem dX12_readPlan_97 : decode cX12_readPlan 97 = .ok (.iastore, 1) := by decide +kernel
theorem dX12_readPlan_98 : decode cX12_readPlan 98 = .ok (.aload_n 0, 1) := by decide +kernel
theorem dX12_readPlan_99 : decode cX12_readPlan 99 = .ok (.invokevirtual 153, 3) := by decide +kernel
theorem dX12_readPlan_102 : decode cX12_readPlan 102 = .ok (.iconst (-1), 1) := by decide +kernel
theorem dX12_readPlan_103 : decode cX12_readPlan 103 = .ok (.if_icmp .eq 8, 3) := by decide +kernel
theorem dX12_readPlan_106 : decode cX12_readPlan 106 = .ok (.aload_n 0, 1) := by decide +kernel
theorem dX12_readPlan_107 : decode cX12_readPlan 107 = .ok (.invokevirtual 149, 3) := by decide +kernel
theorem dX12_readPlan_110 : decode cX12_readPlan 110 = .ok (.pop, 1) := by decide +kernel
theorem dX12_readPlan_111 : decode cX12_readPlan 111 = .ok (.return_, 1) := by decide +kernel
theorem dX12_fault_0 : decode cX12_fault 0 = .ok (.aload_n 0, 1) := by decide +kernel
theorem dX12_fault_1 : decode cX12_fault 1 = .ok (.iconst 0, 1) := by decide +kernel
theorem dX12_fault_2 : decode cX12_fault 2 = .ok (.putfield 111, 3) := by decide +kernel
theorem dX12_fault_5 : decode cX12_fault 5 = .ok (.iload_n 1, 1) := by decide +kernel
theorem dX12_fault_6 : decode cX12_fault 6 = .ok (.i2l, 1) := by decide +kernel
theorem dX12_fault_7 : decode cX12_fault 7 = .ok (.lconst 0, 1) := by decide +kernel
theorem dX12_fault_8 : decode cX12_fault 8 = .ok (.ldc2_w 290, 3) := by decide +kernel
theorem dX12_fault_11 : decode cX12_fault 11 = .ok (.invokestatic 232, 3) := by decide +kernel
theorem dX12_fault_14 : decode cX12_fault 14 = .ok (.ifCond .ne 6, 3) := by decide +kernel
theorem dX12_fault_17 : decode cX12_fault 17 = .ok (.bipush (-2), 2) := by decide +kernel
theorem dX12_fault_19 : decode cX12_fault 19 = .ok (.ireturn, 1) := by decide +kernel
theorem dX12_fault_20 : decode cX12_fault 20 = .ok (.iload_n 1, 1) := by decide +kernel
theorem dX12_fault_21 : decode cX12_fault 21 = .ok (.ifCond .ne 7, 3) := by decide +kernel
theorem dX12_fault_24 : decode cX12_fault 24 = .ok (.aload_n 0, 1) := by decide +kernel
theorem dX12_fault_25 : decode cX12_fault 25 = .ok (.invokevirtual 292, 3) := by decide +kernel
theorem dX12_fault_28 : decode cX12_fault 28 = .ok (.iload_n 1, 1) := by decide +kernel
theorem dX12_fault_29 : decode cX12_fault 29 = .ok (.iconst 1, 1) := by decide +kernel
theorem dX12_fault_30 : decode cX12_fault 30 = .ok (.if_icmp .ne 16, 3) := by decide +kernel
theorem dX12_fault_33 : decode cX12_fault 33 = .ok (.aload_n 0, 1) := by decide +kernel
theorem dX12_fault_34 : decode cX12_fault 34 = .ok (.aload_n 0, 1) := by decide +kernel
theorem dX12_fault_35 : decode cX12_fault 35 = .ok (.getfield 9, 3) := by decide +kernel
theorem dX12_fault_38 : decode cX12_fault 38 = .ok (.iconst 0, 1) := by decide +kernel
theorem dX12_fault_39 : decode cX12_fault 39 = .ok (.aload_n 0, 1) := by decide +kernel
theorem dX12_fault_40 : decode cX12_fault 40 = .ok (.getfield 124, 3) := by decide +kernel
theorem dX12_fault_43 : decode cX12_fault 43 = .ok (.invokevirtual 295, 3) := by decide +kernel
theorem dX12_fault_46 : decode cX12_fault 46 = .ok (.iload_n 1, 1) := by decide +kernel
theorem dX12_fault_47 : decode cX12_fault 47 = .ok (.iconst 2, 1) := by decide +kernel
theorem dX12_fault_48 : decode cX12_fault 48 = .ok (.if_icmp .ne 7, 3) := by decide +kernel
theorem dX12_fault_51 : decode cX12_fault 51 = .ok (.aload_n 0, 1) := by decide +kernel
theorem dX12_fault_52 : decode cX12_fault 52 = .ok (.invokevirtual 298, 3) := by decide +kernel
theorem dX12_fault_55 : decode cX12_fault 55 = .ok (.aload_n 0, 1) := by decide +kernel
theorem dX12_fault_56 : decode cX12_fault 56 = .ok (.getfield 143, 3) := by decide +kernel
theorem dX12_fault_59 : decode cX12_fault 59 = .ok (.ireturn, 1) := by decide +kernel
theorem dX12_text_0 : decode cX12_text 0 = .ok (.aload_n 0, 1) := by decide +kernel
theorem dX12_text_1 : decode cX12_text 1 = .ok (.iconst 0, 1) := by decide +kernel
theorem dX12_text_2 : decode cX12_text 2 = .ok (.putfield 111, 3) := by decide +kernel
theorem dX12_text_5 : decode cX12_text 5 = .ok (.iload_n 1, 1) := by decide +kernel
theorem dX12_text_6 : decode cX12_text 6 = .ok (.i2l, 1) := by decide +kernel
theorem dX12_text_7 : decode cX12_text 7 = .ok (.lconst 0, 1) := by decide +kernel
theorem dX12_text_8 : decode cX12_text 8 = .ok (.ldc2_w 290, 3) := by decide +kernel
theorem dX12_text_11 : decode cX12_text 11 = .ok (.invokestatic 232, 3) := by decide +kernel
theorem dX12_text_14 : decode cX12_text 14 = .ok (.ifCond .eq 38, 3) := by decide +kernel
theorem dX12_text_17 : decode cX12_text 17 = .ok (.iload_n 1, 1) := by decide +kernel
theorem dX12_text_18 : decode cX12_text 18 = .ok (.iconst 1, 1) := by decide +kernel
theorem dX12_text_19 : decode cX12_text 19 = .ok (.if_icmp .ne 11, 3) := by decide +kernel
theorem dX12_text_22 : decode cX12_text 22 = .ok (.aload_n 0, 1) := by decide +kernel
theorem dX12_text_23 : decode cX12_text 23 = .ok (.getfield 301, 3) := by decide +kernel
theorem dX12_text_26 : decode cX12_text 26 = .ok (.iconst 4, 1) := by decide +kernel
theorem dX12_text_27 : decode cX12_text 27 = .ok (.if_icmp .eq 25, 3) := by decide +kernel
theorem dX12_text_30 : decode cX12_text 30 = .ok (.iload_n 1, 1) := by decide +kernel
theorem dX12_text_31 : decode cX12_text 31 = .ok (.iconst 2, 1) := by decide +kernel
theorem dX12_text_32 : decode cX12_text 32 = .ok (.if_icmp .ne 11, 3) := by decide +kernel
theorem dX12_text_35 : decode cX12_text 35 = .ok (.aload_n 0, 1) := by decide +kernel
theorem dX12_text_36 : decode cX12_text 36 = .ok (.getfield 304, 3) := by decide +kernel
theorem dX12_text_39 : decode cX12_text 39 = .ok (.iconst 4, 1) := by decide +kernel
theorem dX12_text_40 : decode cX12_text 40 = .ok (.if_icmp .eq 12, 3) := by decide +kernel
theorem dX12_text_43 : decode cX12_text 43 = .ok (.aload_n 0, 1) := by decide +kernel
theorem dX12_text_44 : decode cX12_text 44 = .ok (.iload_n 1, 1) := by decide +kernel
theorem dX12_text_45 : decode cX12_text 45 = .ok (.invokevirtual 307, 3) := by decide +kernel
theorem dX12_text_48 : decode cX12_text 48 = .ok (.iconst (-1), 1) := by decide +kernel
theorem dX12_text_49 : decode cX12_text 49 = .ok (.if_icmp .eq 5, 3) := by decide +kernel
theorem dX12_text_52 : decode cX12_text 52 = .ok (.iconst (-1), 1) := by decide +kernel
theorem dX12_text_53 : decode cX12_text 53 = .ok (.ireturn, 1) := by decide +kernel
theorem dX12_text_54 : decode cX12_text 54 = .ok (.aload_n 0, 1) := by decide +kernel
theorem dX12_text_55 : decode cX12_text 55 = .ok (.getfield 124, 3) := by decide +kernel
theorem dX12_text_58 : decode cX12_text 58 = .ok (.istore_n 2, 1) := by decide +kernel
theorem dX12_text_59 : decode cX12_text 59 = .ok (.aload_n 0, 1) := by decide +kernel
theorem dX12_text_60 : decode cX12_text 60 = .ok (.iconst 0, 1) := by decide +kernel
theorem dX12_text_61 : decode cX12_text 61 = .ok (.putfield 124, 3) := by decide +kernel
theorem dX12_text_64 : decode cX12_text 64 = .ok (.iload_n 1, 1) := by decide +kernel
theorem dX12_text_65 : decode cX12_text 65 = .ok (.iconst 1, 1) := by decide +kernel
theorem dX12_text_66 : decode cX12_text 66 = .ok (.if_icmp .ne 64, 3) := by decide +kernel
theorem dX12_text_69 : decode cX12_text 69 = .ok (.iconst 0, 1) := by decide +kernel
theorem dX12_text_70 : decode cX12_text 70 = .ok (.istore_n 3, 1) := by decide +kernel
theorem dX12_text_71 : decode cX12_text 71 = .ok (.iload_n 3, 1) := by decide +kernel
theorem dX12_text_72 : decode cX12_text 72 = .ok (.iload_n 2, 1) := by decide +kernel
theorem dX12_text_73 : decode cX12_text 73 = .ok (.if_icmp .ge 30, 3) := by decide +kernel
theorem dX12_text_76 : decode cX12_text 76 = .ok (.aload_n 0, 1) := by decide +kernel
theorem dX12_text_77 : decode cX12_text 77 = .ok (.getfield 13, 3) := by decide +kernel
theorem dX12_text_80 : decode cX12_text 80 = .ok (.sipush 240, 3) := by decide +kernel
theorem dX12_text_83 : decode cX12_text 83 = .ok (.aload_n 0, 1) := by decide +kernel
theorem dX12_text_84 : decode cX12_text 84 = .ok (.getfield 301, 3) := by decide +kernel
theorem dX12_text_87 : decode cX12_text 87 = .ok (.imul, 1) := by decide +kernel
theorem dX12_text_88 : decode cX12_text 88 = .ok (.iload_n 3, 1) := by decide +kernel
theorem dX12_text_89 : decode cX12_text 89 = .ok (.iadd, 1) := by decide +kernel
theorem dX12_text_90 : decode cX12_text 90 = .ok (.aload_n 0, 1) := by decide +kernel
theorem dX12_text_91 : decode cX12_text 91 = .ok (.getfield 9, 3) := by decide +kernel
theorem dX12_text_94 : decode cX12_text 94 = .ok (.iload_n 3, 1) := by decide +kernel
theorem dX12_text_95 : decode cX12_text 95 = .ok (.baload, 1) := by decide +kernel
theorem dX12_text_96 : decode cX12_text 96 = .ok (.bastore, 1) := by decide +kernel
theorem dX12_text_97 : decode cX12_text 97 = .ok (.iinc 3 1, 3) := by decide +kernel
theorem dX12_text_100 : decode cX12_text 100 = .ok (.goto (-29), 3) := by decide +kernel
theorem dX12_text_103 : decode cX12_text 103 = .ok (.aload_n 0, 1) := by decide +kernel
theorem dX12_text_104 : decode cX12_text 104 = .ok (.getfield 16, 3) := by decide +kernel
theorem dX12_text_107 : decode cX12_text 107 = .ok (.aload_n 0, 1) := by decide +kernel
theorem dX12_text_108 : decode cX12_text 108 = .ok (.getfield 301, 3) := by decide +kernel
theorem dX12_text_111 : decode cX12_text 111 = .ok (.iload_n 2, 1) := by decide +kernel
theorem dX12_text_112 : decode cX12_text 112 = .ok (.iastore, 1) := by decide +kernel
theorem dX12_text_113 : decode cX12_text 113 = .ok (.aload_n 0, 1) := by decide +kernel
theorem dX12_text_114 : decode cX12_text 114 = .ok (.dup, 1) := by decide +kernel
theorem dX12_text_115 : decode cX12_text 115 = .ok (.getfield 301, 3) := by decide +kernel
theorem dX12_text_118 : decode cX12_text 118 = .ok (.iconst 1, 1) := by decide +kernel
theorem dX12_text_119 : decode cX12_text 119 = .ok (.iadd, 1) := by decide +kernel
theorem dX12_text_120 : decode cX12_text 120 = .ok (.putfield 301, 3) := by decide +kernel
theorem dX12_text_123 : decode cX12_text 123 = .ok (.aload_n 0, 1) := by decide +kernel
theorem dX12_text_124 : decode cX12_text 124 = .ok (.getfield 301, 3) := by decide +kernel
theorem dX12_text_127 : decode cX12_text 127 = .ok (.iconst 1, 1) := by decide +kernel
theorem dX12_text_128 : decode cX12_text 128 = .ok (.isub, 1) := by decide +kernel
theorem dX12_text_129 : decode cX12_text 129 = .ok (.ireturn, 1) := by decide +kernel
theorem dX12_text_130 : decode cX12_text 130 = .ok (.iload_n 1, 1) := by decide +kernel
theorem dX12_text_131 : decode cX12_text 131 = .ok (.iconst 2, 1) := by decide +kernel
theorem dX12_text_132 : decode cX12_text 132 = .ok (.if_icmp .ne 73, 3) := by decide +kernel
theorem dX12_text_135 : decode cX12_text 135 = .ok (.iconst 0, 1) := by decide +kernel
theorem dX12_text_136 : decode cX12_text 136 = .ok (.istore_n 3, 1) := by decide +kernel
theorem dX12_text_137 : decode cX12_text 137 = .ok (.iload_n 3, 1) := by decide +kernel
theorem dX12_text_138 : decode cX12_text 138 = .ok (.bipush 64, 2) := by decide +kernel
theorem dX12_text_140 : decode cX12_text 140 = .ok (.if_icmp .ge 33, 3) := by decide +kernel
theorem dX12_text_143 : decode cX12_text 143 = .ok (.aload_n 0, 1) := by decide +kernel
theorem dX12_text_144 : decode cX12_text 144 = .ok (.getfield 55, 3) := by decide +kernel
theorem dX12_text_147 : decode cX12_text 147 = .ok (.bipush 64, 2) := by decide +kernel
theorem dX12_text_149 : decode cX12_text 149 = .ok (.aload_n 0, 1) := by decide +kernel
theorem dX12_text_150 : decode cX12_text 150 = .ok (.getfield 304, 3) := by decide +kernel
theorem dX12_text_153 : decode cX12_text 153 = .ok (.imul, 1) := by decide +kernel
theorem dX12_text_154 : decode cX12_text 154 = .ok (.iload_n 3, 1) := by decide +kernel
theorem dX12_text_155 : decode cX12_text 155 = .ok (.iadd, 1) := by decide +kernel
theorem dX12_text_156 : decode cX12_text 156 = .ok (.aload_n 0, 1) := by decide +kernel
theorem dX12_text_157 : decode cX12_text 157 = .ok (.getfield 55, 3) := by decide +kernel
theorem dX12_text_160 : decode cX12_text 160 = .ok (.sipush 256, 3) := by decide +kernel
theorem dX12_text_163 : decode cX12_text 163 = .ok (.iload_n 3, 1) := by decide +kernel
theorem dX12_text_164 : decode cX12_text 164 = .ok (.iadd, 1) := by decide +kernel
theorem dX12_text_165 : decode cX12_text 165 = .ok (.iaload, 1) := by decide +kernel
theorem dX12_text_166 : decode cX12_text 166 = .ok (.iastore, 1) := by decide +kernel
theorem dX12_text_167 : decode cX12_text 167 = .ok (.iinc 3 1, 3) := by decide +kernel
theorem dX12_text_170 : decode cX12_text 170 = .ok (.goto (-33), 3) := by decide +kernel
theorem dX12_text_173 : decode cX12_text 173 = .ok (.aload_n 0, 1) := by decide +kernel
theorem dX12_text_174 : decode cX12_text 174 = .ok (.getfield 58, 3) := by decide +kernel
theorem dX12_text_177 : decode cX12_text 177 = .ok (.aload_n 0, 1) := by decide +kernel
theorem dX12_text_178 : decode cX12_text 178 = .ok (.getfield 304, 3) := by decide +kernel
theorem dX12_text_181 : decode cX12_text 181 = .ok (.aload_n 0, 1) := by decide +kernel
theorem dX12_text_182 : decode cX12_text 182 = .ok (.getfield 58, 3) := by decide +kernel
theorem dX12_text_185 : decode cX12_text 185 = .ok (.iconst 4, 1) := by decide +kernel
theorem dX12_text_186 : decode cX12_text 186 = .ok (.iaload, 1) := by decide +kernel
theorem dX12_text_187 : decode cX12_text 187 = .ok (.iastore, 1) := by decide +kernel
theorem dX12_text_188 : decode cX12_text 188 = .ok (.aload_n 0, 1) := by decide +kernel
theorem dX12_text_189 : decode cX12_text 189 = .ok (.dup, 1) := by decide +kernel
theorem dX12_text_190 : decode cX12_text 190 = .ok (.getfield 304, 3) := by decide +kernel
theorem dX12_text_193 : decode cX12_text 193 = .ok (.iconst 1, 1) := by decide +kernel
theorem dX12_text_194 : decode cX12_text 194 = .ok (.iadd, 1) := by decide +kernel
theorem dX12_text_195 : decode cX12_text 195 = .ok (.putfield 304, 3) := by decide +kernel
theorem dX12_text_198 : decode cX12_text 198 = .ok (.aload_n 0, 1) := by decide +kernel
theorem dX12_text_199 : decode cX12_text 199 = .ok (.getfield 304, 3) := by decide +kernel
theorem dX12_text_202 : decode cX12_text 202 = .ok (.iconst 1, 1) := by decide +kernel
theorem dX12_text_203 : decode cX12_text 203 = .ok (.isub, 1) := by decide +kernel
theorem dX12_text_204 : decode cX12_text 204 = .ok (.ireturn, 1) := by decide +kernel
theorem dX12_text_205 : decode cX12_text 205 = .ok (.aload_n 0, 1) := by decide +kernel
theorem dX12_text_206 : decode cX12_text 206 = .ok (.aload_n 0, 1) := by decide +kernel
theorem dX12_text_207 : decode cX12_text 207 = .ok (.getfield 260, 3) := by decide +kernel
theorem dX12_text_210 : decode cX12_text 210 = .ok (.putfield 309, 3) := by decide +kernel
theorem dX12_text_213 : decode cX12_text 213 = .ok (.aload_n 0, 1) := by decide +kernel
theorem dX12_text_214 : decode cX12_text 214 = .ok (.aload_n 0, 1) := by decide +kernel
theorem dX12_text_215 : decode cX12_text 215 = .ok (.getfield 263, 3) := by decide +kernel
theorem dX12_text_218 : decode cX12_text 218 = .ok (.putfield 312, 3) := by decide +kernel
theorem dX12_text_221 : decode cX12_text 221 = .ok (.iconst 0, 1) := by decide +kernel
theorem dX12_text_222 : decode cX12_text 222 = .ok (.istore_n 3, 1) := by decide +kernel
theorem dX12_text_223 : decode cX12_text 223 = .ok (.iload_n 3, 1) := by decide +kernel
theorem dX12_text_224 : decode cX12_text 224 = .ok (.iconst 4, 1) := by decide +kernel
theorem dX12_text_225 : decode cX12_text 225 = .ok (.if_icmp .ge 21, 3) := by decide +kernel
theorem dX12_text_228 : decode cX12_text 228 = .ok (.aload_n 0, 1) := by decide +kernel
theorem dX12_text_229 : decode cX12_text 229 = .ok (.getfield 37, 3) := by decide +kernel
theorem dX12_text_232 : decode cX12_text 232 = .ok (.iload_n 3, 1) := by decide +kernel
theorem dX12_text_233 : decode cX12_text 233 = .ok (.aload_n 0, 1) := by decide +kernel
theorem dX12_text_234 : decode cX12_text 234 = .ok (.getfield 40, 3) := by decide +kernel
theorem dX12_text_237 : decode cX12_text 237 = .ok (.iload_n 3, 1) := by decide +kernel
theorem dX12_text_238 : decode cX12_text 238 = .ok (.iaload, 1) := by decide +kernel
theorem dX12_text_239 : decode cX12_text 239 = .ok (.iastore, 1) := by decide +kernel
theorem dX12_text_240 : decode cX12_text 240 = .ok (.iinc 3 1, 3) := by decide +kernel
theorem dX12_text_243 : decode cX12_text 243 = .ok (.goto (-20), 3) := by decide +kernel
theorem dX12_text_246 : decode cX12_text 246 = .ok (.iconst 0, 1) := by decide +kernel
theorem dX12_text_247 : decode cX12_text 247 = .ok (.istore_n 3, 1) := by decide +kernel
theorem dX12_text_248 : decode cX12_text 248 = .ok (.iload_n 3, 1) := by decide +kernel
theorem dX12_text_249 : decode cX12_text 249 = .ok (.bipush 64, 2) := by decide +kernel
theorem dX12_text_251 : decode cX12_text 251 = .ok (.if_icmp .ge 21, 3) := by decide +kernel
theorem dX12_text_254 : decode cX12_text 254 = .ok (.aload_n 0, 1) := by decide +kernel
theorem dX12_text_255 : decode cX12_text 255 = .ok (.getfield 43, 3) := by decide +kernel
theorem dX12_text_258 : decode cX12_text 258 = .ok (.iload_n 3, 1) := by decide +kernel
theorem dX12_text_259 : decode cX12_text 259 = .ok (.aload_n 0, 1) := by decide +kernel
theorem dX12_text_260 : decode cX12_text 260 = .ok (.getfield 46, 3) := by decide +kernel
theorem dX12_text_263 : decode cX12_text 263 = .ok (.iload_n 3, 1) := by decide +kernel
theorem dX12_text_264 : decode cX12_text 264 = .ok (.iaload, 1) := by decide +kernel
theorem dX12_text_265 : decode cX12_text 265 = .ok (.iastore, 1) := by decide +kernel
theorem dX12_text_266 : decode cX12_text 266 = .ok (.iinc 3 1, 3) := by decide +kernel
theorem dX12_text_269 : decode cX12_text 269 = .ok (.goto (-21), 3) := by decide +kernel
theorem dX12_text_272 : decode cX12_text 272 = .ok (.iconst 0, 1) := by decide +kernel
theorem dX12_text_273 : decode cX12_text 273 = .ok (.istore_n 3, 1) := by decide +kernel
theorem dX12_text_274 : decode cX12_text 274 = .ok (.iload_n 3, 1) := by decide +kernel
theorem dX12_text_275 : decode cX12_text 275 = .ok (.bipush 12, 2) := by decide +kernel
theorem dX12_text_277 : decode cX12_text 277 = .ok (.if_icmp .ge 21, 3) := by decide +kernel
theorem dX12_text_280 : decode cX12_text 280 = .ok (.aload_n 0, 1) := by decide +kernel
theorem dX12_text_281 : decode cX12_text 281 = .ok (.getfield 49, 3) := by decide +kernel
theorem dX12_text_284 : decode cX12_text 284 = .ok (.iload_n 3, 1) := by decide +kernel
theorem dX12_text_285 : decode cX12_text 285 = .ok (.aload_n 0, 1) := by decide +kernel
theorem dX12_text_286 : decode cX12_text 286 = .ok (.getfield 52, 3) := by decide +kernel
theorem dX12_text_289 : decode cX12_text 289 = .ok (.iload_n 3, 1) := by decide +kernel
theorem dX12_text_290 : decode cX12_text 290 = .ok (.iaload, 1) := by decide +kernel
theorem dX12_text_291 : decode cX12_text 291 = .ok (.iastore, 1) := by decide +kernel
theorem dX12_text_292 : decode cX12_text 292 = .ok (.iinc 3 1, 3) := by decide +kernel
theorem dX12_text_295 : decode cX12_text 295 = .ok (.goto (-21), 3) := by decide +kernel
theorem dX12_text_298 : decode cX12_text 298 = .ok (.aload_n 0, 1) := by decide +kernel
theorem dX12_text_299 : decode cX12_text 299 = .ok (.invokevirtual 315, 3) := by decide +kernel
theorem dX12_text_302 : decode cX12_text 302 = .ok (.aload_n 0, 1) := by decide +kernel
theorem dX12_text_303 : decode cX12_text 303 = .ok (.getfield 309, 3) := by decide +kernel
theorem dX12_text_306 : decode cX12_text 306 = .ok (.ireturn, 1) := by decide +kernel
theorem dX12_begin_0 : decode cX12_begin 0 = .ok (.iconst 0, 1) := by decide +kernel
theorem dX12_begin_1 : decode cX12_begin 1 = .ok (.istore_n 1, 1) := by decide +kernel
theorem dX12_begin_2 : decode cX12_begin 2 = .ok (.iload_n 1, 1) := by decide +kernel
theorem dX12_begin_3 : decode cX12_begin 3 = .ok (.sipush 242, 3) := by decide +kernel
theorem dX12_begin_6 : decode cX12_begin 6 = .ok (.if_icmp .ge 16, 3) := by decide +kernel
theorem dX12_begin_9 : decode cX12_begin 9 = .ok (.aload_n 0, 1) := by decide +kernel
theorem dX12_begin_10 : decode cX12_begin 10 = .ok (.getfield 61, 3) := by decide +kernel
theorem dX12_begin_13 : decode cX12_begin 13 = .ok (.iload_n 1, 1) := by decide +kernel
theorem dX12_begin_14 : decode cX12_begin 14 = .ok (.iconst 0, 1) := by decide +kernel
theorem dX12_begin_15 : decode cX12_begin 15 = .ok (.iastore, 1) := by decide +kernel
theorem dX12_begin_16 : decode cX12_begin 16 = .ok (.iinc 1 1, 3) := by decide +kernel
theorem dX12_begin_19 : decode cX12_begin 19 = .ok (.goto (-17), 3) := by decide +kernel
theorem dX12_begin_22 : decode cX12_begin 22 = .ok (.iconst 0, 1) := by decide +kernel
theorem dX12_begin_23 : decode cX12_begin 23 = .ok (.istore_n 1, 1) := by decide +kernel
theorem dX12_begin_24 : decode cX12_begin 24 = .ok (.iload_n 1, 1) := by decide +kernel
theorem dX12_begin_25 : decode cX12_begin 25 = .ok (.aload_n 0, 1) := by decide +kernel
theorem dX12_begin_26 : decode cX12_begin 26 = .ok (.getfield 309, 3) := by decide +kernel
theorem dX12_begin_29 : decode cX12_begin 29 = .ok (.if_icmp .ge 92, 3) := by decide +kernel
theorem dX12_begin_32 : decode cX12_begin 32 = .ok (.iconst 0, 1) := by decide +kernel
theorem dX12_begin_33 : decode cX12_begin 33 = .ok (.istore_n 2, 1) := by decide +kernel
theorem dX12_begin_34 : decode cX12_begin 34 = .ok (.iload_n 2, 1) := by decide +kernel
theorem dX12_begin_35 : decode cX12_begin 35 = .ok (.iconst 3, 1) := by decide +kernel
theorem dX12_begin_36 : decode cX12_begin 36 = .ok (.if_icmp .ge 27, 3) := by decide +kernel
theorem dX12_begin_39 : decode cX12_begin 39 = .ok (.aload_n 0, 1) := by decide +kernel
theorem dX12_begin_40 : decode cX12_begin 40 = .ok (.getfield 61, 3) := by decide +kernel
theorem dX12_begin_43 : decode cX12_begin 43 = .ok (.iconst 5, 1) := by decide +kernel
theorem dX12_begin_44 : decode cX12_begin 44 = .ok (.iload_n 1, 1) := by decide +kernel
theorem dX12_begin_45 : decode cX12_begin 45 = .ok (.imul, 1) := by decide +kernel
theorem dX12_begin_46 : decode cX12_begin 46 = .ok (.iload_n 2, 1) := by decide +kernel
theorem dX12_begin_47 : decode cX12_begin 47 = .ok (.iadd, 1) := by decide +kernel
theorem dX12_begin_48 : decode cX12_begin 48 = .ok (.aload_n 0, 1) := by decide +kernel
theorem dX12_begin_49 : decode cX12_begin 49 = .ok (.iload_n 1, 1) := by decide +kernel
theorem dX12_begin_50 : decode cX12_begin 50 = .ok (.iconst 3, 1) := by decide +kernel
theorem dX12_begin_51 : decode cX12_begin 51 = .ok (.iload_n 2, 1) := by decide +kernel
theorem dX12_begin_52 : decode cX12_begin 52 = .ok (.iadd, 1) := by decide +kernel
theorem dX12_begin_53 : decode cX12_begin 53 = .ok (.invokevirtual 318, 3) := by decide +kernel
theorem dX12_begin_56 : decode cX12_begin 56 = .ok (.iastore, 1) := by decide +kernel
theorem dX12_begin_57 : decode cX12_begin 57 = .ok (.iinc 2 1, 3) := by decide +kernel
theorem dX12_begin_60 : decode cX12_begin 60 = .ok (.goto (-26), 3) := by decide +kernel
theorem dX12_begin_63 : decode cX12_begin 63 = .ok (.aload_n 0, 1) := by decide +kernel
theorem dX12_begin_64 : decode cX12_begin 64 = .ok (.getfield 61, 3) := by decide +kernel
theorem dX12_begin_67 : decode cX12_begin 67 = .ok (.iconst 5, 1) := by decide +kernel
theorem dX12_begin_68 : decode cX12_begin 68 = .ok (.iload_n 1, 1) := by decide +kernel
theorem dX12_begin_69 : decode cX12_begin 69 = .ok (.imul, 1) := by decide +kernel
theorem dX12_begin_70 : decode cX12_begin 70 = .ok (.iconst 3, 1) := by decide +kernel
theorem dX12_begin_71 : decode cX12_begin 71 = .ok (.iadd, 1) := by decide +kernel
theorem dX12_begin_72 : decode cX12_begin 72 = .ok (.aload_n 0, 1) := by decide +kernel
theorem dX12_begin_73 : decode cX12_begin 73 = .ok (.iload_n 1, 1) := by decide +kernel
theorem dX12_begin_74 : decode cX12_begin 74 = .ok (.bipush 6, 2) := by decide +kernel
theorem dX12_begin_76 : decode cX12_begin 76 = .ok (.invokevirtual 318, 3) := by decide +kernel
theorem dX12_begin_79 : decode cX12_begin 79 = .ok (.aload_n 0, 1) := by decide +kernel
theorem dX12_begin_80 : decode cX12_begin 80 = .ok (.getfield 312, 3) := by decide +kernel
theorem dX12_begin_83 : decode cX12_begin 83 = .ok (.if_icmp .ge 13, 3) := by decide +kernel
theorem dX12_begin_86 : decode cX12_begin 86 = .ok (.aload_n 0, 1) := by decide +kernel
theorem dX12_begin_87 : decode cX12_begin 87 = .ok (.iload_n 1, 1) := by decide +kernel
theorem dX12_begin_88 : decode cX12_begin 88 = .ok (.bipush 6, 2) := by decide +kernel
theorem dX12_begin_90 : decode cX12_begin 90 = .ok (.invokevirtual 318, 3) := by decide +kernel
theorem dX12_begin_93 : decode cX12_begin 93 = .ok (.goto 4, 3) := by decide +kernel
theorem dX12_begin_96 : decode cX12_begin 96 = .ok (.iconst (-1), 1) := by decide +kernel
theorem dX12_begin_97 : decode cX12_begin 97 = .ok (.iastore, 1) := by decide +kernel
theorem dX12_begin_98 : decode cX12_begin 98 = .ok (.aload_n 0, 1) := by decide +kernel
theorem dX12_begin_99 : decode cX12_begin 99 = .ok (.getfield 61, 3) := by decide +kernel
theorem dX12_begin_102 : decode cX12_begin 102 = .ok (.iconst 5, 1) := by decide +kernel
theorem dX12_begin_103 : decode cX12_begin 103 = .ok (.iload_n 1, 1) := by decide +kernel
theorem dX12_begin_104 : decode cX12_begin 104 = .ok (.imul, 1) := by decide +kernel
theorem dX12_begin_105 : decode cX12_begin 105 = .ok (.iconst 4, 1) := by decide +kernel
theorem dX12_begin_106 : decode cX12_begin 106 = .ok (.iadd, 1) := by decide +kernel
theorem dX12_begin_107 : decode cX12_begin 107 = .ok (.aload_n 0, 1) := by decide +kernel
theorem dX12_begin_108 : decode cX12_begin 108 = .ok (.iload_n 1, 1) := by decide +kernel
theorem dX12_begin_109 : decode cX12_begin 109 = .ok (.bipush 7, 2) := by decide +kernel
theorem dX12_begin_111 : decode cX12_begin 111 = .ok (.invokevirtual 318, 3) := by decide +kernel
theorem dX12_begin_114 : decode cX12_begin 114 = .ok (.iastore, 1) := by decide +kernel
theorem dX12_begin_115 : decode cX12_begin 115 = .ok (.iinc 1 1, 3) := by decide +kernel
theorem dX12_begin_118 : decode cX12_begin 118 = .ok (.goto (-94), 3) := by decide +kernel
theorem dX12_begin_121 : decode cX12_begin 121 = .ok (.iconst 0, 1) := by decide +kernel
theorem dX12_begin_122 : decode cX12_begin 122 = .ok (.istore_n 1, 1) := by decide +kernel
theorem dX12_begin_123 : decode cX12_begin 123 = .ok (.iload_n 1, 1) := by decide +kernel
theorem dX12_begin_124 : decode cX12_begin 124 = .ok (.aload_n 0, 1) := by decide +kernel
theorem dX12_begin_125 : decode cX12_begin 125 = .ok (.getfield 312, 3) := by decide +kernel
theorem dX12_begin_128 : decode cX12_begin 128 = .ok (.if_icmp .ge 85, 3) := by decide +kernel
theorem dX12_begin_131 : decode cX12_begin 131 = .ok (.bipush 40, 2) := by decide +kernel
theorem dX12_begin_133 : decode cX12_begin 133 = .ok (.bipush 6, 2) := by decide +kernel
theorem dX12_begin_135 : decode cX12_begin 135 = .ok (.iload_n 1, 1) := by decide +kernel
theorem dX12_begin_136 : decode cX12_begin 136 = .ok (.imul, 1) := by decide +kernel
theorem dX12_begin_137 : decode cX12_begin 137 = .ok (.iadd, 1) := by decide +kernel
theorem dX12_begin_138 : decode cX12_begin 138 = .ok (.istore_n 2, 1) := by decide +kernel
theorem dX12_begin_139 : decode cX12_begin 139 = .ok (.aload_n 0, 1) := by decide +kernel
theorem dX12_begin_140 : decode cX12_begin 140 = .ok (.getfield 61, 3) := by decide +kernel
theorem dX12_begin_143 : decode cX12_begin 143 = .ok (.iload_n 2, 1) := by decide +kernel
theorem dX12_begin_144 : decode cX12_begin 144 = .ok (.iconst 0, 1) := by decide +kernel
theorem dX12_begin_145 : decode cX12_begin 145 = .ok (.iadd, 1) := by decide +kernel
theorem dX12_begin_146 : decode cX12_begin 146 = .ok (.aload_n 0, 1) := by decide +kernel
theorem dX12_begin_147 : decode cX12_begin 147 = .ok (.getfield 49, 3) := by decide +kernel
theorem dX12_begin_150 : decode cX12_begin 150 = .ok (.iconst 4, 1) := by decide +kernel
theorem dX12_begin_151 : decode cX12_begin 151 = .ok (.iload_n 1, 1) := by decide +kernel
theorem dX12_begin_152 : decode cX12_begin 152 = .ok (.imul, 1) := by decide +kernel
theorem dX12_begin_153 : decode cX12_begin 153 = .ok (.iaload, 1) := by decide +kernel
theorem dX12_begin_154 : decode cX12_begin 154 = .ok (.iastore, 1) := by decide +kernel
theorem dX12_begin_155 : decode cX12_begin 155 = .ok (.aload_n 0, 1) := by decide +kernel
theorem dX12_begin_156 : decode cX12_begin 156 = .ok (.getfield 61, 3) := by decide +kernel
theorem dX12_begin_159 : decode cX12_begin 159 = .ok (.iload_n 2, 1) := by decide +kernel
theorem dX12_begin_160 : decode cX12_begin 160 = .ok (.iconst 1, 1) := by decide +kernel
theorem dX12_begin_161 : decode cX12_begin 161 = .ok (.iadd, 1) := by decide +kernel
theorem dX12_begin_162 : decode cX12_begin 162 = .ok (.aload_n 0, 1) := by decide +kernel
theorem dX12_begin_163 : decode cX12_begin 163 = .ok (.getfield 49, 3) := by decide +kernel
theorem dX12_begin_166 : decode cX12_begin 166 = .ok (.iconst 4, 1) := by decide +kernel
theorem dX12_begin_167 : decode cX12_begin 167 = .ok (.iload_n 1, 1) := by decide +kernel
theorem dX12_begin_168 : decode cX12_begin 168 = .ok (.imul, 1) := by decide +kernel
theorem dX12_begin_169 : decode cX12_begin 169 = .ok (.iconst 1, 1) := by decide +kernel
theorem dX12_begin_170 : decode cX12_begin 170 = .ok (.iadd, 1) := by decide +kernel
theorem dX12_begin_171 : decode cX12_begin 171 = .ok (.iaload, 1) := by decide +kernel
theorem dX12_begin_172 : decode cX12_begin 172 = .ok (.iastore, 1) := by decide +kernel
theorem dX12_begin_173 : decode cX12_begin 173 = .ok (.aload_n 0, 1) := by decide +kernel
theorem dX12_begin_174 : decode cX12_begin 174 = .ok (.getfield 61, 3) := by decide +kernel
theorem dX12_begin_177 : decode cX12_begin 177 = .ok (.iload_n 2, 1) := by decide +kernel
theorem dX12_begin_178 : decode cX12_begin 178 = .ok (.iconst 2, 1) := by decide +kernel
theorem dX12_begin_179 : decode cX12_begin 179 = .ok (.iadd, 1) := by decide +kernel
theorem dX12_begin_180 : decode cX12_begin 180 = .ok (.aload_n 0, 1) := by decide +kernel
theorem dX12_begin_181 : decode cX12_begin 181 = .ok (.getfield 49, 3) := by decide +kernel
theorem dX12_begin_184 : decode cX12_begin 184 = .ok (.iconst 4, 1) := by decide +kernel
theorem dX12_begin_185 : decode cX12_begin 185 = .ok (.iload_n 1, 1) := by decide +kernel
theorem dX12_begin_186 : decode cX12_begin 186 = .ok (.imul, 1) := by decide +kernel
theorem dX12_begin_187 : decode cX12_begin 187 = .ok (.iaload, 1) := by decide +kernel
theorem dX12_begin_188 : decode cX12_begin 188 = .ok (.iastore, 1) := by decide +kernel
theorem dX12_begin_189 : decode cX12_begin 189 = .ok (.aload_n 0, 1) := by decide +kernel
theorem dX12_begin_190 : decode cX12_begin 190 = .ok (.getfield 61, 3) := by decide +kernel
theorem dX12_begin_193 : decode cX12_begin 193 = .ok (.iload_n 2, 1) := by decide +kernel
theorem dX12_begin_194 : decode cX12_begin 194 = .ok (.iconst 3, 1) := by decide +kernel
theorem dX12_begin_195 : decode cX12_begin 195 = .ok (.iadd, 1) := by decide +kernel
theorem dX12_begin_196 : decode cX12_begin 196 = .ok (.aload_n 0, 1) := by decide +kernel
theorem dX12_begin_197 : decode cX12_begin 197 = .ok (.getfield 49, 3) := by decide +kernel
theorem dX12_begin_200 : decode cX12_begin 200 = .ok (.iconst 4, 1) := by decide +kernel
theorem dX12_begin_201 : decode cX12_begin 201 = .ok (.iload_n 1, 1) := by decide +kernel
theorem dX12_begin_202 : decode cX12_begin 202 = .ok (.imul, 1) := by decide +kernel
theorem dX12_begin_203 : decode cX12_begin 203 = .ok (.iconst 1, 1) := by decide +kernel
theorem dX12_begin_204 : decode cX12_begin 204 = .ok (.iadd, 1) := by decide +kernel
theorem dX12_begin_205 : decode cX12_begin 205 = .ok (.iaload, 1) := by decide +kernel
theorem dX12_begin_206 : decode cX12_begin 206 = .ok (.iastore, 1) := by decide +kernel
theorem dX12_begin_207 : decode cX12_begin 207 = .ok (.iinc 1 1, 3) := by decide +kernel
theorem dX12_begin_210 : decode cX12_begin 210 = .ok (.goto (-87), 3) := by decide +kernel
theorem dX12_begin_213 : decode cX12_begin 213 = .ok (.aload_n 0, 1) := by decide +kernel
theorem dX12_begin_214 : decode cX12_begin 214 = .ok (.getfield 61, 3) := by decide +kernel
theorem dX12_begin_217 : decode cX12_begin 217 = .ok (.bipush 58, 2) := by decide +kernel
theorem dX12_begin_219 : decode cX12_begin 219 = .ok (.aload_n 0, 1) := by decide +kernel
theorem dX12_begin_220 : decode cX12_begin 220 = .ok (.getfield 37, 3) := by decide +kernel
theorem dX12_begin_223 : decode cX12_begin 223 = .ok (.iconst 0, 1) := by decide +kernel
theorem dX12_begin_224 : decode cX12_begin 224 = .ok (.iaload, 1) := by decide +kernel
theorem dX12_begin_225 : decode cX12_begin 225 = .ok (.iastore, 1) := by decide +kernel
theorem dX12_begin_226 : decode cX12_begin 226 = .ok (.aload_n 0, 1) := by decide +kernel
theorem dX12_begin_227 : decode cX12_begin 227 = .ok (.getfield 61, 3) := by decide +kernel
theorem dX12_begin_230 : decode cX12_begin 230 = .ok (.bipush 59, 2) := by decide +kernel
theorem dX12_begin_232 : decode cX12_begin 232 = .ok (.aload_n 0, 1) := by decide +kernel
theorem dX12_begin_233 : decode cX12_begin 233 = .ok (.getfield 37, 3) := by decide +kernel
theorem dX12_begin_236 : decode cX12_begin 236 = .ok (.iconst 1, 1) := by decide +kernel
theorem dX12_begin_237 : decode cX12_begin 237 = .ok (.iaload, 1) := by decide +kernel
theorem dX12_begin_238 : decode cX12_begin 238 = .ok (.iastore, 1) := by decide +kernel
theorem dX12_begin_239 : decode cX12_begin 239 = .ok (.aload_n 0, 1) := by decide +kernel
theorem dX12_begin_240 : decode cX12_begin 240 = .ok (.iconst 0, 1) := by decide +kernel
theorem dX12_begin_241 : decode cX12_begin 241 = .ok (.putfield 321, 3) := by decide +kernel
theorem dX12_begin_244 : decode cX12_begin 244 = .ok (.aload_n 0, 1) := by decide +kernel
theorem dX12_begin_245 : decode cX12_begin 245 = .ok (.iconst 0, 1) := by decide +kernel
theorem dX12_begin_246 : decode cX12_begin 246 = .ok (.putfield 324, 3) := by decide +kernel
theorem dX12_begin_249 : decode cX12_begin 249 = .ok (.aload_n 0, 1) := by decide +kernel
theorem dX12_begin_250 : decode cX12_begin 250 = .ok (.iconst 0, 1) := by decide +kernel
theorem dX12_begin_251 : decode cX12_begin 251 = .ok (.putfield 327, 3) := by decide +kernel
theorem dX12_begin_254 : decode cX12_begin 254 = .ok (.return_, 1) := by decide +kernel
theorem dX12_copy_0 : decode cX12_copy 0 = .ok (.bipush 62, 2) := by decide +kernel
theorem dX12_copy_2 : decode cX12_copy 2 = .ok (.iconst 3, 1) := by decide +kernel
theorem dX12_copy_3 : decode cX12_copy 3 = .ok (.aload_n 0, 1) := by decide +kernel
theorem dX12_copy_4 : decode cX12_copy 4 = .ok (.bipush 61, 2) := by decide +kernel
theorem dX12_copy_6 : decode cX12_copy 6 = .ok (.iaload, 1) := by decide +kernel
theorem dX12_copy_7 : decode cX12_copy 7 = .ok (.imul, 1) := by decide +kernel
theorem dX12_copy_8 : decode cX12_copy 8 = .ok (.iadd, 1) := by decide +kernel
theorem dX12_copy_9 : decode cX12_copy 9 = .ok (.istore_n 2, 1) := by decide +kernel
theorem dX12_copy_10 : decode cX12_copy 10 = .ok (.iconst 0, 1) := by decide +kernel
theorem dX12_copy_11 : decode cX12_copy 11 = .ok (.istore_n 3, 1) := by decide +kernel
theorem dX12_copy_12 : decode cX12_copy 12 = .ok (.iload_n 3, 1) := by decide +kernel
theorem dX12_copy_13 : decode cX12_copy 13 = .ok (.iload_n 2, 1) := by decide +kernel
theorem dX12_copy_14 : decode cX12_copy 14 = .ok (.if_icmp .ge 15, 3) := by decide +kernel
theorem dX12_copy_17 : decode cX12_copy 17 = .ok (.aload_n 1, 1) := by decide +kernel
theorem dX12_copy_18 : decode cX12_copy 18 = .ok (.iload_n 3, 1) := by decide +kernel
theorem dX12_copy_19 : decode cX12_copy 19 = .ok (.aload_n 0, 1) := by decide +kernel
theorem dX12_copy_20 : decode cX12_copy 20 = .ok (.iload_n 3, 1) := by decide +kernel
theorem dX12_copy_21 : decode cX12_copy 21 = .ok (.iaload, 1) := by decide +kernel
theorem dX12_copy_22 : decode cX12_copy 22 = .ok (.iastore, 1) := by decide +kernel
theorem dX12_copy_23 : decode cX12_copy 23 = .ok (.iinc 3 1, 3) := by decide +kernel
theorem dX12_copy_26 : decode cX12_copy 26 = .ok (.goto (-14), 3) := by decide +kernel
theorem dX12_copy_29 : decode cX12_copy 29 = .ok (.return_, 1) := by decide +kernel
theorem dX12_isBuoy_0 : decode cX12_isBuoy 0 = .ok (.iload_n 1, 1) := by decide +kernel
theorem dX12_isBuoy_1 : decode cX12_isBuoy 1 = .ok (.ifCond .lt 15, 3) := by decide +kernel
theorem dX12_isBuoy_4 : decode cX12_isBuoy 4 = .ok (.iload_n 1, 1) := by decide +kernel
theorem dX12_isBuoy_5 : decode cX12_isBuoy 5 = .ok (.aload_n 0, 1) := by decide +kernel
theorem dX12_isBuoy_6 : decode cX12_isBuoy 6 = .ok (.getfield 309, 3) := by decide +kernel
theorem dX12_isBuoy_9 : decode cX12_isBuoy 9 = .ok (.if_icmp .ge 7, 3) := by decide +kernel
theorem dX12_isBuoy_12 : decode cX12_isBuoy 12 = .ok (.iconst 1, 1) := by decide +kernel
theorem dX12_isBuoy_13 : decode cX12_isBuoy 13 = .ok (.goto 4, 3) := by decide +kernel
theorem dX12_isBuoy_16 : decode cX12_isBuoy 16 = .ok (.iconst 0, 1) := by decide +kernel
theorem dX12_isBuoy_17 : decode cX12_isBuoy 17 = .ok (.ireturn, 1) := by decide +kernel
theorem dX12_isBoat_0 : decode cX12_isBoat 0 = .ok (.iload_n 1, 1) := by decide +kernel
theorem dX12_isBoat_1 : decode cX12_isBoat 1 = .ok (.ifCond .lt 15, 3) := by decide +kernel
theorem dX12_isBoat_4 : decode cX12_isBoat 4 = .ok (.iload_n 1, 1) := by decide +kernel
theorem dX12_isBoat_5 : decode cX12_isBoat 5 = .ok (.aload_n 0, 1) := by decide +kernel
theorem dX12_isBoat_6 : decode cX12_isBoat 6 = .ok (.getfield 312, 3) := by decide +kernel
theorem dX12_isBoat_9 : decode cX12_isBoat 9 = .ok (.if_icmp .ge 7, 3) := by decide +kernel
theorem dX12_isBoat_12 : decode cX12_isBoat 12 = .ok (.iconst 1, 1) := by decide +kernel
theorem dX12_isBoat_13 : decode cX12_isBoat 13 = .ok (.goto 4, 3) := by decide +kernel
theorem dX12_isBoat_16 : decode cX12_isBoat 16 = .ok (.iconst 0, 1) := by decide +kernel
theorem dX12_isBoat_17 : decode cX12_isBoat 17 = .ok (.ireturn, 1) := by decide +kernel
theorem dX12_told_0 : decode cX12_told 0 = .ok (.aload_n 0, 1) := by decide +kernel
theorem dX12_told_1 : decode cX12_told 1 = .ok (.getfield 43, 3) := by decide +kernel
theorem dX12_told_4 : decode cX12_told 4 = .ok (.bipush 8, 2) := by decide +kernel
theorem dX12_told_6 : decode cX12_told 6 = .ok (.iload_n 1, 1) := by decide +kernel
theorem dX12_told_7 : decode cX12_told 7 = .ok (.imul, 1) := by decide +kernel
theorem dX12_told_8 : decode cX12_told 8 = .ok (.iload_n 2, 1) := by decide +kernel
theorem dX12_told_9 : decode cX12_told 9 = .ok (.iadd, 1) := by decide +kernel
theorem dX12_told_10 : decode cX12_told 10 = .ok (.iaload, 1) := by decide +kernel
theorem dX12_told_11 : decode cX12_told 11 = .ok (.ireturn, 1) := by decide +kernel
theorem dX12_boatTold_0 : decode cX12_boatTold 0 = .ok (.aload_n 0, 1) := by decide +kernel
theorem dX12_boatTold_1 : decode cX12_boatTold 1 = .ok (.getfield 49, 3) := by decide +kernel
theorem dX12_boatTold_4 : decode cX12_boatTold 4 = .ok (.iconst 4, 1) := by decide +kernel
theorem dX12_boatTold_5 : decode cX12_boatTold 5 = .ok (.iload_n 1, 1) := by decide +kernel
theorem dX12_boatTold_6 : decode cX12_boatTold 6 = .ok (.imul, 1) := by decide +kernel
theorem dX12_boatTold_7 : decode cX12_boatTold 7 = .ok (.iload_n 2, 1) := by decide +kernel
theorem dX12_boatTold_8 : decode cX12_boatTold 8 = .ok (.iadd, 1) := by decide +kernel
theorem dX12_boatTold_9 : decode cX12_boatTold 9 = .ok (.iaload, 1) := by decide +kernel
theorem dX12_boatTold_10 : decode cX12_boatTold 10 = .ok (.ireturn, 1) := by decide +kernel
theorem dX12_ofBoat_0 : decode cX12_ofBoat 0 = .ok (.aload_n 0, 1) := by decide +kernel
theorem dX12_ofBoat_1 : decode cX12_ofBoat 1 = .ok (.bipush 40, 2) := by decide +kernel
theorem dX12_ofBoat_3 : decode cX12_ofBoat 3 = .ok (.bipush 6, 2) := by decide +kernel
theorem dX12_ofBoat_5 : decode cX12_ofBoat 5 = .ok (.iload_n 1, 1) := by decide +kernel
theorem dX12_ofBoat_6 : decode cX12_ofBoat 6 = .ok (.imul, 1) := by decide +kernel
theorem dX12_ofBoat_7 : decode cX12_ofBoat 7 = .ok (.iadd, 1) := by decide +kernel
theorem dX12_ofBoat_8 : decode cX12_ofBoat 8 = .ok (.iload_n 2, 1) := by decide +kernel
theorem dX12_ofBoat_9 : decode cX12_ofBoat 9 = .ok (.iadd, 1) := by decide +kernel
theorem dX12_ofBoat_10 : decode cX12_ofBoat 10 = .ok (.iaload, 1) := by decide +kernel
theorem dX12_ofBoat_11 : decode cX12_ofBoat 11 = .ok (.ireturn, 1) := by decide +kernel
theorem dX12_away_0 : decode cX12_away 0 = .ok (.aload_n 1, 1) := by decide +kernel
theorem dX12_away_1 : decode cX12_away 1 = .ok (.iload_n 2, 1) := by decide +kernel
theorem dX12_away_2 : decode cX12_away 2 = .ok (.iconst 0, 1) := by decide +kernel
theorem dX12_away_3 : decode cX12_away 3 = .ok (.invokestatic 330, 3) := by decide +kernel
theorem dX12_away_6 : decode cX12_away 6 = .ok (.iload_n 3, 1) := by decide +kernel
theorem dX12_away_7 : decode cX12_away 7 = .ok (.isub, 1) := by decide +kernel
theorem dX12_away_8 : decode cX12_away 8 = .ok (.invokestatic 334, 3) := by decide +kernel
theorem dX12_away_11 : decode cX12_away 11 = .ok (.aload_n 1, 1) := by decide +kernel
theorem dX12_away_12 : decode cX12_away 12 = .ok (.iload_n 2, 1) := by decide +kernel
theorem dX12_away_13 : decode cX12_away 13 = .ok (.iconst 1, 1) := by decide +kernel
theorem dX12_away_14 : decode cX12_away 14 = .ok (.invokestatic 330, 3) := by decide +kernel
theorem dX12_away_17 : decode cX12_away 17 = .ok (.iload 4, 2) := by decide +kernel
theorem dX12_away_19 : decode cX12_away 19 = .ok (.isub, 1) := by decide +kernel
theorem dX12_away_20 : decode cX12_away 20 = .ok (.invokestatic 334, 3) := by decide +kernel
theorem dX12_away_23 : decode cX12_away 23 = .ok (.iadd, 1) := by decide +kernel
theorem dX12_away_24 : decode cX12_away 24 = .ok (.ireturn, 1) := by decide +kernel
theorem dX12_awayFrom_0 : decode cX12_awayFrom 0 = .ok (.aload_n 0, 1) := by decide +kernel
theorem dX12_awayFrom_1 : decode cX12_awayFrom 1 = .ok (.aload_n 1, 1) := by decide +kernel
theorem dX12_awayFrom_2 : decode cX12_awayFrom 2 = .ok (.iload_n 2, 1) := by decide +kernel
theorem dX12_awayFrom_3 : decode cX12_awayFrom 3 = .ok (.aload_n 0, 1) := by decide +kernel
theorem dX12_awayFrom_4 : decode cX12_awayFrom 4 = .ok (.iload_n 3, 1) := by decide +kernel
theorem dX12_awayFrom_5 : decode cX12_awayFrom 5 = .ok (.iconst 0, 1) := by decide +kernel
theorem dX12_awayFrom_6 : decode cX12_awayFrom 6 = .ok (.invokevirtual 318, 3) := by decide +kernel
theorem dX12_awayFrom_9 : decode cX12_awayFrom 9 = .ok (.aload_n 0, 1) := by decide +kernel
theorem dX12_awayFrom_10 : decode cX12_awayFrom 10 = .ok (.iload_n 3, 1) := by decide +kernel
theorem dX12_awayFrom_11 : decode cX12_awayFrom 11 = .ok (.iconst 1, 1) := by decide +kernel
theorem dX12_awayFrom_12 : decode cX12_awayFrom 12 = .ok (.invokevirtual 318, 3) := by decide +kernel
theorem dX12_awayFrom_15 : decode cX12_awayFrom 15 = .ok (.invokevirtual 337, 3) := by decide +kernel
theorem dX12_awayFrom_18 : decode cX12_awayFrom 18 = .ok (.ireturn, 1) := by decide +kernel
theorem dX12_rises_0 : decode cX12_rises 0 = .ok (.aload_n 1, 1) := by decide +kernel
theorem dX12_rises_1 : decode cX12_rises 1 = .ok (.bipush 60, 2) := by decide +kernel
theorem dX12_rises_3 : decode cX12_rises 3 = .ok (.iaload, 1) := by decide +kernel
theorem dX12_rises_4 : decode cX12_rises 4 = .ok (.iconst 2, 1) := by decide +kernel
theorem dX12_rises_5 : decode cX12_rises 5 = .ok (.aload_n 0, 1) := by decide +kernel
theorem dX12_rises_6 : decode cX12_rises 6 = .ok (.getfield 37, 3) := by decide +kernel
theorem dX12_rises_9 : decode cX12_rises 9 = .ok (.iconst 2, 1) := by decide +kernel
theorem dX12_rises_10 : decode cX12_rises 10 = .ok (.iaload, 1) := by decide +kernel
theorem dX12_rises_11 : decode cX12_rises 11 = .ok (.imul, 1) := by decide +kernel
theorem dX12_rises_12 : decode cX12_rises 12 = .ok (.irem, 1) := by decide +kernel
theorem dX12_rises_13 : decode cX12_rises 13 = .ok (.aload_n 0, 1) := by decide +kernel
theorem dX12_rises_14 : decode cX12_rises 14 = .ok (.getfield 37, 3) := by decide +kernel
theorem dX12_rises_17 : decode cX12_rises 17 = .ok (.iconst 2, 1) := by decide +kernel
theorem dX12_rises_18 : decode cX12_rises 18 = .ok (.iaload, 1) := by decide +kernel
theorem dX12_rises_19 : decode cX12_rises 19 = .ok (.if_icmp .ge 7, 3) := by decide +kernel
theorem dX12_rises_22 : decode cX12_rises 22 = .ok (.iconst 1, 1) := by decide +kernel
theorem dX12_rises_23 : decode cX12_rises 23 = .ok (.goto 4, 3) := by decide +kernel
theorem dX12_rises_26 : decode cX12_rises 26 = .ok (.iconst 0, 1) := by decide +kernel
theorem dX12_rises_27 : decode cX12_rises 27 = .ok (.ireturn, 1) := by decide +kernel
theorem dX12_pushOf_0 : decode cX12_pushOf 0 = .ok (.aload_n 1, 1) := by decide +kernel
theorem dX12_pushOf_1 : decode cX12_pushOf 1 = .ok (.iload_n 3, 1) := by decide +kernel
theorem dX12_pushOf_2 : decode cX12_pushOf 2 = .ok (.iconst 0, 1) := by decide +kernel
theorem dX12_pushOf_3 : decode cX12_pushOf 3 = .ok (.invokestatic 330, 3) := by decide +kernel
theorem dX12_pushOf_6 : decode cX12_pushOf 6 = .ok (.aload_n 0, 1) := by decide +kernel
theorem dX12_pushOf_7 : decode cX12_pushOf 7 = .ok (.iload_n 2, 1) := by decide +kernel
theorem dX12_pushOf_8 : decode cX12_pushOf 8 = .ok (.iconst 0, 1) := by decide +kernel
theorem dX12_pushOf_9 : decode cX12_pushOf 9 = .ok (.invokevirtual 318, 3) := by decide +kernel
theorem dX12_pushOf_12 : decode cX12_pushOf 12 = .ok (.isub, 1) := by decide +kernel
theorem dX12_pushOf_13 : decode cX12_pushOf 13 = .ok (.istore 4, 2) := by decide +kernel
theorem dX12_pushOf_15 : decode cX12_pushOf 15 = .ok (.aload_n 1, 1) := by decide +kernel
theorem dX12_pushOf_16 : decode cX12_pushOf 16 = .ok (.iload_n 3, 1) := by decide +kernel
theorem dX12_pushOf_17 : decode cX12_pushOf 17 = .ok (.iconst 1, 1) := by decide +kernel
theorem dX12_pushOf_18 : decode cX12_pushOf 18 = .ok (.invokestatic 330, 3) := by decide +kernel
theorem dX12_pushOf_21 : decode cX12_pushOf 21 = .ok (.aload_n 0, 1) := by decide +kernel
theorem dX12_pushOf_22 : decode cX12_pushOf 22 = .ok (.iload_n 2, 1) := by decide +kernel
theorem dX12_pushOf_23 : decode cX12_pushOf 23 = .ok (.iconst 1, 1) := by decide +kernel
theorem dX12_pushOf_24 : decode cX12_pushOf 24 = .ok (.invokevirtual 318, 3) := by decide +kernel
theorem dX12_pushOf_27 : decode cX12_pushOf 27 = .ok (.isub, 1) := by decide +kernel
theorem dX12_pushOf_28 : decode cX12_pushOf 28 = .ok (.istore 5, 2) := by decide +kernel
theorem dX12_pushOf_30 : decode cX12_pushOf 30 = .ok (.aload_n 1, 1) := by decide +kernel
theorem dX12_pushOf_31 : decode cX12_pushOf 31 = .ok (.bipush 59, 2) := by decide +kernel
theorem dX12_pushOf_33 : decode cX12_pushOf 33 = .ok (.iaload, 1) := by decide +kernel
theorem dX12_pushOf_34 : decode cX12_pushOf 34 = .ok (.ifCond .ne 8, 3) := by decide +kernel
theorem dX12_pushOf_37 : decode cX12_pushOf 37 = .ok (.iload 4, 2) := by decide +kernel
theorem dX12_pushOf_39 : decode cX12_pushOf 39 = .ok (.goto 33, 3) := by decide +kernel
theorem dX12_pushOf_42 : decode cX12_pushOf 42 = .ok (.aload_n 1, 1) := by decide +kernel
theorem dX12_pushOf_43 : decode cX12_pushOf 43 = .ok (.bipush 59, 2) := by decide +kernel
theorem dX12_pushOf_45 : decode cX12_pushOf 45 = .ok (.iaload, 1) := by decide +kernel
theorem dX12_pushOf_46 : decode cX12_pushOf 46 = .ok (.iconst 1, 1) := by decide +kernel
theorem dX12_pushOf_47 : decode cX12_pushOf 47 = .ok (.if_icmp .ne 8, 3) := by decide +kernel
theorem dX12_pushOf_50 : decode cX12_pushOf 50 = .ok (.iload 5, 2) := by decide +kernel
theorem dX12_pushOf_52 : decode cX12_pushOf 52 = .ok (.goto 20, 3) := by decide +kernel
theorem dX12_pushOf_55 : decode cX12_pushOf 55 = .ok (.aload_n 1, 1) := by decide +kernel
theorem dX12_pushOf_56 : decode cX12_pushOf 56 = .ok (.bipush 59, 2) := by decide +kernel
theorem dX12_pushOf_58 : decode cX12_pushOf 58 = .ok (.iaload, 1) := by decide +kernel
theorem dX12_pushOf_59 : decode cX12_pushOf 59 = .ok (.iconst 2, 1) := by decide +kernel
theorem dX12_pushOf_60 : decode cX12_pushOf 60 = .ok (.if_icmp .ne 9, 3) := by decide +kernel
theorem dX12_pushOf_63 : decode cX12_pushOf 63 = .ok (.iload 4, 2) := by decide +kernel
theorem dX12_pushOf_65 : decode cX12_pushOf 65 = .ok (.ineg, 1) := by decide +kernel
theorem dX12_pushOf_66 : decode cX12_pushOf 66 = .ok (.goto 6, 3) := by decide +kernel
theorem dX12_pushOf_69 : decode cX12_pushOf 69 = .ok (.iload 5, 2) := by decide +kernel
theorem dX12_pushOf_71 : decode cX12_pushOf 71 = .ok (.ineg, 1) := by decide +kernel
theorem dX12_pushOf_72 : decode cX12_pushOf 72 = .ok (.istore 6, 2) := by decide +kernel
theorem dX12_pushOf_74 : decode cX12_pushOf 74 = .ok (.iload 6, 2) := by decide +kernel
theorem dX12_pushOf_76 : decode cX12_pushOf 76 = .ok (.ifCond .le 10, 3) := by decide +kernel
theorem dX12_pushOf_79 : decode cX12_pushOf 79 = .ok (.aload_n 1, 1) := by decide +kernel
theorem dX12_pushOf_80 : decode cX12_pushOf 80 = .ok (.bipush 58, 2) := by decide +kernel
theorem dX12_pushOf_82 : decode cX12_pushOf 82 = .ok (.iaload, 1) := by decide +kernel
theorem dX12_pushOf_83 : decode cX12_pushOf 83 = .ok (.goto 17, 3) := by decide +kernel
theorem dX12_pushOf_86 : decode cX12_pushOf 86 = .ok (.iload 6, 2) := by decide +kernel
theorem dX12_pushOf_88 : decode cX12_pushOf 88 = .ok (.ifCond .ge 11, 3) := by decide +kernel
theorem dX12_pushOf_91 : decode cX12_pushOf 91 = .ok (.aload_n 1, 1) := by decide +kernel
theorem dX12_pushOf_92 : decode cX12_pushOf 92 = .ok (.bipush 58, 2) := by decide +kernel
theorem dX12_pushOf_94 : decode cX12_pushOf 94 = .ok (.iaload, 1) := by decide +kernel
theorem dX12_pushOf_95 : decode cX12_pushOf 95 = .ok (.ineg, 1) := by decide +kernel
theorem dX12_pushOf_96 : decode cX12_pushOf 96 = .ok (.goto 4, 3) := by decide +kernel
theorem dX12_pushOf_99 : decode cX12_pushOf 99 = .ok (.iconst 0, 1) := by decide +kernel
theorem dX12_pushOf_100 : decode cX12_pushOf 100 = .ok (.istore 7, 2) := by decide +kernel
theorem dX12_pushOf_102 : decode cX12_pushOf 102 = .ok (.aload_n 0, 1) := by decide +kernel
theorem dX12_pushOf_103 : decode cX12_pushOf 103 = .ok (.aload_n 1, 1) := by decide +kernel
theorem dX12_pushOf_104 : decode cX12_pushOf 104 = .ok (.invokevirtual 341, 3) := by decide +kernel
theorem dX12_pushOf_107 : decode cX12_pushOf 107 = .ok (.ifCond .eq 11, 3) := by decide +kernel
theorem dX12_pushOf_110 : decode cX12_pushOf 110 = .ok (.iload 4, 2) := by decide +kernel
theorem dX12_pushOf_112 : decode cX12_pushOf 112 = .ok (.ifCond .le 14, 3) := by decide +kernel
theorem dX12_pushOf_115 : decode cX12_pushOf 115 = .ok (.goto 8, 3) := by decide +kernel
theorem dX12_pushOf_118 : decode cX12_pushOf 118 = .ok (.iload 4, 2) := by decide +kernel
theorem dX12_pushOf_120 : decode cX12_pushOf 120 = .ok (.ifCond .ge 6, 3) := by decide +kernel
theorem dX12_pushOf_123 : decode cX12_pushOf 123 = .ok (.iinc 7 1, 3) := by decide +kernel
theorem dX12_pushOf_126 : decode cX12_pushOf 126 = .ok (.iload 7, 2) := by decide +kernel
theorem dX12_pushOf_128 : decode cX12_pushOf 128 = .ok (.ireturn, 1) := by decide +kernel
theorem dX12_drawBy_0 : decode cX12_drawBy 0 = .ok (.iload_n 1, 1) := by decide +kernel
theorem dX12_drawBy_1 : decode cX12_drawBy 1 = .ok (.iload_n 2, 1) := by decide +kernel
theorem dX12_drawBy_2 : decode cX12_drawBy 2 = .ok (.iadd, 1) := by decide +kernel
theorem dX12_drawBy_3 : decode cX12_drawBy 3 = .ok (.iload_n 3, 1) := by decide +kernel
theorem dX12_drawBy_4 : decode cX12_drawBy 4 = .ok (.iadd, 1) := by decide +kernel
theorem dX12_drawBy_5 : decode cX12_drawBy 5 = .ok (.iload 5, 2) := by decide +kernel
theorem dX12_drawBy_7 : decode cX12_drawBy 7 = .ok (.iadd, 1) := by decide +kernel
theorem dX12_drawBy_8 : decode cX12_drawBy 8 = .ok (.iload 4, 2) := by decide +kernel
theorem dX12_drawBy_10 : decode cX12_drawBy 10 = .ok (.isub, 1) := by decide +kernel
theorem dX12_drawBy_11 : decode cX12_drawBy 11 = .ok (.istore 7, 2) := by decide +kernel
theorem dX12_drawBy_13 : decode cX12_drawBy 13 = .ok (.aload_n 0, 1) := by decide +kernel
theorem dX12_drawBy_14 : decode cX12_drawBy 14 = .ok (.getfield 67, 3) := by decide +kernel
theorem dX12_drawBy_17 : decode cX12_drawBy 17 = .ok (.iconst (-1), 1) := by decide +kernel
theorem dX12_drawBy_18 : decode cX12_drawBy 18 = .ok (.if_icmp .eq 60, 3) := by decide +kernel
theorem dX12_drawBy_21 : decode cX12_drawBy 21 = .ok (.aload_n 0, 1) := by decide +kernel
theorem dX12_drawBy_22 : decode cX12_drawBy 22 = .ok (.getfield 20, 3) := by decide +kernel
theorem dX12_drawBy_25 : decode cX12_drawBy 25 = .ok (.bipush 118, 2) := by decide +kernel
theorem dX12_drawBy_27 : decode cX12_drawBy 27 = .ok (.iload_n 1, 1) := by decide +kernel
theorem dX12_drawBy_28 : decode cX12_drawBy 28 = .ok (.iastore, 1) := by decide +kernel
theorem dX12_drawBy_29 : decode cX12_drawBy 29 = .ok (.aload_n 0, 1) := by decide +kernel
theorem dX12_drawBy_30 : decode cX12_drawBy 30 = .ok (.getfield 20, 3) := by decide +kernel
theorem dX12_drawBy_33 : decode cX12_drawBy 33 = .ok (.bipush 108, 2) := by decide +kernel
theorem dX12_drawBy_35 : decode cX12_drawBy 35 = .ok (.iload_n 2, 1) := by decide +kernel
theorem dX12_drawBy_36 : decode cX12_drawBy 36 = .ok (.iastore, 1) := by decide +kernel
theorem dX12_drawBy_37 : decode cX12_drawBy 37 = .ok (.aload_n 0, 1) := by decide +kernel
theorem dX12_drawBy_38 : decode cX12_drawBy 38 = .ok (.getfield 20, 3) := by decide +kernel
theorem dX12_drawBy_41 : decode cX12_drawBy 41 = .ok (.bipush 114, 2) := by decide +kernel
theorem dX12_drawBy_43 : decode cX12_drawBy 43 = .ok (.iload_n 3, 1) := by decide +kernel
theorem dX12_drawBy_44 : decode cX12_drawBy 44 = .ok (.iastore, 1) := by decide +kernel
theorem dX12_drawBy_45 : decode cX12_drawBy 45 = .ok (.aload_n 0, 1) := by decide +kernel
theorem dX12_drawBy_46 : decode cX12_drawBy 46 = .ok (.getfield 20, 3) := by decide +kernel
theorem dX12_drawBy_49 : decode cX12_drawBy 49 = .ok (.bipush 100, 2) := by decide +kernel
theorem dX12_drawBy_51 : decode cX12_drawBy 51 = .ok (.iload 4, 2) := by decide +kernel
theorem dX12_drawBy_53 : decode cX12_drawBy 53 = .ok (.iastore, 1) := by decide +kernel
theorem dX12_drawBy_54 : decode cX12_drawBy 54 = .ok (.aload_n 0, 1) := by decide +kernel
theorem dX12_drawBy_55 : decode cX12_drawBy 55 = .ok (.getfield 20, 3) := by decide +kernel
theorem dX12_drawBy_58 : decode cX12_drawBy 58 = .ok (.bipush 112, 2) := by decide +kernel
theorem dX12_drawBy_60 : decode cX12_drawBy 60 = .ok (.iload 5, 2) := by decide +kernel
theorem dX12_drawBy_62 : decode cX12_drawBy 62 = .ok (.iastore, 1) := by decide +kernel
theorem dX12_drawBy_63 : decode cX12_drawBy 63 = .ok (.aload_n 0, 1) := by decide +kernel
theorem dX12_drawBy_64 : decode cX12_drawBy 64 = .ok (.getfield 20, 3) := by decide +kernel
theorem dX12_drawBy_67 : decode cX12_drawBy 67 = .ok (.bipush 104, 2) := by decide +kernel
theorem dX12_drawBy_69 : decode cX12_drawBy 69 = .ok (.iload 6, 2) := by decide +kernel
theorem dX12_drawBy_71 : decode cX12_drawBy 71 = .ok (.iastore, 1) := by decide +kernel
theorem dX12_drawBy_72 : decode cX12_drawBy 72 = .ok (.aload_n 0, 1) := by decide +kernel
theorem dX12_drawBy_73 : decode cX12_drawBy 73 = .ok (.invokevirtual 345, 3) := by decide +kernel
theorem dX12_drawBy_76 : decode cX12_drawBy 76 = .ok (.istore 7, 2) := by decide +kernel
theorem dX12_drawBy_78 : decode cX12_drawBy 78 = .ok (.bipush (-99), 2) := by decide +kernel
theorem dX12_drawBy_80 : decode cX12_drawBy 80 = .ok (.bipush 99, 2) := by decide +kernel
theorem dX12_drawBy_82 : decode cX12_drawBy 82 = .ok (.iload 7, 2) := by decide +kernel
theorem dX12_drawBy_84 : decode cX12_drawBy 84 = .ok (.invokestatic 348, 3) := by decide +kernel
theorem dX12_drawBy_87 : decode cX12_drawBy 87 = .ok (.invokestatic 350, 3) := by decide +kernel
theorem dX12_drawBy_90 : decode cX12_drawBy 90 = .ok (.ireturn, 1) := by decide +kernel
theorem dX12_worthNow_0 : decode cX12_worthNow 0 = .ok (.aload_n 0, 1) := by decide +kernel
theorem dX12_worthNow_1 : decode cX12_worthNow 1 = .ok (.getfield 20, 3) := by decide +kernel
theorem dX12_worthNow_4 : decode cX12_worthNow 4 = .ok (.bipush 104, 2) := by decide +kernel
theorem dX12_worthNow_6 : decode cX12_worthNow 6 = .ok (.iaload, 1) := by decide +kernel
theorem dX12_worthNow_7 : decode cX12_worthNow 7 = .ok (.i2l, 1) := by decide +kernel
theorem dX12_worthNow_8 : decode cX12_worthNow 8 = .ok (.lstore_n 1, 1) := by decide +kernel
theorem dX12_worthNow_9 : decode cX12_worthNow 9 = .ok (.ldc2_w 352, 3) := by decide +kernel
theorem dX12_worthNow_12 : decode cX12_worthNow 12 = .ok (.lload_n 1, 1) := by decide +kernel
theorem dX12_worthNow_13 : decode cX12_worthNow 13 = .ok (.lmul, 1) := by decide +kernel
theorem dX12_worthNow_14 : decode cX12_worthNow 14 = .ok (.aload_n 0, 1) := by decide +kernel
theorem dX12_worthNow_15 : decode cX12_worthNow 15 = .ok (.getfield 20, 3) := by decide +kernel
theorem dX12_worthNow_18 : decode cX12_worthNow 18 = .ok (.bipush 118, 2) := by decide +kernel
theorem dX12_worthNow_20 : decode cX12_worthNow 20 = .ok (.iaload, 1) := by decide +kernel
theorem dX12_worthNow_21 : decode cX12_worthNow 21 = .ok (.i2l, 1) := by decide +kernel
theorem dX12_worthNow_22 : decode cX12_worthNow 22 = .ok (.ladd, 1) := by decide +kernel
theorem dX12_worthNow_23 : decode cX12_worthNow 23 = .ok (.lstore_n 1, 1) := by decide +kernel
theorem dX12_worthNow_24 : decode cX12_worthNow 24 = .ok (.ldc2_w 352, 3) := by decide +kernel
theorem dX12_worthNow_27 : decode cX12_worthNow 27 = .ok (.lload_n 1, 1) := by decide +kernel
theorem dX12_worthNow_28 : decode cX12_worthNow 28 = .ok (.lmul, 1) := by decide +kernel
theorem dX12_worthNow_29 : decode cX12_worthNow 29 = .ok (.aload_n 0, 1) := by decide +kernel
theorem dX12_worthNow_30 : decode cX12_worthNow 30 = .ok (.getfield 20, 3) := by decide +kernel
theorem dX12_worthNow_33 : decode cX12_worthNow 33 = .ok (.bipush 108, 2) := by decide +kernel
theorem dX12_worthNow_35 : decode cX12_worthNow 35 = .ok (.iaload, 1) := by decide +kernel
theorem dX12_worthNow_36 : decode cX12_worthNow 36 = .ok (.i2l, 1) := by decide +kernel
theorem dX12_worthNow_37 : decode cX12_worthNow 37 = .ok (.ladd, 1) := by decide +kernel
theorem dX12_worthNow_38 : decode cX12_worthNow 38 = .ok (.lstore_n 1, 1) := by decide +kernel
theorem dX12_worthNow_39 : decode cX12_worthNow 39 = .ok (.ldc2_w 352, 3) := by decide +kernel
theorem dX12_worthNow_42 : decode cX12_worthNow 42 = .ok (.lload_n 1, 1) := by decide +kernel
theorem dX12_worthNow_43 : decode cX12_worthNow 43 = .ok (.lmul, 1) := by decide +kernel
theorem dX12_worthNow_44 : decode cX12_worthNow 44 = .ok (.aload_n 0, 1) := by decide +kernel
theorem dX12_worthNow_45 : decode cX12_worthNow 45 = .ok (.getfield 20, 3) := by decide +kernel
theorem dX12_worthNow_48 : decode cX12_worthNow 48 = .ok (.bipush 114, 2) := by decide +kernel
theorem dX12_worthNow_50 : decode cX12_worthNow 50 = .ok (.iaload, 1) := by decide +kernel
theorem dX12_worthNow_51 : decode cX12_worthNow 51 = .ok (.i2l, 1) := by decide +kernel
theorem dX12_worthNow_52 : decode cX12_worthNow 52 = .ok (.ladd, 1) := by decide +kernel
theorem dX12_worthNow_53 : decode cX12_worthNow 53 = .ok (.lstore_n 1, 1) := by decide +kernel
theorem dX12_worthNow_54 : decode cX12_worthNow 54 = .ok (.ldc2_w 354, 3) := by decide +kernel
theorem dX12_worthNow_57 : decode cX12_worthNow 57 = .ok (.lload_n 1, 1) := by decide +kernel
theorem dX12_worthNow_58 : decode cX12_worthNow 58 = .ok (.lmul, 1) := by decide +kernel
theorem dX12_worthNow_59 : decode cX12_worthNow 59 = .ok (.aload_n 0, 1) := by decide +kernel
theorem dX12_worthNow_60 : decode cX12_worthNow 60 = .ok (.getfield 20, 3) := by decide +kernel
theorem dX12_worthNow_63 : decode cX12_worthNow 63 = .ok (.bipush 100, 2) := by decide +kernel
theorem dX12_worthNow_65 : decode cX12_worthNow 65 = .ok (.iaload, 1) := by decide +kernel
theorem dX12_worthNow_66 : decode cX12_worthNow 66 = .ok (.i2l, 1) := by decide +kernel
theorem dX12_worthNow_67 : decode cX12_worthNow 67 = .ok (.ladd, 1) := by decide +kernel
theorem dX12_worthNow_68 : decode cX12_worthNow 68 = .ok (.lstore_n 1, 1) := by decide +kernel
theorem dX12_worthNow_69 : decode cX12_worthNow 69 = .ok (.ldc2_w 356, 3) := by decide +kernel
theorem dX12_worthNow_72 : decode cX12_worthNow 72 = .ok (.lload_n 1, 1) := by decide +kernel
theorem dX12_worthNow_73 : decode cX12_worthNow 73 = .ok (.lmul, 1) := by decide +kernel
theorem dX12_worthNow_74 : decode cX12_worthNow 74 = .ok (.aload_n 0, 1) := by decide +kernel
theorem dX12_worthNow_75 : decode cX12_worthNow 75 = .ok (.getfield 20, 3) := by decide +kernel
theorem dX12_worthNow_78 : decode cX12_worthNow 78 = .ok (.bipush 112, 2) := by decide +kernel
theorem dX12_worthNow_80 : decode cX12_worthNow 80 = .ok (.iaload, 1) := by decide +kernel
theorem dX12_worthNow_81 : decode cX12_worthNow 81 = .ok (.i2l, 1) := by decide +kernel
theorem dX12_worthNow_82 : decode cX12_worthNow 82 = .ok (.ladd, 1) := by decide +kernel
theorem dX12_worthNow_83 : decode cX12_worthNow 83 = .ok (.ldc2_w 358, 3) := by decide +kernel
theorem dX12_worthNow_86 : decode cX12_worthNow 86 = .ok (.ladd, 1) := by decide +kernel
theorem dX12_worthNow_87 : decode cX12_worthNow 87 = .ok (.lstore_n 1, 1) := by decide +kernel
theorem dX12_worthNow_88 : decode cX12_worthNow 88 = .ok (.ldc2_w 360, 3) := by decide +kernel
theorem dX12_worthNow_91 : decode cX12_worthNow 91 = .ok (.lload_n 1, 1) := by decide +kernel
theorem dX12_worthNow_92 : decode cX12_worthNow 92 = .ok (.lmul, 1) := by decide +kernel
theorem dX12_worthNow_93 : decode cX12_worthNow 93 = .ok (.aload_n 0, 1) := by decide +kernel
theorem dX12_worthNow_94 : decode cX12_worthNow 94 = .ok (.getfield 67, 3) := by decide +kernel
theorem dX12_worthNow_97 : decode cX12_worthNow 97 = .ok (.i2l, 1) := by decide +kernel
theorem dX12_worthNow_98 : decode cX12_worthNow 98 = .ok (.ladd, 1) := by decide +kernel
theorem dX12_worthNow_99 : decode cX12_worthNow 99 = .ok (.lconst 1, 1) := by decide +kernel
theorem dX12_worthNow_100 : decode cX12_worthNow 100 = .ok (.ladd, 1) := by decide +kernel
theorem dX12_worthNow_101 : decode cX12_worthNow 101 = .ok (.lstore_n 1, 1) := by decide +kernel
theorem dX12_worthNow_102 : decode cX12_worthNow 102 = .ok (.lload_n 1, 1) := by decide +kernel
theorem dX12_worthNow_103 : decode cX12_worthNow 103 = .ok (.ldc2_w 362, 3) := by decide +kernel
theorem dX12_worthNow_106 : decode cX12_worthNow 106 = .ok (.lrem, 1) := by decide +kernel
theorem dX12_worthNow_107 : decode cX12_worthNow 107 = .ok (.l2i, 1) := by decide +kernel
theorem dX12_worthNow_108 : decode cX12_worthNow 108 = .ok (.istore_n 3, 1) := by decide +kernel
theorem dX12_worthNow_109 : decode cX12_worthNow 109 = .ok (.aload_n 0, 1) := by decide +kernel
theorem dX12_worthNow_110 : decode cX12_worthNow 110 = .ok (.getfield 71, 3) := by decide +kernel
theorem dX12_worthNow_113 : decode cX12_worthNow 113 = .ok (.iload_n 3, 1) := by decide +kernel
theorem dX12_worthNow_114 : decode cX12_worthNow 114 = .ok (.laload, 1) := by decide +kernel
theorem dX12_worthNow_115 : decode cX12_worthNow 115 = .ok (.lload_n 1, 1) := by decide +kernel
theorem dX12_worthNow_116 : decode cX12_worthNow 116 = .ok (.lcmp, 1) := by decide +kernel
theorem dX12_worthNow_117 : decode cX12_worthNow 117 = .ok (.ifCond .ne 10, 3) := by decide +kernel
theorem dX12_worthNow_120 : decode cX12_worthNow 120 = .ok (.aload_n 0, 1) := by decide +kernel
theorem dX12_worthNow_121 : decode cX12_worthNow 121 = .ok (.getfield 75, 3) := by decide +kernel
theorem dX12_worthNow_124 : decode cX12_worthNow 124 = .ok (.iload_n 3, 1) := by decide +kernel
theorem dX12_worthNow_125 : decode cX12_worthNow 125 = .ok (.iaload, 1) := by decide +kernel
theorem dX12_worthNow_126 : decode cX12_worthNow 126 = .ok (.ireturn, 1) := by decide +kernel
theorem dX12_worthNow_127 : decode cX12_worthNow 127 = .ok (.aload_n 0, 1) := by decide +kernel
theorem dX12_worthNow_128 : decode cX12_worthNow 128 = .ok (.aload_n 0, 1) := by decide +kernel
theorem dX12_worthNow_129 : decode cX12_worthNow 129 = .ok (.getfield 13, 3) := by decide +kernel
theorem dX12_worthNow_132 : decode cX12_worthNow 132 = .ok (.sipush 240, 3) := by decide +kernel
theorem dX12_worthNow_135 : decode cX12_worthNow 135 = .ok (.aload_n 0, 1) := by decide +kernel
theorem dX12_worthNow_136 : decode cX12_worthNow 136 = .ok (.getfield 67, 3) := by decide +kernel
theorem dX12_worthNow_139 : decode cX12_worthNow 139 = .ok (.imul, 1) := by decide +kernel
theorem dX12_worthNow_140 : decode cX12_worthNow 140 = .ok (.aload_n 0, 1) := by decide +kernel
theorem dX12_worthNow_141 : decode cX12_worthNow 141 = .ok (.getfield 16, 3) := by decide +kernel
theorem dX12_worthNow_144 : decode cX12_worthNow 144 = .ok (.aload_n 0, 1) := by decide +kernel
theorem dX12_worthNow_145 : decode cX12_worthNow 145 = .ok (.getfield 67, 3) := by decide +kernel
theorem dX12_worthNow_148 : decode cX12_worthNow 148 = .ok (.iaload, 1) := by decide +kernel
theorem dX12_worthNow_149 : decode cX12_worthNow 149 = .ok (.invokevirtual 295, 3) := by decide +kernel
theorem dX12_worthNow_152 : decode cX12_worthNow 152 = .ok (.aload_n 0, 1) := by decide +kernel
theorem dX12_worthNow_153 : decode cX12_worthNow 153 = .ok (.getfield 71, 3) := by decide +kernel
theorem dX12_worthNow_156 : decode cX12_worthNow 156 = .ok (.iload_n 3, 1) := by decide +kernel
theorem dX12_worthNow_157 : decode cX12_worthNow 157 = .ok (.lload_n 1, 1) := by decide +kernel
theorem dX12_worthNow_158 : decode cX12_worthNow 158 = .ok (.lastore, 1) := by decide +kernel
theorem dX12_worthNow_159 : decode cX12_worthNow 159 = .ok (.aload_n 0, 1) := by decide +kernel
theorem dX12_worthNow_160 : decode cX12_worthNow 160 = .ok (.getfield 75, 3) := by decide +kernel
theorem dX12_worthNow_163 : decode cX12_worthNow 163 = .ok (.iload_n 3, 1) := by decide +kernel
theorem dX12_worthNow_164 : decode cX12_worthNow 164 = .ok (.aload_n 0, 1) := by decide +kernel
theorem dX12_worthNow_165 : decode cX12_worthNow 165 = .ok (.getfield 219, 3) := by decide +kernel
theorem dX12_worthNow_168 : decode cX12_worthNow 168 = .ok (.iastore, 1) := by decide +kernel
theorem dX12_worthNow_169 : decode cX12_worthNow 169 = .ok (.aload_n 0, 1) := by decide +kernel
theorem dX12_worthNow_170 : decode cX12_worthNow 170 = .ok (.getfield 219, 3) := by decide +kernel
theorem dX12_worthNow_173 : decode cX12_worthNow 173 = .ok (.ireturn, 1) := by decide +kernel
theorem dX12_barnaclesFor_0 : decode cX12_barnaclesFor 0 = .ok (.aload_n 1, 1) := by decide +kernel
theorem dX12_barnaclesFor_1 : decode cX12_barnaclesFor 1 = .ok (.iconst 5, 1) := by decide +kernel
theorem dX12_barnaclesFor_2 : decode cX12_barnaclesFor 2 = .ok (.iload_n 2, 1) := by decide +kernel
theorem dX12_barnaclesFor_3 : decode cX12_barnaclesFor 3 = .ok (.imul, 1) := by decide +kernel
theorem dX12_barnaclesFor_4 : decode cX12_barnaclesFor 4 = .ok (.iconst 3, 1) := by decide +kernel
theorem dX12_barnaclesFor_5 : decode cX12_barnaclesFor 5 = .ok (.iadd, 1) := by decide +kernel
theorem dX12_barnaclesFor_6 : decode cX12_barnaclesFor 6 = .ok (.iaload, 1) := by decide +kernel
theorem dX12_barnaclesFor_7 : decode cX12_barnaclesFor 7 = .ok (.iload_n 3, 1) := by decide +kernel
theorem dX12_barnaclesFor_8 : decode cX12_barnaclesFor 8 = .ok (.if_icmp .ne 13, 3) := by decide +kernel
theorem dX12_barnaclesFor_11 : decode cX12_barnaclesFor 11 = .ok (.aload_n 1, 1) := by decide +kernel
theorem dX12_barnaclesFor_12 : decode cX12_barnaclesFor 12 = .ok (.iconst 5, 1) := by decide +kernel
theorem dX12_barnaclesFor_13 : decode cX12_barnaclesFor 13 = .ok (.iload_n 2, 1) := by decide +kernel
theorem dX12_barnaclesFor_14 : decode cX12_barnaclesFor 14 = .ok (.imul, 1) := by decide +kernel
theorem dX12_barnaclesFor_15 : decode cX12_barnaclesFor 15 = .ok (.iconst 4, 1) := by decide +kernel
theorem dX12_barnaclesFor_16 : decode cX12_barnaclesFor 16 = .ok (.iadd, 1) := by decide +kernel
theorem dX12_barnaclesFor_17 : decode cX12_barnaclesFor 17 = .ok (.iaload, 1) := by decide +kernel
theorem dX12_barnaclesFor_18 : decode cX12_barnaclesFor 18 = .ok (.goto 4, 3) := by decide +kernel
theorem dX12_barnaclesFor_21 : decode cX12_barnaclesFor 21 = .ok (.iconst 0, 1) := by decide +kernel
theorem dX12_barnaclesFor_22 : decode cX12_barnaclesFor 22 = .ok (.ireturn, 1) := by decide +kernel
theorem dX12_drawOf_0 : decode cX12_drawOf 0 = .ok (.aload_n 0, 1) := by decide +kernel
theorem dX12_drawOf_1 : decode cX12_drawOf 1 = .ok (.aload_n 0, 1) := by decide +kernel
theorem dX12_drawOf_2 : decode cX12_drawOf 2 = .ok (.iload_n 3, 1) := by decide +kernel
theorem dX12_drawOf_3 : decode cX12_drawOf 3 = .ok (.iconst 3, 1) := by decide +kernel
theorem dX12_drawOf_4 : decode cX12_drawOf 4 = .ok (.invokevirtual 364, 3) := by decide +kernel
theorem dX12_drawOf_7 : decode cX12_drawOf 7 = .ok (.aload_n 1, 1) := by decide +kernel
theorem dX12_drawOf_8 : decode cX12_drawOf 8 = .ok (.iconst 5, 1) := by decide +kernel
theorem dX12_drawOf_9 : decode cX12_drawOf 9 = .ok (.iload_n 2, 1) := by decide +kernel
theorem dX12_drawOf_10 : decode cX12_drawOf 10 = .ok (.imul, 1) := by decide +kernel
theorem dX12_drawOf_11 : decode cX12_drawOf 11 = .ok (.iload_n 3, 1) := by decide +kernel
theorem dX12_drawOf_12 : decode cX12_drawOf 12 = .ok (.iadd, 1) := by decide +kernel
theorem dX12_drawOf_13 : decode cX12_drawOf 13 = .ok (.iaload, 1) := by decide +kernel
theorem dX12_drawOf_14 : decode cX12_drawOf 14 = .ok (.aload_n 0, 1) := by decide +kernel
theorem dX12_drawOf_15 : decode cX12_drawOf 15 = .ok (.aload_n 1, 1) := by decide +kernel
theorem dX12_drawOf_16 : decode cX12_drawOf 16 = .ok (.iload_n 2, 1) := by decide +kernel
theorem dX12_drawOf_17 : decode cX12_drawOf 17 = .ok (.iload_n 3, 1) := by decide +kernel
theorem dX12_drawOf_18 : decode cX12_drawOf 18 = .ok (.invokevirtual 367, 3) := by decide +kernel
theorem dX12_drawOf_21 : decode cX12_drawOf 21 = .ok (.aload_n 0, 1) := by decide +kernel
theorem dX12_drawOf_22 : decode cX12_drawOf 22 = .ok (.aload_n 1, 1) := by decide +kernel
theorem dX12_drawOf_23 : decode cX12_drawOf 23 = .ok (.iload_n 3, 1) := by decide +kernel
theorem dX12_drawOf_24 : decode cX12_drawOf 24 = .ok (.iload_n 2, 1) := by decide +kernel
theorem dX12_drawOf_25 : decode cX12_drawOf 25 = .ok (.invokevirtual 370, 3) := by decide +kernel
theorem dX12_drawOf_28 : decode cX12_drawOf 28 = .ok (.aload_n 0, 1) := by decide +kernel
theorem dX12_drawOf_29 : decode cX12_drawOf 29 = .ok (.aload_n 1, 1) := by decide +kernel
theorem dX12_drawOf_30 : decode cX12_drawOf 30 = .ok (.iload_n 2, 1) := by decide +kernel
theorem dX12_drawOf_31 : decode cX12_drawOf 31 = .ok (.iload_n 3, 1) := by decide +kernel
theorem dX12_drawOf_32 : decode cX12_drawOf 32 = .ok (.invokevirtual 373, 3) := by decide +kernel
theorem dX12_drawOf_35 : decode cX12_drawOf 35 = .ok (.aload_n 1, 1) := by decide +kernel
theorem dX12_drawOf_36 : decode cX12_drawOf 36 = .ok (.bipush 60, 2) := by decide +kernel
theorem dX12_drawOf_38 : decode cX12_drawOf 38 = .ok (.iaload, 1) := by decide +kernel
theorem dX12_drawOf_39 : decode cX12_drawOf 39 = .ok (.invokevirtual 376, 3) := by decide +kernel
theorem dX12_drawOf_42 : decode cX12_drawOf 42 = .ok (.ireturn, 1) := by decide +kernel
theorem dX12_leanBy_0 : decode cX12_leanBy 0 = .ok (.iconst 0, 1) := by decide +kernel
theorem dX12_leanBy_1 : decode cX12_leanBy 1 = .ok (.istore_n 3, 1) := by decide +kernel
theorem dX12_leanBy_2 : decode cX12_leanBy 2 = .ok (.iconst 1, 1) := by decide +kernel
theorem dX12_leanBy_3 : decode cX12_leanBy 3 = .ok (.istore 4, 2) := by decide +kernel
theorem dX12_leanBy_5 : decode cX12_leanBy 5 = .ok (.iconst 1, 1) := by decide +kernel
theorem dX12_leanBy_6 : decode cX12_leanBy 6 = .ok (.istore 5, 2) := by decide +kernel
theorem dX12_leanBy_8 : decode cX12_leanBy 8 = .ok (.iload 5, 2) := by decide +kernel
theorem dX12_leanBy_10 : decode cX12_leanBy 10 = .ok (.iload_n 2, 1) := by decide +kernel
theorem dX12_leanBy_11 : decode cX12_leanBy 11 = .ok (.if_icmp .ge 53, 3) := by decide +kernel
theorem dX12_leanBy_14 : decode cX12_leanBy 14 = .ok (.aload_n 0, 1) := by decide +kernel
theorem dX12_leanBy_15 : decode cX12_leanBy 15 = .ok (.getfield 78, 3) := by decide +kernel
theorem dX12_leanBy_18 : decode cX12_leanBy 18 = .ok (.iload 5, 2) := by decide +kernel
theorem dX12_leanBy_20 : decode cX12_leanBy 20 = .ok (.iaload, 1) := by decide +kernel
theorem dX12_leanBy_21 : decode cX12_leanBy 21 = .ok (.aload_n 0, 1) := by decide +kernel
theorem dX12_leanBy_22 : decode cX12_leanBy 22 = .ok (.getfield 78, 3) := by decide +kernel
theorem dX12_leanBy_25 : decode cX12_leanBy 25 = .ok (.iload_n 3, 1) := by decide +kernel
theorem dX12_leanBy_26 : decode cX12_leanBy 26 = .ok (.iaload, 1) := by decide +kernel
theorem dX12_leanBy_27 : decode cX12_leanBy 27 = .ok (.if_icmp .ne 6, 3) := by decide +kernel
theorem dX12_leanBy_30 : decode cX12_leanBy 30 = .ok (.iconst 0, 1) := by decide +kernel
theorem dX12_leanBy_31 : decode cX12_leanBy 31 = .ok (.istore 4, 2) := by decide +kernel
theorem dX12_leanBy_33 : decode cX12_leanBy 33 = .ok (.aload_n 0, 1) := by decide +kernel
theorem dX12_leanBy_34 : decode cX12_leanBy 34 = .ok (.getfield 78, 3) := by decide +kernel
theorem dX12_leanBy_37 : decode cX12_leanBy 37 = .ok (.iload 5, 2) := by decide +kernel
theorem dX12_leanBy_39 : decode cX12_leanBy 39 = .ok (.iaload, 1) := by decide +kernel
theorem dX12_leanBy_40 : decode cX12_leanBy 40 = .ok (.aload_n 0, 1) := by decide +kernel
theorem dX12_leanBy_41 : decode cX12_leanBy 41 = .ok (.getfield 78, 3) := by decide +kernel
theorem dX12_leanBy_44 : decode cX12_leanBy 44 = .ok (.iload_n 3, 1) := by decide +kernel
theorem dX12_leanBy_45 : decode cX12_leanBy 45 = .ok (.iaload, 1) := by decide +kernel
theorem dX12_leanBy_46 : decode cX12_leanBy 46 = .ok (.if_icmp .gt 6, 3) := by decide +kernel
theorem dX12_leanBy_49 : decode cX12_leanBy 49 = .ok (.goto 9, 3) := by decide +kernel
theorem dX12_leanBy_52 : decode cX12_leanBy 52 = .ok (.iload 5, 2) := by decide +kernel
theorem dX12_leanBy_54 : decode cX12_leanBy 54 = .ok (.istore_n 3, 1) := by decide +kernel
theorem dX12_leanBy_55 : decode cX12_leanBy 55 = .ok (.iconst 1, 1) := by decide +kernel
theorem dX12_leanBy_56 : decode cX12_leanBy 56 = .ok (.istore 4, 2) := by decide +kernel
theorem dX12_leanBy_58 : decode cX12_leanBy 58 = .ok (.iinc 5 1, 3) := by decide +kernel
theorem dX12_leanBy_61 : decode cX12_leanBy 61 = .ok (.goto (-53), 3) := by decide +kernel
theorem dX12_leanBy_64 : decode cX12_leanBy 64 = .ok (.iload 4, 2) := by decide +kernel
theorem dX12_leanBy_66 : decode cX12_leanBy 66 = .ok (.ifCond .eq 17, 3) := by decide +kernel
theorem dX12_leanBy_69 : decode cX12_leanBy 69 = .ok (.aload_n 0, 1) := by decide +kernel
theorem dX12_leanBy_70 : decode cX12_leanBy 70 = .ok (.getfield 78, 3) := by decide +kernel
theorem dX12_leanBy_73 : decode cX12_leanBy 73 = .ok (.iload_n 3, 1) := by decide +kernel
theorem dX12_leanBy_74 : decode cX12_leanBy 74 = .ok (.iaload, 1) := by decide +kernel
theorem dX12_leanBy_75 : decode cX12_leanBy 75 = .ok (.iload_n 1, 1) := by decide +kernel
theorem dX12_leanBy_76 : decode cX12_leanBy 76 = .ok (.if_icmp .lt 7, 3) := by decide +kernel
theorem dX12_leanBy_79 : decode cX12_leanBy 79 = .ok (.iload_n 3, 1) := by decide +kernel
theorem dX12_leanBy_80 : decode cX12_leanBy 80 = .ok (.goto 4, 3) := by decide +kernel
theorem dX12_leanBy_83 : decode cX12_leanBy 83 = .ok (.iconst (-1), 1) := by decide +kernel
theorem dX12_leanBy_84 : decode cX12_leanBy 84 = .ok (.ireturn, 1) := by decide +kernel
theorem dX12_leanOf_0 : decode cX12_leanOf 0 = .ok (.iconst 0, 1) := by decide +kernel
theorem dX12_leanOf_1 : decode cX12_leanOf 1 = .ok (.istore_n 3, 1) := by decide +kernel
theorem dX12_leanOf_2 : decode cX12_leanOf 2 = .ok (.iload_n 3, 1) := by decide +kernel
theorem dX12_leanOf_3 : decode cX12_leanOf 3 = .ok (.aload_n 0, 1) := by decide +kernel
theorem dX12_leanOf_4 : decode cX12_leanOf 4 = .ok (.getfield 312, 3) := by decide +kernel
theorem dX12_leanOf_7 : decode cX12_leanOf 7 = .ok (.if_icmp .ge 22, 3) := by decide +kernel
theorem dX12_leanOf_10 : decode cX12_leanOf 10 = .ok (.aload_n 0, 1) := by decide +kernel
theorem dX12_leanOf_11 : decode cX12_leanOf 11 = .ok (.getfield 78, 3) := by decide +kernel
theorem dX12_leanOf_14 : decode cX12_leanOf 14 = .ok (.iload_n 3, 1) := by decide +kernel
theorem dX12_leanOf_15 : decode cX12_leanOf 15 = .ok (.aload_n 0, 1) := by decide +kernel
theorem dX12_leanOf_16 : decode cX12_leanOf 16 = .ok (.aload_n 1, 1) := by decide +kernel
theorem dX12_leanOf_17 : decode cX12_leanOf 17 = .ok (.iload_n 2, 1) := by decide +kernel
theorem dX12_leanOf_18 : decode cX12_leanOf 18 = .ok (.iload_n 3, 1) := by decide +kernel
theorem dX12_leanOf_19 : decode cX12_leanOf 19 = .ok (.invokevirtual 380, 3) := by decide +kernel
theorem dX12_leanOf_22 : decode cX12_leanOf 22 = .ok (.iastore, 1) := by decide +kernel
theorem dX12_leanOf_23 : decode cX12_leanOf 23 = .ok (.iinc 3 1, 3) := by decide +kernel
theorem dX12_leanOf_26 : decode cX12_leanOf 26 = .ok (.goto (-24), 3) := by decide +kernel
theorem dX12_leanOf_29 : decode cX12_leanOf 29 = .ok (.aload_n 0, 1) := by decide +kernel
theorem dX12_leanOf_30 : decode cX12_leanOf 30 = .ok (.aload_n 0, 1) := by decide +kernel
theorem dX12_leanOf_31 : decode cX12_leanOf 31 = .ok (.iload_n 2, 1) := by decide +kernel
theorem dX12_leanOf_32 : decode cX12_leanOf 32 = .ok (.iconst 2, 1) := by decide +kernel
theorem dX12_leanOf_33 : decode cX12_leanOf 33 = .ok (.invokevirtual 318, 3) := by decide +kernel
theorem dX12_leanOf_36 : decode cX12_leanOf 36 = .ok (.aload_n 0, 1) := by decide +kernel
theorem dX12_leanOf_37 : decode cX12_leanOf 37 = .ok (.getfield 312, 3) := by decide +kernel
theorem dX12_leanOf_40 : decode cX12_leanOf 40 = .ok (.invokevirtual 383, 3) := by decide +kernel
theorem dX12_leanOf_43 : decode cX12_leanOf 43 = .ok (.ireturn, 1) := by decide +kernel
theorem dX12_votesIn_0 : decode cX12_votesIn 0 = .ok (.iconst 0, 1) := by decide +kernel
theorem dX12_votesIn_1 : decode cX12_votesIn 1 = .ok (.istore_n 3, 1) := by decide +kernel
theorem dX12_votesIn_2 : decode cX12_votesIn 2 = .ok (.iconst 0, 1) := by decide +kernel
theorem dX12_votesIn_3 : decode cX12_votesIn 3 = .ok (.istore 4, 2) := by decide +kernel
theorem dX12_votesIn_5 : decode cX12_votesIn 5 = .ok (.iload 4, 2) := by decide +kernel
theorem dX12_votesIn_7 : decode cX12_votesIn 7 = .ok (.aload_n 0, 1) := by decide +kernel
theorem dX12_votesIn_8 : decode cX12_votesIn 8 = .ok (.getfield 309, 3) := by decide +kernel
theorem dX12_votesIn_11 : decode cX12_votesIn 11 = .ok (.if_icmp .ge 28, 3) := by decide +kernel
theorem dX12_votesIn_14 : decode cX12_votesIn 14 = .ok (.iload_n 3, 1) := by decide +kernel
theorem dX12_votesIn_15 : decode cX12_votesIn 15 = .ok (.aload_n 0, 1) := by decide +kernel
theorem dX12_votesIn_16 : decode cX12_votesIn 16 = .ok (.aload_n 1, 1) := by decide +kernel
theorem dX12_votesIn_17 : decode cX12_votesIn 17 = .ok (.iload 4, 2) := by decide +kernel
theorem dX12_votesIn_19 : decode cX12_votesIn 19 = .ok (.invokevirtual 386, 3) := by decide +kernel
theorem dX12_votesIn_22 : decode cX12_votesIn 22 = .ok (.iload_n 2, 1) := by decide +kernel
theorem dX12_votesIn_23 : decode cX12_votesIn 23 = .ok (.if_icmp .ne 7, 3) := by decide +kernel
theorem dX12_votesIn_26 : decode cX12_votesIn 26 = .ok (.iconst 1, 1) := by decide +kernel
theorem dX12_votesIn_27 : decode cX12_votesIn 27 = .ok (.goto 4, 3) := by decide +kernel
theorem dX12_votesIn_30 : decode cX12_votesIn 30 = .ok (.iconst 0, 1) := by decide +kernel
theorem dX12_votesIn_31 : decode cX12_votesIn 31 = .ok (.iadd, 1) := by decide +kernel
theorem dX12_votesIn_32 : decode cX12_votesIn 32 = .ok (.istore_n 3, 1) := by decide +kernel
theorem dX12_votesIn_33 : decode cX12_votesIn 33 = .ok (.iinc 4 1, 3) := by decide +kernel
theorem dX12_votesIn_36 : decode cX12_votesIn 36 = .ok (.goto (-31), 3) := by decide +kernel
theorem dX12_votesIn_39 : decode cX12_votesIn 39 = .ok (.iload_n 3, 1) := by decide +kernel
theorem dX12_votesIn_40 : decode cX12_votesIn 40 = .ok (.ireturn, 1) := by decide +kernel
theorem dX12_leaderIn_0 : decode cX12_leaderIn 0 = .ok (.iconst 0, 1) := by decide +kernel
theorem dX12_leaderIn_1 : decode cX12_leaderIn 1 = .ok (.istore_n 2, 1) := by decide +kernel
theorem dX12_leaderIn_2 : decode cX12_leaderIn 2 = .ok (.iload_n 2, 1) := by decide +kernel
theorem dX12_leaderIn_3 : decode cX12_leaderIn 3 = .ok (.iconst 3, 1) := by decide +kernel
theorem dX12_leaderIn_4 : decode cX12_leaderIn 4 = .ok (.if_icmp .ge 33, 3) := by decide +kernel
theorem dX12_leaderIn_7 : decode cX12_leaderIn 7 = .ok (.aload_n 0, 1) := by decide +kernel
theorem dX12_leaderIn_8 : decode cX12_leaderIn 8 = .ok (.getfield 81, 3) := by decide +kernel
theorem dX12_leaderIn_11 : decode cX12_leaderIn 11 = .ok (.iload_n 2, 1) := by decide +kernel
theorem dX12_leaderIn_12 : decode cX12_leaderIn 12 = .ok (.iload_n 2, 1) := by decide +kernel
theorem dX12_leaderIn_13 : decode cX12_leaderIn 13 = .ok (.aload_n 0, 1) := by decide +kernel
theorem dX12_leaderIn_14 : decode cX12_leaderIn 14 = .ok (.getfield 312, 3) := by decide +kernel
theorem dX12_leaderIn_17 : decode cX12_leaderIn 17 = .ok (.if_icmp .ge 12, 3) := by decide +kernel
theorem dX12_leaderIn_20 : decode cX12_leaderIn 20 = .ok (.aload_n 0, 1) := by decide +kernel
theorem dX12_leaderIn_21 : decode cX12_leaderIn 21 = .ok (.aload_n 1, 1) := by decide +kernel
theorem dX12_leaderIn_22 : decode cX12_leaderIn 22 = .ok (.iload_n 2, 1) := by decide +kernel
theorem dX12_leaderIn_23 : decode cX12_leaderIn 23 = .ok (.invokevirtual 390, 3) := by decide +kernel
theorem dX12_leaderIn_26 : decode cX12_leaderIn 26 = .ok (.goto 4, 3) := by decide +kernel
theorem dX12_leaderIn_29 : decode cX12_leaderIn 29 = .ok (.iconst 0, 1) := by decide +kernel
theorem dX12_leaderIn_30 : decode cX12_leaderIn 30 = .ok (.iastore, 1) := by decide +kernel
theorem dX12_leaderIn_31 : decode cX12_leaderIn 31 = .ok (.iinc 2 1, 3) := by decide +kernel
theorem dX12_leaderIn_34 : decode cX12_leaderIn 34 = .ok (.goto (-32), 3) := by decide +kernel
theorem dX12_leaderIn_37 : decode cX12_leaderIn 37 = .ok (.iconst 0, 1) := by decide +kernel
theorem dX12_leaderIn_38 : decode cX12_leaderIn 38 = .ok (.istore_n 2, 1) := by decide +kernel
theorem dX12_leaderIn_39 : decode cX12_leaderIn 39 = .ok (.iconst 1, 1) := by decide +kernel
theorem dX12_leaderIn_40 : decode cX12_leaderIn 40 = .ok (.istore_n 3, 1) := by decide +kernel
theorem dX12_leaderIn_41 : decode cX12_leaderIn 41 = .ok (.iload_n 3, 1) := by decide +kernel
theorem dX12_leaderIn_42 : decode cX12_leaderIn 42 = .ok (.aload_n 0, 1) := by decide +kernel
theorem dX12_leaderIn_43 : decode cX12_leaderIn 43 = .ok (.getfield 312, 3) := by decide +kernel
theorem dX12_leaderIn_46 : decode cX12_leaderIn 46 = .ok (.if_icmp .ge 30, 3) := by decide +kernel
theorem dX12_leaderIn_49 : decode cX12_leaderIn 49 = .ok (.aload_n 0, 1) := by decide +kernel
theorem dX12_leaderIn_50 : decode cX12_leaderIn 50 = .ok (.getfield 81, 3) := by decide +kernel
theorem dX12_leaderIn_53 : decode cX12_leaderIn 53 = .ok (.iload_n 3, 1) := by decide +kernel
theorem dX12_leaderIn_54 : decode cX12_leaderIn 54 = .ok (.iaload, 1) := by decide +kernel
theorem dX12_leaderIn_55 : decode cX12_leaderIn 55 = .ok (.aload_n 0, 1) := by decide +kernel
theorem dX12_leaderIn_56 : decode cX12_leaderIn 56 = .ok (.getfield 81, 3) := by decide +kernel
theorem dX12_leaderIn_59 : decode cX12_leaderIn 59 = .ok (.iload_n 2, 1) := by decide +kernel
theorem dX12_leaderIn_60 : decode cX12_leaderIn 60 = .ok (.iaload, 1) := by decide +kernel
theorem dX12_leaderIn_61 : decode cX12_leaderIn 61 = .ok (.if_icmp .le 7, 3) := by decide +kernel
theorem dX12_leaderIn_64 : decode cX12_leaderIn 64 = .ok (.iload_n 3, 1) := by decide +kernel
theorem dX12_leaderIn_65 : decode cX12_leaderIn 65 = .ok (.goto 4, 3) := by decide +kernel
theorem dX12_leaderIn_68 : decode cX12_leaderIn 68 = .ok (.iload_n 2, 1) := by decide +kernel
theorem dX12_leaderIn_69 : decode cX12_leaderIn 69 = .ok (.istore_n 2, 1) := by decide +kernel
theorem dX12_leaderIn_70 : decode cX12_leaderIn 70 = .ok (.iinc 3 1, 3) := by decide +kernel
theorem dX12_leaderIn_73 : decode cX12_leaderIn 73 = .ok (.goto (-32), 3) := by decide +kernel
theorem dX12_leaderIn_76 : decode cX12_leaderIn 76 = .ok (.iconst 0, 1) := by decide +kernel
theorem dX12_leaderIn_77 : decode cX12_leaderIn 77 = .ok (.istore_n 3, 1) := by decide +kernel
theorem dX12_leaderIn_78 : decode cX12_leaderIn 78 = .ok (.iload_n 3, 1) := by decide +kernel
theorem dX12_leaderIn_79 : decode cX12_leaderIn 79 = .ok (.aload_n 0, 1) := by decide +kernel
theorem dX12_leaderIn_80 : decode cX12_leaderIn 80 = .ok (.getfield 312, 3) := by decide +kernel
theorem dX12_leaderIn_83 : decode cX12_leaderIn 83 = .ok (.if_icmp .ge 31, 3) := by decide +kernel
theorem dX12_leaderIn_86 : decode cX12_leaderIn 86 = .ok (.iload_n 3, 1) := by decide +kernel
theorem dX12_leaderIn_87 : decode cX12_leaderIn 87 = .ok (.iload_n 2, 1) := by decide +kernel
theorem dX12_leaderIn_88 : decode cX12_leaderIn 88 = .ok (.if_icmp .eq 20, 3) := by decide +kernel
theorem dX12_leaderIn_91 : decode cX12_leaderIn 91 = .ok (.aload_n 0, 1) := by decide +kernel
theorem dX12_leaderIn_92 : decode cX12_leaderIn 92 = .ok (.getfield 81, 3) := by decide +kernel
theorem dX12_leaderIn_95 : decode cX12_leaderIn 95 = .ok (.iload_n 3, 1) := by decide +kernel
theorem dX12_leaderIn_96 : decode cX12_leaderIn 96 = .ok (.iaload, 1) := by decide +kernel
theorem dX12_leaderIn_97 : decode cX12_leaderIn 97 = .ok (.aload_n 0, 1) := by decide +kernel
theorem dX12_leaderIn_98 : decode cX12_leaderIn 98 = .ok (.getfield 81, 3) := by decide +kernel
theorem dX12_leaderIn_101 : decode cX12_leaderIn 101 = .ok (.iload_n 2, 1) := by decide +kernel
theorem dX12_leaderIn_102 : decode cX12_leaderIn 102 = .ok (.iaload, 1) := by decide +kernel
theorem dX12_leaderIn_103 : decode cX12_leaderIn 103 = .ok (.if_icmp .ne 5, 3) := by decide +kernel
theorem dX12_leaderIn_106 : decode cX12_leaderIn 106 = .ok (.iconst (-1), 1) := by decide +kernel
theorem dX12_leaderIn_107 : decode cX12_leaderIn 107 = .ok (.ireturn, 1) := by decide +kernel
theorem dX12_leaderIn_108 : decode cX12_leaderIn 108 = .ok (.iinc 3 1, 3) := by decide +kernel
theorem dX12_leaderIn_111 : decode cX12_leaderIn 111 = .ok (.goto (-33), 3) := by decide +kernel
theorem dX12_leaderIn_114 : decode cX12_leaderIn 114 = .ok (.aload_n 0, 1) := by decide +kernel
theorem dX12_leaderIn_115 : decode cX12_leaderIn 115 = .ok (.getfield 81, 3) := by decide +kernel
theorem dX12_leaderIn_118 : decode cX12_leaderIn 118 = .ok (.iload_n 2, 1) := by decide +kernel
theorem dX12_leaderIn_119 : decode cX12_leaderIn 119 = .ok (.iaload, 1) := by decide +kernel
theorem dX12_leaderIn_120 : decode cX12_leaderIn 120 = .ok (.ifCond .le 7, 3) := by decide +kernel
theorem dX12_leaderIn_123 : decode cX12_leaderIn 123 = .ok (.iload_n 2, 1) := by decide +kernel
theorem dX12_leaderIn_124 : decode cX12_leaderIn 124 = .ok (.goto 4, 3) := by decide +kernel
theorem dX12_leaderIn_127 : decode cX12_leaderIn 127 = .ok (.iconst (-1), 1) := by decide +kernel
theorem dX12_leaderIn_128 : decode cX12_leaderIn 128 = .ok (.ireturn, 1) := by decide +kernel
theorem dX12_towards_0 : decode cX12_towards 0 = .ok (.iload_n 2, 1) := by decide +kernel
theorem dX12_towards_1 : decode cX12_towards 1 = .ok (.ineg, 1) := by decide +kernel
theorem dX12_towards_2 : decode cX12_towards 2 = .ok (.iload_n 2, 1) := by decide +kernel
theorem dX12_towards_3 : decode cX12_towards 3 = .ok (.iload_n 1, 1) := by decide +kernel
theorem dX12_towards_4 : decode cX12_towards 4 = .ok (.iload_n 0, 1) := by decide +kernel
theorem dX12_towards_5 : decode cX12_towards 5 = .ok (.isub, 1) := by decide +kernel
theorem dX12_towards_6 : decode cX12_towards 6 = .ok (.invokestatic 348, 3) := by decide +kernel
theorem dX12_towards_9 : decode cX12_towards 9 = .ok (.invokestatic 350, 3) := by decide +kernel
theorem dX12_towards_12 : decode cX12_towards 12 = .ok (.ireturn, 1) := by decide +kernel
theorem dX12_goHour_0 : decode cX12_goHour 0 = .ok (.iconst 0, 1) := by decide +kernel
theorem dX12_goHour_1 : decode cX12_goHour 1 = .ok (.istore_n 2, 1) := by decide +kernel
theorem dX12_goHour_2 : decode cX12_goHour 2 = .ok (.iload_n 2, 1) := by decide +kernel
theorem dX12_goHour_3 : decode cX12_goHour 3 = .ok (.aload_n 0, 1) := by decide +kernel
theorem dX12_goHour_4 : decode cX12_goHour 4 = .ok (.getfield 312, 3) := by decide +kernel
theorem dX12_goHour_7 : decode cX12_goHour 7 = .ok (.if_icmp .ge 81, 3) := by decide +kernel
theorem dX12_goHour_10 : decode cX12_goHour 10 = .ok (.bipush 40, 2) := by decide +kernel
theorem dX12_goHour_12 : decode cX12_goHour 12 = .ok (.bipush 6, 2) := by decide +kernel
theorem dX12_goHour_14 : decode cX12_goHour 14 = .ok (.iload_n 2, 1) := by decide +kernel
theorem dX12_goHour_15 : decode cX12_goHour 15 = .ok (.imul, 1) := by decide +kernel
theorem dX12_goHour_16 : decode cX12_goHour 16 = .ok (.iadd, 1) := by decide +kernel
theorem dX12_goHour_17 : decode cX12_goHour 17 = .ok (.istore_n 3, 1) := by decide +kernel
theorem dX12_goHour_18 : decode cX12_goHour 18 = .ok (.aload_n 1, 1) := by decide +kernel
theorem dX12_goHour_19 : decode cX12_goHour 19 = .ok (.iload_n 3, 1) := by decide +kernel
theorem dX12_goHour_20 : decode cX12_goHour 20 = .ok (.iconst 0, 1) := by decide +kernel
theorem dX12_goHour_21 : decode cX12_goHour 21 = .ok (.iadd, 1) := by decide +kernel
theorem dX12_goHour_22 : decode cX12_goHour 22 = .ok (.iaload, 1) := by decide +kernel
theorem dX12_goHour_23 : decode cX12_goHour 23 = .ok (.aload_n 1, 1) := by decide +kernel
theorem dX12_goHour_24 : decode cX12_goHour 24 = .ok (.iload_n 3, 1) := by decide +kernel
theorem dX12_goHour_25 : decode cX12_goHour 25 = .ok (.iconst 2, 1) := by decide +kernel
theorem dX12_goHour_26 : decode cX12_goHour 26 = .ok (.iadd, 1) := by decide +kernel
theorem dX12_goHour_27 : decode cX12_goHour 27 = .ok (.iaload, 1) := by decide +kernel
theorem dX12_goHour_28 : decode cX12_goHour 28 = .ok (.aload_n 0, 1) := by decide +kernel
theorem dX12_goHour_29 : decode cX12_goHour 29 = .ok (.iload_n 2, 1) := by decide +kernel
theorem dX12_goHour_30 : decode cX12_goHour 30 = .ok (.iconst 2, 1) := by decide +kernel
theorem dX12_goHour_31 : decode cX12_goHour 31 = .ok (.invokevirtual 364, 3) := by decide +kernel
theorem dX12_goHour_34 : decode cX12_goHour 34 = .ok (.invokestatic 393, 3) := by decide +kernel
theorem dX12_goHour_37 : decode cX12_goHour 37 = .ok (.istore 4, 2) := by decide +kernel
theorem dX12_goHour_39 : decode cX12_goHour 39 = .ok (.aload_n 1, 1) := by decide +kernel
theorem dX12_goHour_40 : decode cX12_goHour 40 = .ok (.iload_n 3, 1) := by decide +kernel
theorem dX12_goHour_41 : decode cX12_goHour 41 = .ok (.iconst 0, 1) := by decide +kernel
theorem dX12_goHour_42 : decode cX12_goHour 42 = .ok (.iadd, 1) := by decide +kernel
theorem dX12_goHour_43 : decode cX12_goHour 43 = .ok (.dup2, 1) := by decide +kernel
theorem dX12_goHour_44 : decode cX12_goHour 44 = .ok (.iaload, 1) := by decide +kernel
theorem dX12_goHour_45 : decode cX12_goHour 45 = .ok (.iload 4, 2) := by decide +kernel
theorem dX12_goHour_47 : decode cX12_goHour 47 = .ok (.iadd, 1) := by decide +kernel
theorem dX12_goHour_48 : decode cX12_goHour 48 = .ok (.iastore, 1) := by decide +kernel
theorem dX12_goHour_49 : decode cX12_goHour 49 = .ok (.aload_n 1, 1) := by decide +kernel
theorem dX12_goHour_50 : decode cX12_goHour 50 = .ok (.iload_n 3, 1) := by decide +kernel
theorem dX12_goHour_51 : decode cX12_goHour 51 = .ok (.iconst 1, 1) := by decide +kernel
theorem dX12_goHour_52 : decode cX12_goHour 52 = .ok (.iadd, 1) := by decide +kernel
theorem dX12_goHour_53 : decode cX12_goHour 53 = .ok (.dup2, 1) := by decide +kernel
theorem dX12_goHour_54 : decode cX12_goHour 54 = .ok (.iaload, 1) := by decide +kernel
theorem dX12_goHour_55 : decode cX12_goHour 55 = .ok (.aload_n 1, 1) := by decide +kernel
theorem dX12_goHour_56 : decode cX12_goHour 56 = .ok (.iload_n 3, 1) := by decide +kernel
theorem dX12_goHour_57 : decode cX12_goHour 57 = .ok (.iconst 1, 1) := by decide +kernel
theorem dX12_goHour_58 : decode cX12_goHour 58 = .ok (.iadd, 1) := by decide +kernel
theorem dX12_goHour_59 : decode cX12_goHour 59 = .ok (.iaload, 1) := by decide +kernel
theorem dX12_goHour_60 : decode cX12_goHour 60 = .ok (.aload_n 1, 1) := by decide +kernel
theorem dX12_goHour_61 : decode cX12_goHour 61 = .ok (.iload_n 3, 1) := by decide +kernel
theorem dX12_goHour_62 : decode cX12_goHour 62 = .ok (.iconst 3, 1) := by decide +kernel
theorem dX12_goHour_63 : decode cX12_goHour 63 = .ok (.iadd, 1) := by decide +kernel
theorem dX12_goHour_64 : decode cX12_goHour 64 = .ok (.iaload, 1) := by decide +kernel
theorem dX12_goHour_65 : decode cX12_goHour 65 = .ok (.aload_n 0, 1) := by decide +kernel
theorem dX12_goHour_66 : decode cX12_goHour 66 = .ok (.iload_n 2, 1) := by decide +kernel
theorem dX12_goHour_67 : decode cX12_goHour 67 = .ok (.iconst 2, 1) := by decide +kernel
theorem dX12_goHour_68 : decode cX12_goHour 68 = .ok (.invokevirtual 364, 3) := by decide +kernel
theorem dX12_goHour_71 : decode cX12_goHour 71 = .ok (.iload 4, 2) := by decide +kernel
theorem dX12_goHour_73 : decode cX12_goHour 73 = .ok (.invokestatic 334, 3) := by decide +kernel
theorem dX12_goHour_76 : decode cX12_goHour 76 = .ok (.isub, 1) := by decide +kernel
theorem dX12_goHour_77 : decode cX12_goHour 77 = .ok (.invokestatic 393, 3) := by decide +kernel
theorem dX12_goHour_80 : decode cX12_goHour 80 = .ok (.iadd, 1) := by decide +kernel
theorem dX12_goHour_81 : decode cX12_goHour 81 = .ok (.iastore, 1) := by decide +kernel
theorem dX12_goHour_82 : decode cX12_goHour 82 = .ok (.iinc 2 1, 3) := by decide +kernel
theorem dX12_goHour_85 : decode cX12_goHour 85 = .ok (.goto (-83), 3) := by decide +kernel
theorem dX12_goHour_88 : decode cX12_goHour 88 = .ok (.aload_n 1, 1) := by decide +kernel
theorem dX12_goHour_89 : decode cX12_goHour 89 = .ok (.bipush 60, 2) := by decide +kernel
theorem dX12_goHour_91 : decode cX12_goHour 91 = .ok (.dup2, 1) := by decide +kernel
theorem dX12_goHour_92 : decode cX12_goHour 92 = .ok (.iaload, 1) := by decide +kernel
theorem dX12_goHour_93 : decode cX12_goHour 93 = .ok (.iconst 1, 1) := by decide +kernel
theorem dX12_goHour_94 : decode cX12_goHour 94 = .ok (.iadd, 1) := by decide +kernel
theorem dX12_goHour_95 : decode cX12_goHour 95 = .ok (.iastore, 1) := by decide +kernel
theorem dX12_goHour_96 : decode cX12_goHour 96 = .ok (.aload_n 0, 1) := by decide +kernel
theorem dX12_goHour_97 : decode cX12_goHour 97 = .ok (.aload_n 1, 1) := by decide +kernel
theorem dX12_goHour_98 : decode cX12_goHour 98 = .ok (.invokevirtual 397, 3) := by decide +kernel
theorem dX12_goHour_101 : decode cX12_goHour 101 = .ok (.istore_n 2, 1) := by decide +kernel
theorem dX12_goHour_102 : decode cX12_goHour 102 = .ok (.aload_n 1, 1) := by decide +kernel
theorem dX12_goHour_103 : decode cX12_goHour 103 = .ok (.bipush 61, 2) := by decide +kernel
theorem dX12_goHour_105 : decode cX12_goHour 105 = .ok (.iaload, 1) := by decide +kernel
theorem dX12_goHour_106 : decode cX12_goHour 106 = .ok (.bipush 60, 2) := by decide +kernel
theorem dX12_goHour_108 : decode cX12_goHour 108 = .ok (.if_icmp .ne 40, 3) := by decide +kernel
theorem dX12_goHour_111 : decode cX12_goHour 111 = .ok (.iconst 1, 1) := by decide +kernel
theorem dX12_goHour_112 : decode cX12_goHour 112 = .ok (.istore_n 3, 1) := by decide +kernel
theorem dX12_goHour_113 : decode cX12_goHour 113 = .ok (.iload_n 3, 1) := by decide +kernel
theorem dX12_goHour_114 : decode cX12_goHour 114 = .ok (.sipush 177, 3) := by decide +kernel
theorem dX12_goHour_117 : decode cX12_goHour 117 = .ok (.if_icmp .gt 23, 3) := by decide +kernel
theorem dX12_goHour_120 : decode cX12_goHour 120 = .ok (.aload_n 1, 1) := by decide +kernel
theorem dX12_goHour_121 : decode cX12_goHour 121 = .ok (.bipush 61, 2) := by decide +kernel
theorem dX12_goHour_123 : decode cX12_goHour 123 = .ok (.iload_n 3, 1) := by decide +kernel
theorem dX12_goHour_124 : decode cX12_goHour 124 = .ok (.iadd, 1) := by decide +kernel
theorem dX12_goHour_125 : decode cX12_goHour 125 = .ok (.aload_n 1, 1) := by decide +kernel
theorem dX12_goHour_126 : decode cX12_goHour 126 = .ok (.bipush 61, 2) := by decide +kernel
theorem dX12_goHour_128 : decode cX12_goHour 128 = .ok (.iload_n 3, 1) := by decide +kernel
theorem dX12_goHour_129 : decode cX12_goHour 129 = .ok (.iadd, 1) := by decide +kernel
theorem dX12_goHour_130 : decode cX12_goHour 130 = .ok (.iconst 3, 1) := by decide +kernel
theorem dX12_goHour_131 : decode cX12_goHour 131 = .ok (.iadd, 1) := by decide +kernel
theorem dX12_goHour_132 : decode cX12_goHour 132 = .ok (.iaload, 1) := by decide +kernel
theorem dX12_goHour_133 : decode cX12_goHour 133 = .ok (.iastore, 1) := by decide +kernel
theorem dX12_goHour_134 : decode cX12_goHour 134 = .ok (.iinc 3 1, 3) := by decide +kernel
theorem dX12_goHour_137 : decode cX12_goHour 137 = .ok (.goto (-24), 3) := by decide +kernel
theorem dX12_goHour_140 : decode cX12_goHour 140 = .ok (.aload_n 1, 1) := by decide +kernel
theorem dX12_goHour_141 : decode cX12_goHour 141 = .ok (.bipush 61, 2) := by decide +kernel
theorem dX12_goHour_143 : decode cX12_goHour 143 = .ok (.dup2, 1) := by decide +kernel
theorem dX12_goHour_144 : decode cX12_goHour 144 = .ok (.iaload, 1) := by decide +kernel
theorem dX12_goHour_145 : decode cX12_goHour 145 = .ok (.iconst 1, 1) := by decide +kernel
theorem dX12_goHour_146 : decode cX12_goHour 146 = .ok (.isub, 1) := by decide +kernel
theorem dX12_goHour_147 : decode cX12_goHour 147 = .ok (.iastore, 1) := by decide +kernel
theorem dX12_goHour_148 : decode cX12_goHour 148 = .ok (.iconst 0, 1) := by decide +kernel
theorem dX12_goHour_149 : decode cX12_goHour 149 = .ok (.istore_n 3, 1) := by decide +kernel
theorem dX12_goHour_150 : decode cX12_goHour 150 = .ok (.iload_n 3, 1) := by decide +kernel
theorem dX12_goHour_151 : decode cX12_goHour 151 = .ok (.iconst 3, 1) := by decide +kernel
theorem dX12_goHour_152 : decode cX12_goHour 152 = .ok (.if_icmp .ge 28, 3) := by decide +kernel
theorem dX12_goHour_155 : decode cX12_goHour 155 = .ok (.aload_n 1, 1) := by decide +kernel
theorem dX12_goHour_156 : decode cX12_goHour 156 = .ok (.bipush 62, 2) := by decide +kernel
theorem dX12_goHour_158 : decode cX12_goHour 158 = .ok (.iconst 3, 1) := by decide +kernel
theorem dX12_goHour_159 : decode cX12_goHour 159 = .ok (.aload_n 1, 1) := by decide +kernel
theorem dX12_goHour_160 : decode cX12_goHour 160 = .ok (.bipush 61, 2) := by decide +kernel
theorem dX12_goHour_162 : decode cX12_goHour 162 = .ok (.iaload, 1) := by decide +kernel
theorem dX12_goHour_163 : decode cX12_goHour 163 = .ok (.imul, 1) := by decide +kernel
theorem dX12_goHour_164 : decode cX12_goHour 164 = .ok (.iadd, 1) := by decide +kernel
theorem dX12_goHour_165 : decode cX12_goHour 165 = .ok (.iload_n 3, 1) := by decide +kernel
theorem dX12_goHour_166 : decode cX12_goHour 166 = .ok (.iadd, 1) := by decide +kernel
theorem dX12_goHour_167 : decode cX12_goHour 167 = .ok (.aload_n 0, 1) := by decide +kernel
theorem dX12_goHour_168 : decode cX12_goHour 168 = .ok (.getfield 81, 3) := by decide +kernel
theorem dX12_goHour_171 : decode cX12_goHour 171 = .ok (.iload_n 3, 1) := by decide +kernel
theorem dX12_goHour_172 : decode cX12_goHour 172 = .ok (.iaload, 1) := by decide +kernel
theorem dX12_goHour_173 : decode cX12_goHour 173 = .ok (.iastore, 1) := by decide +kernel
theorem dX12_goHour_174 : decode cX12_goHour 174 = .ok (.iinc 3 1, 3) := by decide +kernel
theorem dX12_goHour_177 : decode cX12_goHour 177 = .ok (.goto (-27), 3) := by decide +kernel
theorem dX12_goHour_180 : decode cX12_goHour 180 = .ok (.aload_n 1, 1) := by decide +kernel
theorem dX12_goHour_181 : decode cX12_goHour 181 = .ok (.bipush 61, 2) := by decide +kernel
theorem dX12_goHour_183 : decode cX12_goHour 183 = .ok (.dup2, 1) := by decide +kernel
theorem dX12_goHour_184 : decode cX12_goHour 184 = .ok (.iaload, 1) := by decide +kernel
theorem dX12_goHour_185 : decode cX12_goHour 185 = .ok (.iconst 1, 1) := by decide +kernel
theorem dX12_goHour_186 : decode cX12_goHour 186 = .ok (.iadd, 1) := by decide +kernel
theorem dX12_goHour_187 : decode cX12_goHour 187 = .ok (.iastore, 1) := by decide +kernel
theorem dX12_goHour_188 : decode cX12_goHour 188 = .ok (.aload_n 1, 1) := by decide +kernel
theorem dX12_goHour_189 : decode cX12_goHour 189 = .ok (.bipush 60, 2) := by decide +kernel
theorem dX12_goHour_191 : decode cX12_goHour 191 = .ok (.iaload, 1) := by decide +kernel
theorem dX12_goHour_192 : decode cX12_goHour 192 = .ok (.aload_n 0, 1) := by decide +kernel
theorem dX12_goHour_193 : decode cX12_goHour 193 = .ok (.getfield 37, 3) := by decide +kernel
theorem dX12_goHour_196 : decode cX12_goHour 196 = .ok (.iconst 3, 1) := by decide +kernel
theorem dX12_goHour_197 : decode cX12_goHour 197 = .ok (.iaload, 1) := by decide +kernel
theorem dX12_goHour_198 : decode cX12_goHour 198 = .ok (.irem, 1) := by decide +kernel
theorem dX12_goHour_199 : decode cX12_goHour 199 = .ok (.ifCond .ne 9, 3) := by decide +kernel
theorem dX12_goHour_202 : decode cX12_goHour 202 = .ok (.aload_n 0, 1) := by decide +kernel
theorem dX12_goHour_203 : decode cX12_goHour 203 = .ok (.aload_n 1, 1) := by decide +kernel
theorem dX12_goHour_204 : decode cX12_goHour 204 = .ok (.iload_n 2, 1) := by decide +kernel
theorem dX12_goHour_205 : decode cX12_goHour 205 = .ok (.invokevirtual 401, 3) := by decide +kernel
theorem dX12_goHour_208 : decode cX12_goHour 208 = .ok (.return_, 1) := by decide +kernel
theorem dX12_counts_0 : decode cX12_counts 0 = .ok (.iload_n 2, 1) := by decide +kernel
theorem dX12_counts_1 : decode cX12_counts 1 = .ok (.iconst (-1), 1) := by decide +kernel
theorem dX12_counts_2 : decode cX12_counts 2 = .ok (.if_icmp .eq 18, 3) := by decide +kernel
theorem dX12_counts_5 : decode cX12_counts 5 = .ok (.aload_n 1, 1) := by decide +kernel
theorem dX12_counts_6 : decode cX12_counts 6 = .ok (.bipush 40, 2) := by decide +kernel
theorem dX12_counts_8 : decode cX12_counts 8 = .ok (.bipush 6, 2) := by decide +kernel
theorem dX12_counts_10 : decode cX12_counts 10 = .ok (.iload_n 2, 1) := by decide +kernel
theorem dX12_counts_11 : decode cX12_counts 11 = .ok (.imul, 1) := by decide +kernel
theorem dX12_counts_12 : decode cX12_counts 12 = .ok (.iadd, 1) := by decide +kernel
theorem dX12_counts_13 : decode cX12_counts 13 = .ok (.iconst 4, 1) := by decide +kernel
theorem dX12_counts_14 : decode cX12_counts 14 = .ok (.iadd, 1) := by decide +kernel
theorem dX12_counts_15 : decode cX12_counts 15 = .ok (.dup2, 1) := by decide +kernel
theorem dX12_counts_16 : decode cX12_counts 16 = .ok (.iaload, 1) := by decide +kernel
theorem dX12_counts_17 : decode cX12_counts 17 = .ok (.iconst 1, 1) := by decide +kernel
theorem dX12_counts_18 : decode cX12_counts 18 = .ok (.iadd, 1) := by decide +kernel
theorem dX12_counts_19 : decode cX12_counts 19 = .ok (.iastore, 1) := by decide +kernel
theorem dX12_counts_20 : decode cX12_counts 20 = .ok (.iconst 0, 1) := by decide +kernel
theorem dX12_counts_21 : decode cX12_counts 21 = .ok (.istore_n 3, 1) := by decide +kernel
theorem dX12_counts_22 : decode cX12_counts 22 = .ok (.iload_n 3, 1) := by decide +kernel
theorem dX12_counts_23 : decode cX12_counts 23 = .ok (.aload_n 0, 1) := by decide +kernel
theorem dX12_counts_24 : decode cX12_counts 24 = .ok (.getfield 309, 3) := by decide +kernel
theorem dX12_counts_27 : decode cX12_counts 27 = .ok (.if_icmp .ge 21, 3) := by decide +kernel
theorem dX12_counts_30 : decode cX12_counts 30 = .ok (.aload_n 0, 1) := by decide +kernel
theorem dX12_counts_31 : decode cX12_counts 31 = .ok (.getfield 84, 3) := by decide +kernel
theorem dX12_counts_34 : decode cX12_counts 34 = .ok (.iload_n 3, 1) := by decide +kernel
theorem dX12_counts_35 : decode cX12_counts 35 = .ok (.aload_n 0, 1) := by decide +kernel
theorem dX12_counts_36 : decode cX12_counts 36 = .ok (.aload_n 1, 1) := by decide +kernel
theorem dX12_counts_37 : decode cX12_counts 37 = .ok (.iload_n 3, 1) := by decide +kernel
theorem dX12_counts_38 : decode cX12_counts 38 = .ok (.invokevirtual 386, 3) := by decide +kernel
theorem dX12_counts_41 : decode cX12_counts 41 = .ok (.iastore, 1) := by decide +kernel
theorem dX12_counts_42 : decode cX12_counts 42 = .ok (.iinc 3 1, 3) := by decide +kernel
theorem dX12_counts_45 : decode cX12_counts 45 = .ok (.goto (-23), 3) := by decide +kernel
theorem dX12_counts_48 : decode cX12_counts 48 = .ok (.iconst 0, 1) := by decide +kernel
theorem dX12_counts_49 : decode cX12_counts 49 = .ok (.istore_n 3, 1) := by decide +kernel
theorem dX12_counts_50 : decode cX12_counts 50 = .ok (.iload_n 3, 1) := by decide +kernel
theorem dX12_counts_51 : decode cX12_counts 51 = .ok (.aload_n 0, 1) := by decide +kernel
theorem dX12_counts_52 : decode cX12_counts 52 = .ok (.getfield 309, 3) := by decide +kernel
theorem dX12_counts_55 : decode cX12_counts 55 = .ok (.if_icmp .ge 77, 3) := by decide +kernel
theorem dX12_counts_58 : decode cX12_counts 58 = .ok (.aload_n 0, 1) := by decide +kernel
theorem dX12_counts_59 : decode cX12_counts 59 = .ok (.getfield 84, 3) := by decide +kernel
theorem dX12_counts_62 : decode cX12_counts 62 = .ok (.iload_n 3, 1) := by decide +kernel
theorem dX12_counts_63 : decode cX12_counts 63 = .ok (.iaload, 1) := by decide +kernel
theorem dX12_counts_64 : decode cX12_counts 64 = .ok (.iconst (-1), 1) := by decide +kernel
theorem dX12_counts_65 : decode cX12_counts 65 = .ok (.if_icmp .ne 6, 3) := by decide +kernel
theorem dX12_counts_68 : decode cX12_counts 68 = .ok (.goto 58, 3) := by decide +kernel
theorem dX12_counts_71 : decode cX12_counts 71 = .ok (.iconst 5, 1) := by decide +kernel
theorem dX12_counts_72 : decode cX12_counts 72 = .ok (.iload_n 3, 1) := by decide +kernel
theorem dX12_counts_73 : decode cX12_counts 73 = .ok (.imul, 1) := by decide +kernel
theorem dX12_counts_74 : decode cX12_counts 74 = .ok (.istore 4, 2) := by decide +kernel
theorem dX12_counts_76 : decode cX12_counts 76 = .ok (.aload_n 1, 1) := by decide +kernel
theorem dX12_counts_77 : decode cX12_counts 77 = .ok (.iload 4, 2) := by decide +kernel
theorem dX12_counts_79 : decode cX12_counts 79 = .ok (.iconst 4, 1) := by decide +kernel
theorem dX12_counts_80 : decode cX12_counts 80 = .ok (.iadd, 1) := by decide +kernel
theorem dX12_counts_81 : decode cX12_counts 81 = .ok (.aload_n 1, 1) := by decide +kernel
theorem dX12_counts_82 : decode cX12_counts 82 = .ok (.iload 4, 2) := by decide +kernel
theorem dX12_counts_84 : decode cX12_counts 84 = .ok (.iconst 3, 1) := by decide +kernel
theorem dX12_counts_85 : decode cX12_counts 85 = .ok (.iadd, 1) := by decide +kernel
theorem dX12_counts_86 : decode cX12_counts 86 = .ok (.iaload, 1) := by decide +kernel
theorem dX12_counts_87 : decode cX12_counts 87 = .ok (.aload_n 0, 1) := by decide +kernel
theorem dX12_counts_88 : decode cX12_counts 88 = .ok (.getfield 84, 3) := by decide +kernel
theorem dX12_counts_91 : decode cX12_counts 91 = .ok (.iload_n 3, 1) := by decide +kernel
theorem dX12_counts_92 : decode cX12_counts 92 = .ok (.iaload, 1) := by decide +kernel
theorem dX12_counts_93 : decode cX12_counts 93 = .ok (.if_icmp .ne 19, 3) := by decide +kernel
theorem dX12_counts_96 : decode cX12_counts 96 = .ok (.bipush 9, 2) := by decide +kernel
theorem dX12_counts_98 : decode cX12_counts 98 = .ok (.aload_n 1, 1) := by decide +kernel
theorem dX12_counts_99 : decode cX12_counts 99 = .ok (.iload 4, 2) := by decide +kernel
theorem dX12_counts_101 : decode cX12_counts 101 = .ok (.iconst 4, 1) := by decide +kernel
theorem dX12_counts_102 : decode cX12_counts 102 = .ok (.iadd, 1) := by decide +kernel
theorem dX12_counts_103 : decode cX12_counts 103 = .ok (.iaload, 1) := by decide +kernel
theorem dX12_counts_104 : decode cX12_counts 104 = .ok (.iconst 1, 1) := by decide +kernel
theorem dX12_counts_105 : decode cX12_counts 105 = .ok (.iadd, 1) := by decide +kernel
theorem dX12_counts_106 : decode cX12_counts 106 = .ok (.invokestatic 348, 3) := by decide +kernel
theorem dX12_counts_109 : decode cX12_counts 109 = .ok (.goto 4, 3) := by decide +kernel
theorem dX12_counts_112 : decode cX12_counts 112 = .ok (.iconst 1, 1) := by decide +kernel
theorem dX12_counts_113 : decode cX12_counts 113 = .ok (.iastore, 1) := by decide +kernel
theorem dX12_counts_114 : decode cX12_counts 114 = .ok (.aload_n 1, 1) := by decide +kernel
theorem dX12_counts_115 : decode cX12_counts 115 = .ok (.iload 4, 2) := by decide +kernel
theorem dX12_counts_117 : decode cX12_counts 117 = .ok (.iconst 3, 1) := by decide +kernel
theorem dX12_counts_118 : decode cX12_counts 118 = .ok (.iadd, 1) := by decide +kernel
theorem dX12_counts_119 : decode cX12_counts 119 = .ok (.aload_n 0, 1) := by decide +kernel
theorem dX12_counts_120 : decode cX12_counts 120 = .ok (.getfield 84, 3) := by decide +kernel
theorem dX12_counts_123 : decode cX12_counts 123 = .ok (.iload_n 3, 1) := by decide +kernel
theorem dX12_counts_124 : decode cX12_counts 124 = .ok (.iaload, 1) := by decide +kernel
theorem dX12_counts_125 : decode cX12_counts 125 = .ok (.iastore, 1) := by decide +kernel
theorem dX12_counts_126 : decode cX12_counts 126 = .ok (.iinc 3 1, 3) := by decide +kernel
theorem dX12_counts_129 : decode cX12_counts 129 = .ok (.goto (-79), 3) := by decide +kernel
theorem dX12_counts_132 : decode cX12_counts 132 = .ok (.return_, 1) := by decide +kernel
theorem dX12_rule_0 : decode cX12_rule 0 = .ok (.aload_n 0, 1) := by decide +kernel
theorem dX12_rule_1 : decode cX12_rule 1 = .ok (.iconst 0, 1) := by decide +kernel
theorem dX12_rule_2 : decode cX12_rule 2 = .ok (.putfield 111, 3) := by decide +kernel
theorem dX12_rule_5 : decode cX12_rule 5 = .ok (.aload_n 0, 1) := by decide +kernel
theorem dX12_rule_6 : decode cX12_rule 6 = .ok (.getfield 309, 3) := by decide +kernel
theorem dX12_rule_9 : decode cX12_rule 9 = .ok (.ifCond .eq 15, 3) := by decide +kernel
theorem dX12_rule_12 : decode cX12_rule 12 = .ok (.iload_n 1, 1) := by decide +kernel
theorem dX12_rule_13 : decode cX12_rule 13 = .ok (.i2l, 1) := by decide +kernel
theorem dX12_rule_14 : decode cX12_rule 14 = .ok (.lconst 0, 1) := by decide +kernel
theorem dX12_rule_15 : decode cX12_rule 15 = .ok (.ldc2_w 405, 3) := by decide +kernel
theorem dX12_rule_18 : decode cX12_rule 18 = .ok (.invokestatic 232, 3) := by decide +kernel
theorem dX12_rule_21 : decode cX12_rule 21 = .ok (.ifCond .ne 5, 3) := by decide +kernel
theorem dX12_rule_24 : decode cX12_rule 24 = .ok (.iconst (-1), 1) := by decide +kernel
theorem dX12_rule_25 : decode cX12_rule 25 = .ok (.ireturn, 1) := by decide +kernel
theorem dX12_rule_26 : decode cX12_rule 26 = .ok (.iload_n 1, 1) := by decide +kernel
theorem dX12_rule_27 : decode cX12_rule 27 = .ok (.ifCond .ne 13, 3) := by decide +kernel
theorem dX12_rule_30 : decode cX12_rule 30 = .ok (.aload_n 0, 1) := by decide +kernel
theorem dX12_rule_31 : decode cX12_rule 31 = .ok (.getfield 61, 3) := by decide +kernel
theorem dX12_rule_34 : decode cX12_rule 34 = .ok (.bipush 58, 2) := by decide +kernel
theorem dX12_rule_36 : decode cX12_rule 36 = .ok (.iaload, 1) := by decide +kernel
theorem dX12_rule_37 : decode cX12_rule 37 = .ok (.goto 48, 3) := by decide +kernel
theorem dX12_rule_40 : decode cX12_rule 40 = .ok (.iload_n 1, 1) := by decide +kernel
theorem dX12_rule_41 : decode cX12_rule 41 = .ok (.iconst 1, 1) := by decide +kernel
theorem dX12_rule_42 : decode cX12_rule 42 = .ok (.if_icmp .ne 13, 3) := by decide +kernel
theorem dX12_rule_45 : decode cX12_rule 45 = .ok (.aload_n 0, 1) := by decide +kernel
theorem dX12_rule_46 : decode cX12_rule 46 = .ok (.getfield 61, 3) := by decide +kernel
theorem dX12_rule_49 : decode cX12_rule 49 = .ok (.bipush 59, 2) := by decide +kernel
theorem dX12_rule_51 : decode cX12_rule 51 = .ok (.iaload, 1) := by decide +kernel
theorem dX12_rule_52 : decode cX12_rule 52 = .ok (.goto 33, 3) := by decide +kernel
theorem dX12_rule_55 : decode cX12_rule 55 = .ok (.iload_n 1, 1) := by decide +kernel
theorem dX12_rule_56 : decode cX12_rule 56 = .ok (.iconst 4, 1) := by decide +kernel
theorem dX12_rule_57 : decode cX12_rule 57 = .ok (.if_icmp .ne 22, 3) := by decide +kernel
theorem dX12_rule_60 : decode cX12_rule 60 = .ok (.aload_n 0, 1) := by decide +kernel
theorem dX12_rule_61 : decode cX12_rule 61 = .ok (.aload_n 0, 1) := by decide +kernel
theorem dX12_rule_62 : decode cX12_rule 62 = .ok (.getfield 61, 3) := by decide +kernel
theorem dX12_rule_65 : decode cX12_rule 65 = .ok (.invokevirtual 341, 3) := by decide +kernel
theorem dX12_rule_68 : decode cX12_rule 68 = .ok (.ifCond .eq 7, 3) := by decide +kernel
theorem dX12_rule_71 : decode cX12_rule 71 = .ok (.iconst 1, 1) := by decide +kernel
theorem dX12_rule_72 : decode cX12_rule 72 = .ok (.goto 13, 3) := by decide +kernel
theorem dX12_rule_75 : decode cX12_rule 75 = .ok (.iconst 0, 1) := by decide +kernel
theorem dX12_rule_76 : decode cX12_rule 76 = .ok (.goto 9, 3) := by decide +kernel
theorem dX12_rule_79 : decode cX12_rule 79 = .ok (.aload_n 0, 1) := by decide +kernel
theorem dX12_rule_80 : decode cX12_rule 80 = .ok (.getfield 37, 3) := by decide +kernel
theorem dX12_rule_83 : decode cX12_rule 83 = .ok (.iload_n 1, 1) := by decide +kernel
theorem dX12_rule_84 : decode cX12_rule 84 = .ok (.iaload, 1) := by decide +kernel
theorem dX12_rule_85 : decode cX12_rule 85 = .ok (.ireturn, 1) := by decide +kernel
theorem dX12_buoy_0 : decode cX12_buoy 0 = .ok (.aload_n 0, 1) := by decide +kernel
theorem dX12_buoy_1 : decode cX12_buoy 1 = .ok (.aload_n 0, 1) := by decide +kernel
theorem dX12_buoy_2 : decode cX12_buoy 2 = .ok (.iload_n 1, 1) := by decide +kernel
theorem dX12_buoy_3 : decode cX12_buoy 3 = .ok (.invokevirtual 407, 3) := by decide +kernel
theorem dX12_buoy_6 : decode cX12_buoy 6 = .ok (.ifCond .eq 19, 3) := by decide +kernel
theorem dX12_buoy_9 : decode cX12_buoy 9 = .ok (.iload_n 2, 1) := by decide +kernel
theorem dX12_buoy_10 : decode cX12_buoy 10 = .ok (.i2l, 1) := by decide +kernel
theorem dX12_buoy_11 : decode cX12_buoy 11 = .ok (.lconst 0, 1) := by decide +kernel
theorem dX12_buoy_12 : decode cX12_buoy 12 = .ok (.ldc2_w 410, 3) := by decide +kernel
theorem dX12_buoy_15 : decode cX12_buoy 15 = .ok (.invokestatic 232, 3) := by decide +kernel
theorem dX12_buoy_18 : decode cX12_buoy 18 = .ok (.ifCond .eq 7, 3) := by decide +kernel
theorem dX12_buoy_21 : decode cX12_buoy 21 = .ok (.iconst 0, 1) := by decide +kernel
theorem dX12_buoy_22 : decode cX12_buoy 22 = .ok (.goto 4, 3) := by decide +kernel
theorem dX12_buoy_25 : decode cX12_buoy 25 = .ok (.iconst 1, 1) := by decide +kernel
theorem dX12_buoy_26 : decode cX12_buoy 26 = .ok (.putfield 111, 3) := by decide +kernel
theorem dX12_buoy_29 : decode cX12_buoy 29 = .ok (.aload_n 0, 1) := by decide +kernel
theorem dX12_buoy_30 : decode cX12_buoy 30 = .ok (.getfield 111, 3) := by decide +kernel
theorem dX12_buoy_33 : decode cX12_buoy 33 = .ok (.ifCond .le 5, 3) := by decide +kernel
theorem dX12_buoy_36 : decode cX12_buoy 36 = .ok (.iconst 0, 1) := by decide +kernel
theorem dX12_buoy_37 : decode cX12_buoy 37 = .ok (.ireturn, 1) := by decide +kernel
theorem dX12_buoy_38 : decode cX12_buoy 38 = .ok (.iload_n 2, 1) := by decide +kernel
theorem dX12_buoy_39 : decode cX12_buoy 39 = .ok (.iconst 3, 1) := by decide +kernel
theorem dX12_buoy_40 : decode cX12_buoy 40 = .ok (.if_icmp .ge 10, 3) := by decide +kernel
theorem dX12_buoy_43 : decode cX12_buoy 43 = .ok (.aload_n 0, 1) := by decide +kernel
theorem dX12_buoy_44 : decode cX12_buoy 44 = .ok (.iload_n 1, 1) := by decide +kernel
theorem dX12_buoy_45 : decode cX12_buoy 45 = .ok (.iload_n 2, 1) := by decide +kernel
theorem dX12_buoy_46 : decode cX12_buoy 46 = .ok (.invokevirtual 318, 3) := by decide +kernel
theorem dX12_buoy_49 : decode cX12_buoy 49 = .ok (.ireturn, 1) := by decide +kernel
theorem dX12_buoy_50 : decode cX12_buoy 50 = .ok (.iload_n 2, 1) := by decide +kernel
theorem dX12_buoy_51 : decode cX12_buoy 51 = .ok (.bipush 8, 2) := by decide +kernel
theorem dX12_buoy_53 : decode cX12_buoy 53 = .ok (.if_icmp .ne 15, 3) := by decide +kernel
theorem dX12_buoy_56 : decode cX12_buoy 56 = .ok (.aload_n 0, 1) := by decide +kernel
theorem dX12_buoy_57 : decode cX12_buoy 57 = .ok (.aload_n 0, 1) := by decide +kernel
theorem dX12_buoy_58 : decode cX12_buoy 58 = .ok (.getfield 61, 3) := by decide +kernel
theorem dX12_buoy_61 : decode cX12_buoy 61 = .ok (.iload_n 1, 1) := by decide +kernel
theorem dX12_buoy_62 : decode cX12_buoy 62 = .ok (.invokevirtual 386, 3) := by decide +kernel
theorem dX12_buoy_65 : decode cX12_buoy 65 = .ok (.goto 15, 3) := by decide +kernel
theorem dX12_buoy_68 : decode cX12_buoy 68 = .ok (.aload_n 0, 1) := by decide +kernel
theorem dX12_buoy_69 : decode cX12_buoy 69 = .ok (.getfield 61, 3) := by decide +kernel
theorem dX12_buoy_72 : decode cX12_buoy 72 = .ok (.iconst 5, 1) := by decide +kernel
theorem dX12_buoy_73 : decode cX12_buoy 73 = .ok (.iload_n 1, 1) := by decide +kernel
theorem dX12_buoy_74 : decode cX12_buoy 74 = .ok (.imul, 1) := by decide +kernel
theorem dX12_buoy_75 : decode cX12_buoy 75 = .ok (.iload_n 2, 1) := by decide +kernel
theorem dX12_buoy_76 : decode cX12_buoy 76 = .ok (.iadd, 1) := by decide +kernel
theorem dX12_buoy_77 : decode cX12_buoy 77 = .ok (.iconst 3, 1) := by decide +kernel
theorem dX12_buoy_78 : decode cX12_buoy 78 = .ok (.isub, 1) := by decide +kernel
theorem dX12_buoy_79 : decode cX12_buoy 79 = .ok (.iaload, 1) := by decide +kernel
theorem dX12_buoy_80 : decode cX12_buoy 80 = .ok (.ireturn, 1) := by decide +kernel
theorem dX12_boat_0 : decode cX12_boat 0 = .ok (.aload_n 0, 1) := by decide +kernel
theorem dX12_boat_1 : decode cX12_boat 1 = .ok (.iconst 0, 1) := by decide +kernel
theorem dX12_boat_2 : decode cX12_boat 2 = .ok (.putfield 111, 3) := by decide +kernel
theorem dX12_boat_5 : decode cX12_boat 5 = .ok (.aload_n 0, 1) := by decide +kernel
theorem dX12_boat_6 : decode cX12_boat 6 = .ok (.iload_n 1, 1) := by decide +kernel
theorem dX12_boat_7 : decode cX12_boat 7 = .ok (.invokevirtual 412, 3) := by decide +kernel
theorem dX12_boat_10 : decode cX12_boat 10 = .ok (.ifCond .eq 15, 3) := by decide +kernel
theorem dX12_boat_13 : decode cX12_boat 13 = .ok (.iload_n 2, 1) := by decide +kernel
theorem dX12_boat_14 : decode cX12_boat 14 = .ok (.i2l, 1) := by decide +kernel
theorem dX12_boat_15 : decode cX12_boat 15 = .ok (.lconst 0, 1) := by decide +kernel
theorem dX12_boat_16 : decode cX12_boat 16 = .ok (.ldc2_w 415, 3) := by decide +kernel
theorem dX12_boat_19 : decode cX12_boat 19 = .ok (.invokestatic 232, 3) := by decide +kernel
theorem dX12_boat_22 : decode cX12_boat 22 = .ok (.ifCond .ne 5, 3) := by decide +kernel
theorem dX12_boat_25 : decode cX12_boat 25 = .ok (.iconst (-1), 1) := by decide +kernel
theorem dX12_boat_26 : decode cX12_boat 26 = .ok (.ireturn, 1) := by decide +kernel
theorem dX12_boat_27 : decode cX12_boat 27 = .ok (.iload_n 2, 1) := by decide +kernel
theorem dX12_boat_28 : decode cX12_boat 28 = .ok (.iconst 2, 1) := by decide +kernel
theorem dX12_boat_29 : decode cX12_boat 29 = .ok (.if_icmp .eq 8, 3) := by decide +kernel
theorem dX12_boat_32 : decode cX12_boat 32 = .ok (.iload_n 2, 1) := by decide +kernel
theorem dX12_boat_33 : decode cX12_boat 33 = .ok (.iconst 3, 1) := by decide +kernel
theorem dX12_boat_34 : decode cX12_boat 34 = .ok (.if_icmp .ne 10, 3) := by decide +kernel
theorem dX12_boat_37 : decode cX12_boat 37 = .ok (.aload_n 0, 1) := by decide +kernel
theorem dX12_boat_38 : decode cX12_boat 38 = .ok (.iload_n 1, 1) := by decide +kernel
theorem dX12_boat_39 : decode cX12_boat 39 = .ok (.iload_n 2, 1) := by decide +kernel
theorem dX12_boat_40 : decode cX12_boat 40 = .ok (.invokevirtual 364, 3) := by decide +kernel
theorem dX12_boat_43 : decode cX12_boat 43 = .ok (.ireturn, 1) := by decide +kernel
theorem dX12_boat_44 : decode cX12_boat 44 = .ok (.aload_n 0, 1) := by decide +kernel
theorem dX12_boat_45 : decode cX12_boat 45 = .ok (.getfield 61, 3) := by decide +kernel
theorem dX12_boat_48 : decode cX12_boat 48 = .ok (.iload_n 1, 1) := by decide +kernel
theorem dX12_boat_49 : decode cX12_boat 49 = .ok (.iload_n 2, 1) := by decide +kernel
theorem dX12_boat_50 : decode cX12_boat 50 = .ok (.iconst 2, 1) := by decide +kernel
theorem dX12_boat_51 : decode cX12_boat 51 = .ok (.if_icmp .ge 7, 3) := by decide +kernel
theorem dX12_boat_54 : decode cX12_boat 54 = .ok (.iload_n 2, 1) := by decide +kernel
theorem dX12_boat_55 : decode cX12_boat 55 = .ok (.goto 6, 3) := by decide +kernel
theorem dX12_boat_58 : decode cX12_boat 58 = .ok (.iload_n 2, 1) := by decide +kernel
theorem dX12_boat_59 : decode cX12_boat 59 = .ok (.iconst 2, 1) := by decide +kernel
theorem dX12_boat_60 : decode cX12_boat 60 = .ok (.isub, 1) := by decide +kernel
theorem dX12_boat_61 : decode cX12_boat 61 = .ok (.invokestatic 330, 3) := by decide +kernel
theorem dX12_boat_64 : decode cX12_boat 64 = .ok (.ireturn, 1) := by decide +kernel
theorem dX12_law_0 : decode cX12_law 0 = .ok (.aload_n 0, 1) := by decide +kernel
theorem dX12_law_1 : decode cX12_law 1 = .ok (.iconst 0, 1) := by decide +kernel
theorem dX12_law_2 : decode cX12_law 2 = .ok (.putfield 111, 3) := by decide +kernel
theorem dX12_law_5 : decode cX12_law 5 = .ok (.iload_n 1, 1) := by decide +kernel
theorem dX12_law_6 : decode cX12_law 6 = .ok (.iconst (-1), 1) := by decide +kernel
theorem dX12_law_7 : decode cX12_law 7 = .ok (.if_icmp .eq 21, 3) := by decide +kernel
theorem dX12_law_10 : decode cX12_law 10 = .ok (.iload_n 1, 1) := by decide +kernel
theorem dX12_law_11 : decode cX12_law 11 = .ok (.i2l, 1) := by decide +kernel
theorem dX12_law_12 : decode cX12_law 12 = .ok (.lconst 0, 1) := by decide +kernel
theorem dX12_law_13 : decode cX12_law 13 = .ok (.aload_n 0, 1) := by decide +kernel
theorem dX12_law_14 : decode cX12_law 14 = .ok (.getfield 301, 3) := by decide +kernel
theorem dX12_law_17 : decode cX12_law 17 = .ok (.iconst 1, 1) := by decide +kernel
theorem dX12_law_18 : decode cX12_law 18 = .ok (.isub, 1) := by decide +kernel
theorem dX12_law_19 : decode cX12_law 19 = .ok (.i2l, 1) := by decide +kernel
theorem dX12_law_20 : decode cX12_law 20 = .ok (.invokestatic 232, 3) := by decide +kernel
theorem dX12_law_23 : decode cX12_law 23 = .ok (.ifCond .ne 5, 3) := by decide +kernel
theorem dX12_law_26 : decode cX12_law 26 = .ok (.iconst 0, 1) := by decide +kernel
theorem dX12_law_27 : decode cX12_law 27 = .ok (.ireturn, 1) := by decide +kernel
theorem dX12_law_28 : decode cX12_law 28 = .ok (.aload_n 0, 1) := by decide +kernel
theorem dX12_law_29 : decode cX12_law 29 = .ok (.iload_n 1, 1) := by decide +kernel
theorem dX12_law_30 : decode cX12_law 30 = .ok (.putfield 67, 3) := by decide +kernel
theorem dX12_law_33 : decode cX12_law 33 = .ok (.iconst 1, 1) := by decide +kernel
theorem dX12_law_34 : decode cX12_law 34 = .ok (.ireturn, 1) := by decide +kernel
theorem dX12_pull_0 : decode cX12_pull 0 = .ok (.aload_n 0, 1) := by decide +kernel
theorem dX12_pull_1 : decode cX12_pull 1 = .ok (.iconst 0, 1) := by decide +kernel
theorem dX12_pull_2 : decode cX12_pull 2 = .ok (.putfield 111, 3) := by decide +kernel
theorem dX12_pull_5 : decode cX12_pull 5 = .ok (.aload_n 0, 1) := by decide +kernel
theorem dX12_pull_6 : decode cX12_pull 6 = .ok (.iload_n 1, 1) := by decide +kernel
theorem dX12_pull_7 : decode cX12_pull 7 = .ok (.invokevirtual 407, 3) := by decide +kernel
theorem dX12_pull_10 : decode cX12_pull 10 = .ok (.ifCond .eq 24, 3) := by decide +kernel
theorem dX12_pull_13 : decode cX12_pull 13 = .ok (.aload_n 0, 1) := by decide +kernel
theorem dX12_pull_14 : decode cX12_pull 14 = .ok (.iload_n 2, 1) := by decide +kernel
theorem dX12_pull_15 : decode cX12_pull 15 = .ok (.invokevirtual 412, 3) := by decide +kernel
theorem dX12_pull_18 : decode cX12_pull 18 = .ok (.ifCond .eq 16, 3) := by decide +kernel
theorem dX12_pull_21 : decode cX12_pull 21 = .ok (.aload_n 0, 1) := by decide +kernel
theorem dX12_pull_22 : decode cX12_pull 22 = .ok (.aload_n 0, 1) := by decide +kernel
theorem dX12_pull_23 : decode cX12_pull 23 = .ok (.getfield 61, 3) := by decide +kernel
theorem dX12_pull_26 : decode cX12_pull 26 = .ok (.iload_n 1, 1) := by decide +kernel
theorem dX12_pull_27 : decode cX12_pull 27 = .ok (.iload_n 2, 1) := by decide +kernel
theorem dX12_pull_28 : decode cX12_pull 28 = .ok (.invokevirtual 380, 3) := by decide +kernel
theorem dX12_pull_31 : decode cX12_pull 31 = .ok (.goto 6, 3) := by decide +kernel
theorem dX12_pull_34 : decode cX12_pull 34 = .ok (.ldc_w 417, 3) := by decide +kernel
theorem dX12_pull_37 : decode cX12_pull 37 = .ok (.ireturn, 1) := by decide +kernel
theorem dX12_push_0 : decode cX12_push 0 = .ok (.aload_n 0, 1) := by decide +kernel
theorem dX12_push_1 : decode cX12_push 1 = .ok (.iconst 0, 1) := by decide +kernel
theorem dX12_push_2 : decode cX12_push 2 = .ok (.putfield 111, 3) := by decide +kernel
theorem dX12_push_5 : decode cX12_push 5 = .ok (.aload_n 0, 1) := by decide +kernel
theorem dX12_push_6 : decode cX12_push 6 = .ok (.iload_n 1, 1) := by decide +kernel
theorem dX12_push_7 : decode cX12_push 7 = .ok (.invokevirtual 407, 3) := by decide +kernel
theorem dX12_push_10 : decode cX12_push 10 = .ok (.ifCond .eq 24, 3) := by decide +kernel
theorem dX12_push_13 : decode cX12_push 13 = .ok (.aload_n 0, 1) := by decide +kernel
theorem dX12_push_14 : decode cX12_push 14 = .ok (.iload_n 2, 1) := by decide +kernel
theorem dX12_push_15 : decode cX12_push 15 = .ok (.invokevirtual 412, 3) := by decide +kernel
theorem dX12_push_18 : decode cX12_push 18 = .ok (.ifCond .eq 16, 3) := by decide +kernel
theorem dX12_push_21 : decode cX12_push 21 = .ok (.aload_n 0, 1) := by decide +kernel
theorem dX12_push_22 : decode cX12_push 22 = .ok (.aload_n 0, 1) := by decide +kernel
theorem dX12_push_23 : decode cX12_push 23 = .ok (.getfield 61, 3) := by decide +kernel
theorem dX12_push_26 : decode cX12_push 26 = .ok (.iload_n 1, 1) := by decide +kernel
theorem dX12_push_27 : decode cX12_push 27 = .ok (.iload_n 2, 1) := by decide +kernel
theorem dX12_push_28 : decode cX12_push 28 = .ok (.invokevirtual 373, 3) := by decide +kernel
theorem dX12_push_31 : decode cX12_push 31 = .ok (.goto 6, 3) := by decide +kernel
theorem dX12_push_34 : decode cX12_push 34 = .ok (.ldc_w 417, 3) := by decide +kernel
theorem dX12_push_37 : decode cX12_push 37 = .ok (.ireturn, 1) := by decide +kernel
theorem dX12_remember_0 : decode cX12_remember 0 = .ok (.aload_n 0, 1) := by decide +kernel
theorem dX12_remember_1 : decode cX12_remember 1 = .ok (.getfield 324, 3) := by decide +kernel
theorem dX12_remember_4 : decode cX12_remember 4 = .ok (.bipush 40, 2) := by decide +kernel
theorem dX12_remember_6 : decode cX12_remember 6 = .ok (.if_icmp .ne 44, 3) := by decide +kernel
theorem dX12_remember_9 : decode cX12_remember 9 = .ok (.iconst 0, 1) := by decide +kernel
theorem dX12_remember_10 : decode cX12_remember 10 = .ok (.istore_n 1, 1) := by decide +kernel
theorem dX12_remember_11 : decode cX12_remember 11 = .ok (.iload_n 1, 1) := by decide +kernel
theorem dX12_remember_12 : decode cX12_remember 12 = .ok (.sipush 9438, 3) := by decide +kernel
theorem dX12_remember_15 : decode cX12_remember 15 = .ok (.if_icmp .ge 25, 3) := by decide +kernel
theorem dX12_remember_18 : decode cX12_remember 18 = .ok (.aload_n 0, 1) := by decide +kernel
theorem dX12_remember_19 : decode cX12_remember 19 = .ok (.getfield 87, 3) := by decide +kernel
theorem dX12_remember_22 : decode cX12_remember 22 = .ok (.iload_n 1, 1) := by decide +kernel
theorem dX12_remember_23 : decode cX12_remember 23 = .ok (.aload_n 0, 1) := by decide +kernel
theorem dX12_remember_24 : decode cX12_remember 24 = .ok (.getfield 87, 3) := by decide +kernel
theorem dX12_remember_27 : decode cX12_remember 27 = .ok (.iload_n 1, 1) := by decide +kernel
theorem dX12_remember_28 : decode cX12_remember 28 = .ok (.sipush 242, 3) := by decide +kernel
theorem dX12_remember_31 : decode cX12_remember 31 = .ok (.iadd, 1) := by decide +kernel
theorem dX12_remember_32 : decode cX12_remember 32 = .ok (.iaload, 1) := by decide +kernel
theorem dX12_remember_33 : decode cX12_remember 33 = .ok (.iastore, 1) := by decide +kernel
theorem dX12_remember_34 : decode cX12_remember 34 = .ok (.iinc 1 1, 3) := by decide +kernel
theorem dX12_remember_37 : decode cX12_remember 37 = .ok (.goto (-26), 3) := by decide +kernel
theorem dX12_remember_40 : decode cX12_remember 40 = .ok (.aload_n 0, 1) := by decide +kernel
theorem dX12_remember_41 : decode cX12_remember 41 = .ok (.dup, 1) := by decide +kernel
theorem dX12_remember_42 : decode cX12_remember 42 = .ok (.getfield 324, 3) := by decide +kernel
theorem dX12_remember_45 : decode cX12_remember 45 = .ok (.iconst 1, 1) := by decide +kernel
theorem dX12_remember_46 : decode cX12_remember 46 = .ok (.isub, 1) := by decide +kernel
theorem dX12_remember_47 : decode cX12_remember 47 = .ok (.putfield 324, 3) := by decide +kernel
theorem dX12_remember_50 : decode cX12_remember 50 = .ok (.iconst 0, 1) := by decide +kernel
theorem dX12_remember_51 : decode cX12_remember 51 = .ok (.istore_n 1, 1) := by decide +kernel
theorem dX12_remember_52 : decode cX12_remember 52 = .ok (.iload_n 1, 1) := by decide +kernel
theorem dX12_remember_53 : decode cX12_remember 53 = .ok (.sipush 242, 3) := by decide +kernel
theorem dX12_remember_56 : decode cX12_remember 56 = .ok (.if_icmp .ge 30, 3) := by decide +kernel
theorem dX12_remember_59 : decode cX12_remember 59 = .ok (.aload_n 0, 1) := by decide +kernel
theorem dX12_remember_60 : decode cX12_remember 60 = .ok (.getfield 87, 3) := by decide +kernel
theorem dX12_remember_63 : decode cX12_remember 63 = .ok (.sipush 242, 3) := by decide +kernel
theorem dX12_remember_66 : decode cX12_remember 66 = .ok (.aload_n 0, 1) := by decide +kernel
theorem dX12_remember_67 : decode cX12_remember 67 = .ok (.getfield 324, 3) := by decide +kernel
theorem dX12_remember_70 : decode cX12_remember 70 = .ok (.imul, 1) := by decide +kernel
theorem dX12_remember_71 : decode cX12_remember 71 = .ok (.iload_n 1, 1) := by decide +kernel
theorem dX12_remember_72 : decode cX12_remember 72 = .ok (.iadd, 1) := by decide +kernel
theorem dX12_remember_73 : decode cX12_remember 73 = .ok (.aload_n 0, 1) := by decide +kernel
theorem dX12_remember_74 : decode cX12_remember 74 = .ok (.getfield 61, 3) := by decide +kernel
theorem dX12_remember_77 : decode cX12_remember 77 = .ok (.iload_n 1, 1) := by decide +kernel
theorem dX12_remember_78 : decode cX12_remember 78 = .ok (.iaload, 1) := by decide +kernel
theorem dX12_remember_79 : decode cX12_remember 79 = .ok (.iastore, 1) := by decide +kernel
theorem dX12_remember_80 : decode cX12_remember 80 = .ok (.iinc 1 1, 3) := by decide +kernel
theorem dX12_remember_83 : decode cX12_remember 83 = .ok (.goto (-31), 3) := by decide +kernel
theorem dX12_remember_86 : decode cX12_remember 86 = .ok (.aload_n 0, 1) := by decide +kernel
theorem dX12_remember_87 : decode cX12_remember 87 = .ok (.dup, 1) := by decide +kernel
theorem dX12_remember_88 : decode cX12_remember 88 = .ok (.getfield 324, 3) := by decide +kernel
theorem dX12_remember_91 : decode cX12_remember 91 = .ok (.iconst 1, 1) := by decide +kernel
theorem dX12_remember_92 : decode cX12_remember 92 = .ok (.iadd, 1) := by decide +kernel
theorem dX12_remember_93 : decode cX12_remember 93 = .ok (.putfield 324, 3) := by decide +kernel
theorem dX12_remember_96 : decode cX12_remember 96 = .ok (.return_, 1) := by decide +kernel
theorem dX12_hoursFor_0 : decode cX12_hoursFor 0 = .ok (.iload_n 2, 1) := by decide +kernel
theorem dX12_hoursFor_1 : decode cX12_hoursFor 1 = .ok (.aload_n 0, 1) := by decide +kernel
theorem dX12_hoursFor_2 : decode cX12_hoursFor 2 = .ok (.iload_n 1, 1) := by decide +kernel
theorem dX12_hoursFor_3 : decode cX12_hoursFor 3 = .ok (.iconst 2, 1) := by decide +kernel
theorem dX12_hoursFor_4 : decode cX12_hoursFor 4 = .ok (.invokevirtual 364, 3) := by decide +kernel
theorem dX12_hoursFor_7 : decode cX12_hoursFor 7 = .ok (.iadd, 1) := by decide +kernel
theorem dX12_hoursFor_8 : decode cX12_hoursFor 8 = .ok (.iconst 1, 1) := by decide +kernel
theorem dX12_hoursFor_9 : decode cX12_hoursFor 9 = .ok (.isub, 1) := by decide +kernel
theorem dX12_hoursFor_10 : decode cX12_hoursFor 10 = .ok (.aload_n 0, 1) := by decide +kernel
theorem dX12_hoursFor_11 : decode cX12_hoursFor 11 = .ok (.iload_n 1, 1) := by decide +kernel
theorem dX12_hoursFor_12 : decode cX12_hoursFor 12 = .ok (.iconst 2, 1) := by decide +kernel
theorem dX12_hoursFor_13 : decode cX12_hoursFor 13 = .ok (.invokevirtual 364, 3) := by decide +kernel
theorem dX12_hoursFor_16 : decode cX12_hoursFor 16 = .ok (.idiv, 1) := by decide +kernel
theorem dX12_hoursFor_17 : decode cX12_hoursFor 17 = .ok (.ireturn, 1) := by decide +kernel
theorem dX12_canRow_0 : decode cX12_canRow 0 = .ok (.aload_n 0, 1) := by decide +kernel
theorem dX12_canRow_1 : decode cX12_canRow 1 = .ok (.iload_n 2, 1) := by decide +kernel
theorem dX12_canRow_2 : decode cX12_canRow 2 = .ok (.invokevirtual 412, 3) := by decide +kernel
theorem dX12_canRow_5 : decode cX12_canRow 5 = .ok (.ifCond .eq 53, 3) := by decide +kernel
theorem dX12_canRow_8 : decode cX12_canRow 8 = .ok (.iload_n 3, 1) := by decide +kernel
theorem dX12_canRow_9 : decode cX12_canRow 9 = .ok (.i2l, 1) := by decide +kernel
theorem dX12_canRow_10 : decode cX12_canRow 10 = .ok (.lconst 0, 1) := by decide +kernel
theorem dX12_canRow_11 : decode cX12_canRow 11 = .ok (.ldc2_w 418, 3) := by decide +kernel
theorem dX12_canRow_14 : decode cX12_canRow 14 = .ok (.invokestatic 232, 3) := by decide +kernel
theorem dX12_canRow_17 : decode cX12_canRow 17 = .ok (.ifCond .eq 41, 3) := by decide +kernel
theorem dX12_canRow_20 : decode cX12_canRow 20 = .ok (.iload 4, 2) := by decide +kernel
theorem dX12_canRow_22 : decode cX12_canRow 22 = .ok (.i2l, 1) := by decide +kernel
theorem dX12_canRow_23 : decode cX12_canRow 23 = .ok (.lconst 0, 1) := by decide +kernel
theorem dX12_canRow_24 : decode cX12_canRow 24 = .ok (.ldc2_w 418, 3) := by decide +kernel
theorem dX12_canRow_27 : decode cX12_canRow 27 = .ok (.invokestatic 232, 3) := by decide +kernel
theorem dX12_canRow_30 : decode cX12_canRow 30 = .ok (.ifCond .eq 28, 3) := by decide +kernel
theorem dX12_canRow_33 : decode cX12_canRow 33 = .ok (.aload_n 1, 1) := by decide +kernel
theorem dX12_canRow_34 : decode cX12_canRow 34 = .ok (.iload_n 2, 1) := by decide +kernel
theorem dX12_canRow_35 : decode cX12_canRow 35 = .ok (.iconst 2, 1) := by decide +kernel
theorem dX12_canRow_36 : decode cX12_canRow 36 = .ok (.invokestatic 330, 3) := by decide +kernel
theorem dX12_canRow_39 : decode cX12_canRow 39 = .ok (.iload_n 3, 1) := by decide +kernel
theorem dX12_canRow_40 : decode cX12_canRow 40 = .ok (.if_icmp .ne 14, 3) := by decide +kernel
theorem dX12_canRow_43 : decode cX12_canRow 43 = .ok (.aload_n 1, 1) := by decide +kernel
theorem dX12_canRow_44 : decode cX12_canRow 44 = .ok (.iload_n 2, 1) := by decide +kernel
theorem dX12_canRow_45 : decode cX12_canRow 45 = .ok (.iconst 3, 1) := by decide +kernel
theorem dX12_canRow_46 : decode cX12_canRow 46 = .ok (.invokestatic 330, 3) := by decide +kernel
theorem dX12_canRow_49 : decode cX12_canRow 49 = .ok (.iload 4, 2) := by decide +kernel
theorem dX12_canRow_51 : decode cX12_canRow 51 = .ok (.if_icmp .eq 7, 3) := by decide +kernel
theorem dX12_canRow_54 : decode cX12_canRow 54 = .ok (.iconst 1, 1) := by decide +kernel
theorem dX12_canRow_55 : decode cX12_canRow 55 = .ok (.goto 4, 3) := by decide +kernel
theorem dX12_canRow_58 : decode cX12_canRow 58 = .ok (.iconst 0, 1) := by decide +kernel
theorem dX12_canRow_59 : decode cX12_canRow 59 = .ok (.ireturn, 1) := by decide +kernel
theorem dX12_rows_0 : decode cX12_rows 0 = .ok (.aload_n 0, 1) := by decide +kernel
theorem dX12_rows_1 : decode cX12_rows 1 = .ok (.bipush 40, 2) := by decide +kernel
theorem dX12_rows_3 : decode cX12_rows 3 = .ok (.bipush 6, 2) := by decide +kernel
theorem dX12_rows_5 : decode cX12_rows 5 = .ok (.iload_n 1, 1) := by decide +kernel
theorem dX12_rows_6 : decode cX12_rows 6 = .ok (.imul, 1) := by decide +kernel
theorem dX12_rows_7 : decode cX12_rows 7 = .ok (.iadd, 1) := by decide +kernel
theorem dX12_rows_8 : decode cX12_rows 8 = .ok (.iconst 2, 1) := by decide +kernel
theorem dX12_rows_9 : decode cX12_rows 9 = .ok (.iadd, 1) := by decide +kernel
theorem dX12_rows_10 : decode cX12_rows 10 = .ok (.iload_n 2, 1) := by decide +kernel
theorem dX12_rows_11 : decode cX12_rows 11 = .ok (.iastore, 1) := by decide +kernel
theorem dX12_rows_12 : decode cX12_rows 12 = .ok (.aload_n 0, 1) := by decide +kernel
theorem dX12_rows_13 : decode cX12_rows 13 = .ok (.bipush 40, 2) := by decide +kernel
theorem dX12_rows_15 : decode cX12_rows 15 = .ok (.bipush 6, 2) := by decide +kernel
theorem dX12_rows_17 : decode cX12_rows 17 = .ok (.iload_n 1, 1) := by decide +kernel
theorem dX12_rows_18 : decode cX12_rows 18 = .ok (.imul, 1) := by decide +kernel
theorem dX12_rows_19 : decode cX12_rows 19 = .ok (.iadd, 1) := by decide +kernel
theorem dX12_rows_20 : decode cX12_rows 20 = .ok (.iconst 3, 1) := by decide +kernel
theorem dX12_rows_21 : decode cX12_rows 21 = .ok (.iadd, 1) := by decide +kernel
theorem dX12_rows_22 : decode cX12_rows 22 = .ok (.iload_n 3, 1) := by decide +kernel
theorem dX12_rows_23 : decode cX12_rows 23 = .ok (.iastore, 1) := by decide +kernel
theorem dX12_rows_24 : decode cX12_rows 24 = .ok (.return_, 1) := by decide +kernel
theorem dX12_row_0 : decode cX12_row 0 = .ok (.aload_n 0, 1) := by decide +kernel
theorem dX12_row_1 : decode cX12_row 1 = .ok (.iconst 0, 1) := by decide +kernel
theorem dX12_row_2 : decode cX12_row 2 = .ok (.putfield 111, 3) := by decide +kernel
theorem dX12_row_5 : decode cX12_row 5 = .ok (.aload_n 0, 1) := by decide +kernel
theorem dX12_row_6 : decode cX12_row 6 = .ok (.aload_n 0, 1) := by decide +kernel
theorem dX12_row_7 : decode cX12_row 7 = .ok (.getfield 61, 3) := by decide +kernel
theorem dX12_row_10 : decode cX12_row 10 = .ok (.iload_n 1, 1) := by decide +kernel
theorem dX12_row_11 : decode cX12_row 11 = .ok (.iload_n 2, 1) := by decide +kernel
theorem dX12_row_12 : decode cX12_row 12 = .ok (.iload_n 3, 1) := by decide +kernel
theorem dX12_row_13 : decode cX12_row 13 = .ok (.invokevirtual 420, 3) := by decide +kernel
theorem dX12_row_16 : decode cX12_row 16 = .ok (.ifCond .ne 5, 3) := by decide +kernel
theorem dX12_row_19 : decode cX12_row 19 = .ok (.iconst (-1), 1) := by decide +kernel
theorem dX12_row_20 : decode cX12_row 20 = .ok (.ireturn, 1) := by decide +kernel
theorem dX12_row_21 : decode cX12_row 21 = .ok (.aload_n 0, 1) := by decide +kernel
theorem dX12_row_22 : decode cX12_row 22 = .ok (.invokevirtual 424, 3) := by decide +kernel
theorem dX12_row_25 : decode cX12_row 25 = .ok (.aload_n 0, 1) := by decide +kernel
theorem dX12_row_26 : decode cX12_row 26 = .ok (.getfield 61, 3) := by decide +kernel
theorem dX12_row_29 : decode cX12_row 29 = .ok (.iload_n 1, 1) := by decide +kernel
theorem dX12_row_30 : decode cX12_row 30 = .ok (.iload_n 2, 1) := by decide +kernel
theorem dX12_row_31 : decode cX12_row 31 = .ok (.iload_n 3, 1) := by decide +kernel
theorem dX12_row_32 : decode cX12_row 32 = .ok (.invokestatic 427, 3) := by decide +kernel
theorem dX12_row_35 : decode cX12_row 35 = .ok (.aload_n 0, 1) := by decide +kernel
theorem dX12_row_36 : decode cX12_row 36 = .ok (.iload_n 1, 1) := by decide +kernel
theorem dX12_row_37 : decode cX12_row 37 = .ok (.aload_n 0, 1) := by decide +kernel
theorem dX12_row_38 : decode cX12_row 38 = .ok (.aload_n 0, 1) := by decide +kernel
theorem dX12_row_39 : decode cX12_row 39 = .ok (.getfield 61, 3) := by decide +kernel
theorem dX12_row_42 : decode cX12_row 42 = .ok (.iload_n 1, 1) := by decide +kernel
theorem dX12_row_43 : decode cX12_row 43 = .ok (.iload_n 2, 1) := by decide +kernel
theorem dX12_row_44 : decode cX12_row 44 = .ok (.iload_n 3, 1) := by decide +kernel
theorem dX12_row_45 : decode cX12_row 45 = .ok (.invokevirtual 337, 3) := by decide +kernel
theorem dX12_row_48 : decode cX12_row 48 = .ok (.invokevirtual 431, 3) := by decide +kernel
theorem dX12_row_51 : decode cX12_row 51 = .ok (.ireturn, 1) := by decide +kernel
theorem dX12_canSing_0 : decode cX12_canSing 0 = .ok (.aload_n 0, 1) := by decide +kernel
theorem dX12_canSing_1 : decode cX12_canSing 1 = .ok (.iload_n 2, 1) := by decide +kernel
theorem dX12_canSing_2 : decode cX12_canSing 2 = .ok (.invokevirtual 412, 3) := by decide +kernel
theorem dX12_canSing_5 : decode cX12_canSing 5 = .ok (.ifCond .eq 38, 3) := by decide +kernel
theorem dX12_canSing_8 : decode cX12_canSing 8 = .ok (.aload_n 0, 1) := by decide +kernel
theorem dX12_canSing_9 : decode cX12_canSing 9 = .ok (.iload_n 3, 1) := by decide +kernel
theorem dX12_canSing_10 : decode cX12_canSing 10 = .ok (.invokevirtual 407, 3) := by decide +kernel
theorem dX12_canSing_13 : decode cX12_canSing 13 = .ok (.ifCond .eq 30, 3) := by decide +kernel
theorem dX12_canSing_16 : decode cX12_canSing 16 = .ok (.aload_n 0, 1) := by decide +kernel
theorem dX12_canSing_17 : decode cX12_canSing 17 = .ok (.aload_n 1, 1) := by decide +kernel
theorem dX12_canSing_18 : decode cX12_canSing 18 = .ok (.iload_n 2, 1) := by decide +kernel
theorem dX12_canSing_19 : decode cX12_canSing 19 = .ok (.iload_n 3, 1) := by decide +kernel
theorem dX12_canSing_20 : decode cX12_canSing 20 = .ok (.invokevirtual 370, 3) := by decide +kernel
theorem dX12_canSing_23 : decode cX12_canSing 23 = .ok (.iconst 1, 1) := by decide +kernel
theorem dX12_canSing_24 : decode cX12_canSing 24 = .ok (.if_icmp .gt 19, 3) := by decide +kernel
theorem dX12_canSing_27 : decode cX12_canSing 27 = .ok (.aload_n 1, 1) := by decide +kernel
theorem dX12_canSing_28 : decode cX12_canSing 28 = .ok (.iconst 5, 1) := by decide +kernel
theorem dX12_canSing_29 : decode cX12_canSing 29 = .ok (.iload_n 3, 1) := by decide +kernel
theorem dX12_canSing_30 : decode cX12_canSing 30 = .ok (.imul, 1) := by decide +kernel
theorem dX12_canSing_31 : decode cX12_canSing 31 = .ok (.iload_n 2, 1) := by decide +kernel
theorem dX12_canSing_32 : decode cX12_canSing 32 = .ok (.iadd, 1) := by decide +kernel
theorem dX12_canSing_33 : decode cX12_canSing 33 = .ok (.iaload, 1) := by decide +kernel
theorem dX12_canSing_34 : decode cX12_canSing 34 = .ok (.bipush 9, 2) := by decide +kernel
theorem dX12_canSing_36 : decode cX12_canSing 36 = .ok (.if_icmp .ge 7, 3) := by decide +kernel
theorem dX12_canSing_39 : decode cX12_canSing 39 = .ok (.iconst 1, 1) := by decide +kernel
theorem dX12_canSing_40 : decode cX12_canSing 40 = .ok (.goto 4, 3) := by decide +kernel
theorem dX12_canSing_43 : decode cX12_canSing 43 = .ok (.iconst 0, 1) := by decide +kernel
theorem dX12_canSing_44 : decode cX12_canSing 44 = .ok (.ireturn, 1) := by decide +kernel
theorem dX12_sings_0 : decode cX12_sings 0 = .ok (.aload_n 0, 1) := by decide +kernel
theorem dX12_sings_1 : decode cX12_sings 1 = .ok (.iconst 5, 1) := by decide +kernel
theorem dX12_sings_2 : decode cX12_sings 2 = .ok (.iload_n 2, 1) := by decide +kernel
theorem dX12_sings_3 : decode cX12_sings 3 = .ok (.imul, 1) := by decide +kernel
theorem dX12_sings_4 : decode cX12_sings 4 = .ok (.iload_n 1, 1) := by decide +kernel
theorem dX12_sings_5 : decode cX12_sings 5 = .ok (.iadd, 1) := by decide +kernel
theorem dX12_sings_6 : decode cX12_sings 6 = .ok (.dup2, 1) := by decide +kernel
theorem dX12_sings_7 : decode cX12_sings 7 = .ok (.iaload, 1) := by decide +kernel
theorem dX12_sings_8 : decode cX12_sings 8 = .ok (.iconst 1, 1) := by decide +kernel
theorem dX12_sings_9 : decode cX12_sings 9 = .ok (.iadd, 1) := by decide +kernel
theorem dX12_sings_10 : decode cX12_sings 10 = .ok (.iastore, 1) := by decide +kernel
theorem dX12_sings_11 : decode cX12_sings 11 = .ok (.aload_n 0, 1) := by decide +kernel
theorem dX12_sings_12 : decode cX12_sings 12 = .ok (.bipush 40, 2) := by decide +kernel
theorem dX12_sings_14 : decode cX12_sings 14 = .ok (.bipush 6, 2) := by decide +kernel
theorem dX12_sings_16 : decode cX12_sings 16 = .ok (.iload_n 1, 1) := by decide +kernel
theorem dX12_sings_17 : decode cX12_sings 17 = .ok (.imul, 1) := by decide +kernel
theorem dX12_sings_18 : decode cX12_sings 18 = .ok (.iadd, 1) := by decide +kernel
theorem dX12_sings_19 : decode cX12_sings 19 = .ok (.iconst 5, 1) := by decide +kernel
theorem dX12_sings_20 : decode cX12_sings 20 = .ok (.iadd, 1) := by decide +kernel
theorem dX12_sings_21 : decode cX12_sings 21 = .ok (.dup2, 1) := by decide +kernel
theorem dX12_sings_22 : decode cX12_sings 22 = .ok (.iaload, 1) := by decide +kernel
theorem dX12_sings_23 : decode cX12_sings 23 = .ok (.iconst 1, 1) := by decide +kernel
theorem dX12_sings_24 : decode cX12_sings 24 = .ok (.iadd, 1) := by decide +kernel
theorem dX12_sings_25 : decode cX12_sings 25 = .ok (.iastore, 1) := by decide +kernel
theorem dX12_sings_26 : decode cX12_sings 26 = .ok (.return_, 1) := by decide +kernel
theorem dX12_sing_0 : decode cX12_sing 0 = .ok (.aload_n 0, 1) := by decide +kernel
theorem dX12_sing_1 : decode cX12_sing 1 = .ok (.iconst 0, 1) := by decide +kernel
theorem dX12_sing_2 : decode cX12_sing 2 = .ok (.putfield 111, 3) := by decide +kernel
theorem dX12_sing_5 : decode cX12_sing 5 = .ok (.aload_n 0, 1) := by decide +kernel
theorem dX12_sing_6 : decode cX12_sing 6 = .ok (.aload_n 0, 1) := by decide +kernel
theorem dX12_sing_7 : decode cX12_sing 7 = .ok (.getfield 61, 3) := by decide +kernel
theorem dX12_sing_10 : decode cX12_sing 10 = .ok (.iload_n 1, 1) := by decide +kernel
theorem dX12_sing_11 : decode cX12_sing 11 = .ok (.iload_n 2, 1) := by decide +kernel
theorem dX12_sing_12 : decode cX12_sing 12 = .ok (.invokevirtual 434, 3) := by decide +kernel
theorem dX12_sing_15 : decode cX12_sing 15 = .ok (.ifCond .ne 5, 3) := by decide +kernel
theorem dX12_sing_18 : decode cX12_sing 18 = .ok (.iconst (-1), 1) := by decide +kernel
theorem dX12_sing_19 : decode cX12_sing 19 = .ok (.ireturn, 1) := by decide +kernel
theorem dX12_sing_20 : decode cX12_sing 20 = .ok (.aload_n 0, 1) := by decide +kernel
theorem dX12_sing_21 : decode cX12_sing 21 = .ok (.invokevirtual 424, 3) := by decide +kernel
theorem dX12_sing_24 : decode cX12_sing 24 = .ok (.aload_n 0, 1) := by decide +kernel
theorem dX12_sing_25 : decode cX12_sing 25 = .ok (.getfield 61, 3) := by decide +kernel
theorem dX12_sing_28 : decode cX12_sing 28 = .ok (.iload_n 1, 1) := by decide +kernel
theorem dX12_sing_29 : decode cX12_sing 29 = .ok (.iload_n 2, 1) := by decide +kernel
theorem dX12_sing_30 : decode cX12_sing 30 = .ok (.invokestatic 438, 3) := by decide +kernel
theorem dX12_sing_33 : decode cX12_sing 33 = .ok (.aload_n 0, 1) := by decide +kernel
theorem dX12_sing_34 : decode cX12_sing 34 = .ok (.getfield 61, 3) := by decide +kernel
theorem dX12_sing_37 : decode cX12_sing 37 = .ok (.iconst 5, 1) := by decide +kernel
theorem dX12_sing_38 : decode cX12_sing 38 = .ok (.iload_n 2, 1) := by decide +kernel
theorem dX12_sing_39 : decode cX12_sing 39 = .ok (.imul, 1) := by decide +kernel
theorem dX12_sing_40 : decode cX12_sing 40 = .ok (.iload_n 1, 1) := by decide +kernel
theorem dX12_sing_41 : decode cX12_sing 41 = .ok (.iadd, 1) := by decide +kernel
theorem dX12_sing_42 : decode cX12_sing 42 = .ok (.iaload, 1) := by decide +kernel
theorem dX12_sing_43 : decode cX12_sing 43 = .ok (.ireturn, 1) := by decide +kernel
theorem dX12_canScrape_0 : decode cX12_canScrape 0 = .ok (.aload_n 0, 1) := by decide +kernel
theorem dX12_canScrape_1 : decode cX12_canScrape 1 = .ok (.iload_n 2, 1) := by decide +kernel
theorem dX12_canScrape_2 : decode cX12_canScrape 2 = .ok (.invokevirtual 412, 3) := by decide +kernel
theorem dX12_canScrape_5 : decode cX12_canScrape 5 = .ok (.ifCond .eq 36, 3) := by decide +kernel
theorem dX12_canScrape_8 : decode cX12_canScrape 8 = .ok (.aload_n 0, 1) := by decide +kernel
theorem dX12_canScrape_9 : decode cX12_canScrape 9 = .ok (.iload_n 3, 1) := by decide +kernel
theorem dX12_canScrape_10 : decode cX12_canScrape 10 = .ok (.invokevirtual 407, 3) := by decide +kernel
theorem dX12_canScrape_13 : decode cX12_canScrape 13 = .ok (.ifCond .eq 28, 3) := by decide +kernel
theorem dX12_canScrape_16 : decode cX12_canScrape 16 = .ok (.aload_n 0, 1) := by decide +kernel
theorem dX12_canScrape_17 : decode cX12_canScrape 17 = .ok (.aload_n 1, 1) := by decide +kernel
theorem dX12_canScrape_18 : decode cX12_canScrape 18 = .ok (.iload_n 2, 1) := by decide +kernel
theorem dX12_canScrape_19 : decode cX12_canScrape 19 = .ok (.iload_n 3, 1) := by decide +kernel
theorem dX12_canScrape_20 : decode cX12_canScrape 20 = .ok (.invokevirtual 370, 3) := by decide +kernel
theorem dX12_canScrape_23 : decode cX12_canScrape 23 = .ok (.iconst 1, 1) := by decide +kernel
theorem dX12_canScrape_24 : decode cX12_canScrape 24 = .ok (.if_icmp .gt 17, 3) := by decide +kernel
theorem dX12_canScrape_27 : decode cX12_canScrape 27 = .ok (.aload_n 1, 1) := by decide +kernel
theorem dX12_canScrape_28 : decode cX12_canScrape 28 = .ok (.iconst 5, 1) := by decide +kernel
theorem dX12_canScrape_29 : decode cX12_canScrape 29 = .ok (.iload_n 3, 1) := by decide +kernel
theorem dX12_canScrape_30 : decode cX12_canScrape 30 = .ok (.imul, 1) := by decide +kernel
theorem dX12_canScrape_31 : decode cX12_canScrape 31 = .ok (.iconst 4, 1) := by decide +kernel
theorem dX12_canScrape_32 : decode cX12_canScrape 32 = .ok (.iadd, 1) := by decide +kernel
theorem dX12_canScrape_33 : decode cX12_canScrape 33 = .ok (.iaload, 1) := by decide +kernel
theorem dX12_canScrape_34 : decode cX12_canScrape 34 = .ok (.ifCond .le 7, 3) := by decide +kernel
theorem dX12_canScrape_37 : decode cX12_canScrape 37 = .ok (.iconst 1, 1) := by decide +kernel
theorem dX12_canScrape_38 : decode cX12_canScrape 38 = .ok (.goto 4, 3) := by decide +kernel
theorem dX12_canScrape_41 : decode cX12_canScrape 41 = .ok (.iconst 0, 1) := by decide +kernel
theorem dX12_canScrape_42 : decode cX12_canScrape 42 = .ok (.ireturn, 1) := by decide +kernel
theorem dX12_scrape_0 : decode cX12_scrape 0 = .ok (.aload_n 0, 1) := by decide +kernel
theorem dX12_scrape_1 : decode cX12_scrape 1 = .ok (.iconst 0, 1) := by decide +kernel
theorem dX12_scrape_2 : decode cX12_scrape 2 = .ok (.putfield 111, 3) := by decide +kernel
theorem dX12_scrape_5 : decode cX12_scrape 5 = .ok (.aload_n 0, 1) := by decide +kernel
theorem dX12_scrape_6 : decode cX12_scrape 6 = .ok (.aload_n 0, 1) := by decide +kernel
theorem dX12_scrape_7 : decode cX12_scrape 7 = .ok (.getfield 61, 3) := by decide +kernel
theorem dX12_scrape_10 : decode cX12_scrape 10 = .ok (.iload_n 1, 1) := by decide +kernel
theorem dX12_scrape_11 : decode cX12_scrape 11 = .ok (.iload_n 2, 1) := by decide +kernel
theorem dX12_scrape_12 : decode cX12_scrape 12 = .ok (.invokevirtual 442, 3) := by decide +kernel
theorem dX12_scrape_15 : decode cX12_scrape 15 = .ok (.ifCond .ne 5, 3) := by decide +kernel
theorem dX12_scrape_18 : decode cX12_scrape 18 = .ok (.iconst (-1), 1) := by decide +kernel
theorem dX12_scrape_19 : decode cX12_scrape 19 = .ok (.ireturn, 1) := by decide +kernel
theorem dX12_scrape_20 : decode cX12_scrape 20 = .ok (.aload_n 0, 1) := by decide +kernel
theorem dX12_scrape_21 : decode cX12_scrape 21 = .ok (.invokevirtual 424, 3) := by decide +kernel
theorem dX12_scrape_24 : decode cX12_scrape 24 = .ok (.aload_n 0, 1) := by decide +kernel
theorem dX12_scrape_25 : decode cX12_scrape 25 = .ok (.getfield 61, 3) := by decide +kernel
theorem dX12_scrape_28 : decode cX12_scrape 28 = .ok (.iconst 5, 1) := by decide +kernel
theorem dX12_scrape_29 : decode cX12_scrape 29 = .ok (.iload_n 2, 1) := by decide +kernel
theorem dX12_scrape_30 : decode cX12_scrape 30 = .ok (.imul, 1) := by decide +kernel
theorem dX12_scrape_31 : decode cX12_scrape 31 = .ok (.iconst 4, 1) := by decide +kernel
theorem dX12_scrape_32 : decode cX12_scrape 32 = .ok (.iadd, 1) := by decide +kernel
theorem dX12_scrape_33 : decode cX12_scrape 33 = .ok (.dup2, 1) := by decide +kernel
theorem dX12_scrape_34 : decode cX12_scrape 34 = .ok (.iaload, 1) := by decide +kernel
theorem dX12_scrape_35 : decode cX12_scrape 35 = .ok (.iconst 1, 1) := by decide +kernel
theorem dX12_scrape_36 : decode cX12_scrape 36 = .ok (.isub, 1) := by decide +kernel
theorem dX12_scrape_37 : decode cX12_scrape 37 = .ok (.iastore, 1) := by decide +kernel
theorem dX12_scrape_38 : decode cX12_scrape 38 = .ok (.aload_n 0, 1) := by decide +kernel
theorem dX12_scrape_39 : decode cX12_scrape 39 = .ok (.getfield 61, 3) := by decide +kernel
theorem dX12_scrape_42 : decode cX12_scrape 42 = .ok (.iconst 5, 1) := by decide +kernel
theorem dX12_scrape_43 : decode cX12_scrape 43 = .ok (.iload_n 2, 1) := by decide +kernel
theorem dX12_scrape_44 : decode cX12_scrape 44 = .ok (.imul, 1) := by decide +kernel
theorem dX12_scrape_45 : decode cX12_scrape 45 = .ok (.iconst 4, 1) := by decide +kernel
theorem dX12_scrape_46 : decode cX12_scrape 46 = .ok (.iadd, 1) := by decide +kernel
theorem dX12_scrape_47 : decode cX12_scrape 47 = .ok (.iaload, 1) := by decide +kernel
theorem dX12_scrape_48 : decode cX12_scrape 48 = .ok (.ireturn, 1) := by decide +kernel
theorem dX12_wind_0 : decode cX12_wind 0 = .ok (.aload_n 0, 1) := by decide +kernel
theorem dX12_wind_1 : decode cX12_wind 1 = .ok (.iconst 0, 1) := by decide +kernel
theorem dX12_wind_2 : decode cX12_wind 2 = .ok (.putfield 111, 3) := by decide +kernel
theorem dX12_wind_5 : decode cX12_wind 5 = .ok (.aload_n 0, 1) := by decide +kernel
theorem dX12_wind_6 : decode cX12_wind 6 = .ok (.getfield 309, 3) := by decide +kernel
theorem dX12_wind_9 : decode cX12_wind 9 = .ok (.ifCond .eq 49, 3) := by decide +kernel
theorem dX12_wind_12 : decode cX12_wind 12 = .ok (.iload_n 1, 1) := by decide +kernel
theorem dX12_wind_13 : decode cX12_wind 13 = .ok (.i2l, 1) := by decide +kernel
theorem dX12_wind_14 : decode cX12_wind 14 = .ok (.lconst 0, 1) := by decide +kernel
theorem dX12_wind_15 : decode cX12_wind 15 = .ok (.ldc2_w 418, 3) := by decide +kernel
theorem dX12_wind_18 : decode cX12_wind 18 = .ok (.invokestatic 232, 3) := by decide +kernel
theorem dX12_wind_21 : decode cX12_wind 21 = .ok (.ifCond .eq 37, 3) := by decide +kernel
theorem dX12_wind_24 : decode cX12_wind 24 = .ok (.iload_n 2, 1) := by decide +kernel
theorem dX12_wind_25 : decode cX12_wind 25 = .ok (.i2l, 1) := by decide +kernel
theorem dX12_wind_26 : decode cX12_wind 26 = .ok (.lconst 0, 1) := by decide +kernel
theorem dX12_wind_27 : decode cX12_wind 27 = .ok (.ldc2_w 445, 3) := by decide +kernel
theorem dX12_wind_30 : decode cX12_wind 30 = .ok (.invokestatic 232, 3) := by decide +kernel
theorem dX12_wind_33 : decode cX12_wind 33 = .ok (.ifCond .eq 25, 3) := by decide +kernel
theorem dX12_wind_36 : decode cX12_wind 36 = .ok (.aload_n 0, 1) := by decide +kernel
theorem dX12_wind_37 : decode cX12_wind 37 = .ok (.getfield 61, 3) := by decide +kernel
theorem dX12_wind_40 : decode cX12_wind 40 = .ok (.bipush 58, 2) := by decide +kernel
theorem dX12_wind_42 : decode cX12_wind 42 = .ok (.iaload, 1) := by decide +kernel
theorem dX12_wind_43 : decode cX12_wind 43 = .ok (.iload_n 1, 1) := by decide +kernel
theorem dX12_wind_44 : decode cX12_wind 44 = .ok (.if_icmp .ne 16, 3) := by decide +kernel
theorem dX12_wind_47 : decode cX12_wind 47 = .ok (.aload_n 0, 1) := by decide +kernel
theorem dX12_wind_48 : decode cX12_wind 48 = .ok (.getfield 61, 3) := by decide +kernel
theorem dX12_wind_51 : decode cX12_wind 51 = .ok (.bipush 59, 2) := by decide +kernel
theorem dX12_wind_53 : decode cX12_wind 53 = .ok (.iaload, 1) := by decide +kernel
theorem dX12_wind_54 : decode cX12_wind 54 = .ok (.iload_n 2, 1) := by decide +kernel
theorem dX12_wind_55 : decode cX12_wind 55 = .ok (.if_icmp .ne 5, 3) := by decide +kernel
theorem dX12_wind_58 : decode cX12_wind 58 = .ok (.iconst 0, 1) := by decide +kernel
theorem dX12_wind_59 : decode cX12_wind 59 = .ok (.ireturn, 1) := by decide +kernel
theorem dX12_wind_60 : decode cX12_wind 60 = .ok (.aload_n 0, 1) := by decide +kernel
theorem dX12_wind_61 : decode cX12_wind 61 = .ok (.invokevirtual 424, 3) := by decide +kernel
theorem dX12_wind_64 : decode cX12_wind 64 = .ok (.aload_n 0, 1) := by decide +kernel
theorem dX12_wind_65 : decode cX12_wind 65 = .ok (.getfield 61, 3) := by decide +kernel
theorem dX12_wind_68 : decode cX12_wind 68 = .ok (.bipush 58, 2) := by decide +kernel
theorem dX12_wind_70 : decode cX12_wind 70 = .ok (.iload_n 1, 1) := by decide +kernel
theorem dX12_wind_71 : decode cX12_wind 71 = .ok (.iastore, 1) := by decide +kernel
theorem dX12_wind_72 : decode cX12_wind 72 = .ok (.aload_n 0, 1) := by decide +kernel
theorem dX12_wind_73 : decode cX12_wind 73 = .ok (.getfield 61, 3) := by decide +kernel
theorem dX12_wind_76 : decode cX12_wind 76 = .ok (.bipush 59, 2) := by decide +kernel
theorem dX12_wind_78 : decode cX12_wind 78 = .ok (.iload_n 2, 1) := by decide +kernel
theorem dX12_wind_79 : decode cX12_wind 79 = .ok (.iastore, 1) := by decide +kernel
theorem dX12_wind_80 : decode cX12_wind 80 = .ok (.iconst 1, 1) := by decide +kernel
theorem dX12_wind_81 : decode cX12_wind 81 = .ok (.ireturn, 1) := by decide +kernel
theorem dX12_mayPass_0 : decode cX12_mayPass 0 = .ok (.aload_n 0, 1) := by decide +kernel
theorem dX12_mayPass_1 : decode cX12_mayPass 1 = .ok (.getfield 309, 3) := by decide +kernel
theorem dX12_mayPass_4 : decode cX12_mayPass 4 = .ok (.ifCond .le 30, 3) := by decide +kernel
theorem dX12_mayPass_7 : decode cX12_mayPass 7 = .ok (.iload_n 2, 1) := by decide +kernel
theorem dX12_mayPass_8 : decode cX12_mayPass 8 = .ok (.i2l, 1) := by decide +kernel
theorem dX12_mayPass_9 : decode cX12_mayPass 9 = .ok (.lconst 1, 1) := by decide +kernel
theorem dX12_mayPass_10 : decode cX12_mayPass 10 = .ok (.iload_n 3, 1) := by decide +kernel
theorem dX12_mayPass_11 : decode cX12_mayPass 11 = .ok (.i2l, 1) := by decide +kernel
theorem dX12_mayPass_12 : decode cX12_mayPass 12 = .ok (.invokestatic 232, 3) := by decide +kernel
theorem dX12_mayPass_15 : decode cX12_mayPass 15 = .ok (.ifCond .eq 19, 3) := by decide +kernel
theorem dX12_mayPass_18 : decode cX12_mayPass 18 = .ok (.aload_n 1, 1) := by decide +kernel
theorem dX12_mayPass_19 : decode cX12_mayPass 19 = .ok (.bipush 60, 2) := by decide +kernel
theorem dX12_mayPass_21 : decode cX12_mayPass 21 = .ok (.iaload, 1) := by decide +kernel
theorem dX12_mayPass_22 : decode cX12_mayPass 22 = .ok (.iload_n 2, 1) := by decide +kernel
theorem dX12_mayPass_23 : decode cX12_mayPass 23 = .ok (.iadd, 1) := by decide +kernel
theorem dX12_mayPass_24 : decode cX12_mayPass 24 = .ok (.sipush 9999, 3) := by decide +kernel
theorem dX12_mayPass_27 : decode cX12_mayPass 27 = .ok (.if_icmp .gt 7, 3) := by decide +kernel
theorem dX12_mayPass_30 : decode cX12_mayPass 30 = .ok (.iconst 1, 1) := by decide +kernel
theorem dX12_mayPass_31 : decode cX12_mayPass 31 = .ok (.goto 4, 3) := by decide +kernel
theorem dX12_mayPass_34 : decode cX12_mayPass 34 = .ok (.iconst 0, 1) := by decide +kernel
theorem dX12_mayPass_35 : decode cX12_mayPass 35 = .ok (.ireturn, 1) := by decide +kernel
theorem dX12_hours_0 : decode cX12_hours 0 = .ok (.aload_n 0, 1) := by decide +kernel
theorem dX12_hours_1 : decode cX12_hours 1 = .ok (.iconst 0, 1) := by decide +kernel
theorem dX12_hours_2 : decode cX12_hours 2 = .ok (.putfield 111, 3) := by decide +kernel
theorem dX12_hours_5 : decode cX12_hours 5 = .ok (.aload_n 0, 1) := by decide +kernel
theorem dX12_hours_6 : decode cX12_hours 6 = .ok (.aload_n 0, 1) := by decide +kernel
theorem dX12_hours_7 : decode cX12_hours 7 = .ok (.getfield 61, 3) := by decide +kernel
theorem dX12_hours_10 : decode cX12_hours 10 = .ok (.iload_n 1, 1) := by decide +kernel
theorem dX12_hours_11 : decode cX12_hours 11 = .ok (.bipush 60, 2) := by decide +kernel
theorem dX12_hours_13 : decode cX12_hours 13 = .ok (.invokevirtual 447, 3) := by decide +kernel
theorem dX12_hours_16 : decode cX12_hours 16 = .ok (.ifCond .ne 5, 3) := by decide +kernel
theorem dX12_hours_19 : decode cX12_hours 19 = .ok (.iconst (-1), 1) := by decide +kernel
theorem dX12_hours_20 : decode cX12_hours 20 = .ok (.ireturn, 1) := by decide +kernel
theorem dX12_hours_21 : decode cX12_hours 21 = .ok (.iconst 0, 1) := by decide +kernel
theorem dX12_hours_22 : decode cX12_hours 22 = .ok (.istore_n 2, 1) := by decide +kernel
theorem dX12_hours_23 : decode cX12_hours 23 = .ok (.iload_n 2, 1) := by decide +kernel
theorem dX12_hours_24 : decode cX12_hours 24 = .ok (.iload_n 1, 1) := by decide +kernel
theorem dX12_hours_25 : decode cX12_hours 25 = .ok (.if_icmp .ge 21, 3) := by decide +kernel
theorem dX12_hours_28 : decode cX12_hours 28 = .ok (.aload_n 0, 1) := by decide +kernel
theorem dX12_hours_29 : decode cX12_hours 29 = .ok (.invokevirtual 424, 3) := by decide +kernel
theorem dX12_hours_32 : decode cX12_hours 32 = .ok (.aload_n 0, 1) := by decide +kernel
theorem dX12_hours_33 : decode cX12_hours 33 = .ok (.aload_n 0, 1) := by decide +kernel
theorem dX12_hours_34 : decode cX12_hours 34 = .ok (.getfield 61, 3) := by decide +kernel
theorem dX12_hours_37 : decode cX12_hours 37 = .ok (.invokevirtual 450, 3) := by decide +kernel
theorem dX12_hours_40 : decode cX12_hours 40 = .ok (.iinc 2 1, 3) := by decide +kernel
theorem dX12_hours_43 : decode cX12_hours 43 = .ok (.goto (-20), 3) := by decide +kernel
theorem dX12_hours_46 : decode cX12_hours 46 = .ok (.aload_n 0, 1) := by decide +kernel
theorem dX12_hours_47 : decode cX12_hours 47 = .ok (.getfield 61, 3) := by decide +kernel
theorem dX12_hours_50 : decode cX12_hours 50 = .ok (.bipush 60, 2) := by decide +kernel
theorem dX12_hours_52 : decode cX12_hours 52 = .ok (.iaload, 1) := by decide +kernel
theorem dX12_hours_53 : decode cX12_hours 53 = .ok (.ireturn, 1) := by decide +kernel
theorem dX12_draw_0 : decode cX12_draw 0 = .ok (.aload_n 0, 1) := by decide +kernel
theorem dX12_draw_1 : decode cX12_draw 1 = .ok (.aload_n 0, 1) := by decide +kernel
theorem dX12_draw_2 : decode cX12_draw 2 = .ok (.getfield 454, 3) := by decide +kernel
theorem dX12_draw_5 : decode cX12_draw 5 = .ok (.ldc2_w 458, 3) := by decide +kernel
theorem dX12_draw_8 : decode cX12_draw 8 = .ok (.lmul, 1) := by decide +kernel
theorem dX12_draw_9 : decode cX12_draw 9 = .ok (.ldc2_w 460, 3) := by decide +kernel
theorem dX12_draw_12 : decode cX12_draw 12 = .ok (.ladd, 1) := by decide +kernel
theorem dX12_draw_13 : decode cX12_draw 13 = .ok (.putfield 454, 3) := by decide +kernel
theorem dX12_draw_16 : decode cX12_draw 16 = .ok (.aload_n 0, 1) := by decide +kernel
theorem dX12_draw_17 : decode cX12_draw 17 = .ok (.getfield 454, 3) := by decide +kernel
theorem dX12_draw_20 : decode cX12_draw 20 = .ok (.bipush 33, 2) := by decide +kernel
theorem dX12_draw_22 : decode cX12_draw 22 = .ok (.lushr, 1) := by decide +kernel
theorem dX12_draw_23 : decode cX12_draw 23 = .ok (.iload_n 1, 1) := by decide +kernel
theorem dX12_draw_24 : decode cX12_draw 24 = .ok (.i2l, 1) := by decide +kernel
theorem dX12_draw_25 : decode cX12_draw 25 = .ok (.lrem, 1) := by decide +kernel
theorem dX12_draw_26 : decode cX12_draw 26 = .ok (.l2i, 1) := by decide +kernel
theorem dX12_draw_27 : decode cX12_draw 27 = .ok (.ireturn, 1) := by decide +kernel
theorem dX12_years_0 : decode cX12_years 0 = .ok (.aload_n 0, 1) := by decide +kernel
theorem dX12_years_1 : decode cX12_years 1 = .ok (.iconst 0, 1) := by decide +kernel
theorem dX12_years_2 : decode cX12_years 2 = .ok (.putfield 111, 3) := by decide +kernel
theorem dX12_years_5 : decode cX12_years 5 = .ok (.aload_n 0, 1) := by decide +kernel
theorem dX12_years_6 : decode cX12_years 6 = .ok (.aload_n 0, 1) := by decide +kernel
theorem dX12_years_7 : decode cX12_years 7 = .ok (.getfield 61, 3) := by decide +kernel
theorem dX12_years_10 : decode cX12_years 10 = .ok (.iload_n 1, 1) := by decide +kernel
theorem dX12_years_11 : decode cX12_years 11 = .ok (.bipush 60, 2) := by decide +kernel
theorem dX12_years_13 : decode cX12_years 13 = .ok (.invokevirtual 447, 3) := by decide +kernel
theorem dX12_years_16 : decode cX12_years 16 = .ok (.ifCond .ne 5, 3) := by decide +kernel
theorem dX12_years_19 : decode cX12_years 19 = .ok (.iconst (-1), 1) := by decide +kernel
theorem dX12_years_20 : decode cX12_years 20 = .ok (.ireturn, 1) := by decide +kernel
theorem dX12_years_21 : decode cX12_years 21 = .ok (.aload_n 0, 1) := by decide +kernel
theorem dX12_years_22 : decode cX12_years 22 = .ok (.lload_n 2, 1) := by decide +kernel
theorem dX12_years_23 : decode cX12_years 23 = .ok (.putfield 454, 3) := by decide +kernel
theorem dX12_years_26 : decode cX12_years 26 = .ok (.iconst 0, 1) := by decide +kernel
theorem dX12_years_27 : decode cX12_years 27 = .ok (.istore 4, 2) := by decide +kernel
theorem dX12_years_29 : decode cX12_years 29 = .ok (.iload 4, 2) := by decide +kernel
theorem dX12_years_31 : decode cX12_years 31 = .ok (.iload_n 1, 1) := by decide +kernel
theorem dX12_years_32 : decode cX12_years 32 = .ok (.if_icmp .ge 97, 3) := by decide +kernel
theorem dX12_years_35 : decode cX12_years 35 = .ok (.aload_n 0, 1) := by decide +kernel
theorem dX12_years_36 : decode cX12_years 36 = .ok (.invokevirtual 424, 3) := by decide +kernel
theorem dX12_years_39 : decode cX12_years 39 = .ok (.aload_n 0, 1) := by decide +kernel
theorem dX12_years_40 : decode cX12_years 40 = .ok (.getfield 61, 3) := by decide +kernel
theorem dX12_years_43 : decode cX12_years 43 = .ok (.bipush 59, 2) := by decide +kernel
theorem dX12_years_45 : decode cX12_years 45 = .ok (.aload_n 0, 1) := by decide +kernel
theorem dX12_years_46 : decode cX12_years 46 = .ok (.iconst 4, 1) := by decide +kernel
theorem dX12_years_47 : decode cX12_years 47 = .ok (.invokevirtual 462, 3) := by decide +kernel
theorem dX12_years_50 : decode cX12_years 50 = .ok (.iastore, 1) := by decide +kernel
theorem dX12_years_51 : decode cX12_years 51 = .ok (.aload_n 0, 1) := by decide +kernel
theorem dX12_years_52 : decode cX12_years 52 = .ok (.getfield 61, 3) := by decide +kernel
theorem dX12_years_55 : decode cX12_years 55 = .ok (.bipush 58, 2) := by decide +kernel
theorem dX12_years_57 : decode cX12_years 57 = .ok (.aload_n 0, 1) := by decide +kernel
theorem dX12_years_58 : decode cX12_years 58 = .ok (.bipush 10, 2) := by decide +kernel
theorem dX12_years_60 : decode cX12_years 60 = .ok (.invokevirtual 462, 3) := by decide +kernel
theorem dX12_years_63 : decode cX12_years 63 = .ok (.iastore, 1) := by decide +kernel
theorem dX12_years_64 : decode cX12_years 64 = .ok (.iconst 0, 1) := by decide +kernel
theorem dX12_years_65 : decode cX12_years 65 = .ok (.istore 5, 2) := by decide +kernel
theorem dX12_years_67 : decode cX12_years 67 = .ok (.iload 5, 2) := by decide +kernel
theorem dX12_years_69 : decode cX12_years 69 = .ok (.aload_n 0, 1) := by decide +kernel
theorem dX12_years_70 : decode cX12_years 70 = .ok (.getfield 312, 3) := by decide +kernel
theorem dX12_years_73 : decode cX12_years 73 = .ok (.if_icmp .ge 42, 3) := by decide +kernel
theorem dX12_years_76 : decode cX12_years 76 = .ok (.aload_n 0, 1) := by decide +kernel
theorem dX12_years_77 : decode cX12_years 77 = .ok (.aload_n 0, 1) := by decide +kernel
theorem dX12_years_78 : decode cX12_years 78 = .ok (.getfield 309, 3) := by decide +kernel
theorem dX12_years_81 : decode cX12_years 81 = .ok (.invokevirtual 462, 3) := by decide +kernel
theorem dX12_years_84 : decode cX12_years 84 = .ok (.istore 6, 2) := by decide +kernel
theorem dX12_years_86 : decode cX12_years 86 = .ok (.aload_n 0, 1) := by decide +kernel
theorem dX12_years_87 : decode cX12_years 87 = .ok (.getfield 61, 3) := by decide +kernel
theorem dX12_years_90 : decode cX12_years 90 = .ok (.iload 5, 2) := by decide +kernel
theorem dX12_years_92 : decode cX12_years 92 = .ok (.aload_n 0, 1) := by decide +kernel
theorem dX12_years_93 : decode cX12_years 93 = .ok (.iload 6, 2) := by decide +kernel
theorem dX12_years_95 : decode cX12_years 95 = .ok (.iconst 0, 1) := by decide +kernel
theorem dX12_years_96 : decode cX12_years 96 = .ok (.invokevirtual 318, 3) := by decide +kernel
theorem dX12_years_99 : decode cX12_years 99 = .ok (.aload_n 0, 1) := by decide +kernel
theorem dX12_years_100 : decode cX12_years 100 = .ok (.iload 6, 2) := by decide +kernel
theorem dX12_years_102 : decode cX12_years 102 = .ok (.iconst 1, 1) := by decide +kernel
theorem dX12_years_103 : decode cX12_years 103 = .ok (.invokevirtual 318, 3) := by decide +kernel
theorem dX12_years_106 : decode cX12_years 106 = .ok (.invokestatic 427, 3) := by decide +kernel
theorem dX12_years_109 : decode cX12_years 109 = .ok (.iinc 5 1, 3) := by decide +kernel
theorem dX12_years_112 : decode cX12_years 112 = .ok (.goto (-45), 3) := by decide +kernel
theorem dX12_years_115 : decode cX12_years 115 = .ok (.aload_n 0, 1) := by decide +kernel
theorem dX12_years_116 : decode cX12_years 116 = .ok (.aload_n 0, 1) := by decide +kernel
theorem dX12_years_117 : decode cX12_years 117 = .ok (.getfield 61, 3) := by decide +kernel
theorem dX12_years_120 : decode cX12_years 120 = .ok (.invokevirtual 450, 3) := by decide +kernel
theorem dX12_years_123 : decode cX12_years 123 = .ok (.iinc 4 1, 3) := by decide +kernel
theorem dX12_years_126 : decode cX12_years 126 = .ok (.goto (-97), 3) := by decide +kernel
theorem dX12_years_129 : decode cX12_years 129 = .ok (.aload_n 0, 1) := by decide +kernel
theorem dX12_years_130 : decode cX12_years 130 = .ok (.getfield 61, 3) := by decide +kernel
theorem dX12_years_133 : decode cX12_years 133 = .ok (.bipush 60, 2) := by decide +kernel
theorem dX12_years_135 : decode cX12_years 135 = .ok (.iaload, 1) := by decide +kernel
theorem dX12_years_136 : decode cX12_years 136 = .ok (.ireturn, 1) := by decide +kernel
theorem dX12_undo_0 : decode cX12_undo 0 = .ok (.aload_n 0, 1) := by decide +kernel
theorem dX12_undo_1 : decode cX12_undo 1 = .ok (.iconst 0, 1) := by decide +kernel
theorem dX12_undo_2 : decode cX12_undo 2 = .ok (.putfield 111, 3) := by decide +kernel
theorem dX12_undo_5 : decode cX12_undo 5 = .ok (.aload_n 0, 1) := by decide +kernel
theorem dX12_undo_6 : decode cX12_undo 6 = .ok (.getfield 324, 3) := by decide +kernel
theorem dX12_undo_9 : decode cX12_undo 9 = .ok (.ifCond .ne 5, 3) := by decide +kernel
theorem dX12_undo_12 : decode cX12_undo 12 = .ok (.iconst (-1), 1) := by decide +kernel
theorem dX12_undo_13 : decode cX12_undo 13 = .ok (.ireturn, 1) := by decide +kernel
theorem dX12_undo_14 : decode cX12_undo 14 = .ok (.aload_n 0, 1) := by decide +kernel
theorem dX12_undo_15 : decode cX12_undo 15 = .ok (.dup, 1) := by decide +kernel
theorem dX12_undo_16 : decode cX12_undo 16 = .ok (.getfield 324, 3) := by decide +kernel
theorem dX12_undo_19 : decode cX12_undo 19 = .ok (.iconst 1, 1) := by decide +kernel
theorem dX12_undo_20 : decode cX12_undo 20 = .ok (.isub, 1) := by decide +kernel
theorem dX12_undo_21 : decode cX12_undo 21 = .ok (.putfield 324, 3) := by decide +kernel
theorem dX12_undo_24 : decode cX12_undo 24 = .ok (.iconst 0, 1) := by decide +kernel
theorem dX12_undo_25 : decode cX12_undo 25 = .ok (.istore_n 1, 1) := by decide +kernel
theorem dX12_undo_26 : decode cX12_undo 26 = .ok (.iload_n 1, 1) := by decide +kernel
theorem dX12_undo_27 : decode cX12_undo 27 = .ok (.sipush 242, 3) := by decide +kernel
theorem dX12_undo_30 : decode cX12_undo 30 = .ok (.if_icmp .ge 30, 3) := by decide +kernel
theorem dX12_undo_33 : decode cX12_undo 33 = .ok (.aload_n 0, 1) := by decide +kernel
theorem dX12_undo_34 : decode cX12_undo 34 = .ok (.getfield 61, 3) := by decide +kernel
theorem dX12_undo_37 : decode cX12_undo 37 = .ok (.iload_n 1, 1) := by decide +kernel
theorem dX12_undo_38 : decode cX12_undo 38 = .ok (.aload_n 0, 1) := by decide +kernel
theorem dX12_undo_39 : decode cX12_undo 39 = .ok (.getfield 87, 3) := by decide +kernel
theorem dX12_undo_42 : decode cX12_undo 42 = .ok (.sipush 242, 3) := by decide +kernel
theorem dX12_undo_45 : decode cX12_undo 45 = .ok (.aload_n 0, 1) := by decide +kernel
theorem dX12_undo_46 : decode cX12_undo 46 = .ok (.getfield 324, 3) := by decide +kernel
theorem dX12_undo_49 : decode cX12_undo 49 = .ok (.imul, 1) := by decide +kernel
theorem dX12_undo_50 : decode cX12_undo 50 = .ok (.iload_n 1, 1) := by decide +kernel
theorem dX12_undo_51 : decode cX12_undo 51 = .ok (.iadd, 1) := by decide +kernel
theorem dX12_undo_52 : decode cX12_undo 52 = .ok (.iaload, 1) := by decide +kernel
theorem dX12_undo_53 : decode cX12_undo 53 = .ok (.iastore, 1) := by decide +kernel
theorem dX12_undo_54 : decode cX12_undo 54 = .ok (.iinc 1 1, 3) := by decide +kernel
theorem dX12_undo_57 : decode cX12_undo 57 = .ok (.goto (-31), 3) := by decide +kernel
theorem dX12_undo_60 : decode cX12_undo 60 = .ok (.aload_n 0, 1) := by decide +kernel
theorem dX12_undo_61 : decode cX12_undo 61 = .ok (.getfield 324, 3) := by decide +kernel
theorem dX12_undo_64 : decode cX12_undo 64 = .ok (.ireturn, 1) := by decide +kernel
theorem dX12_log_0 : decode cX12_log 0 = .ok (.aload_n 0, 1) := by decide +kernel
theorem dX12_log_1 : decode cX12_log 1 = .ok (.iconst 0, 1) := by decide +kernel
theorem dX12_log_2 : decode cX12_log 2 = .ok (.putfield 111, 3) := by decide +kernel
theorem dX12_log_5 : decode cX12_log 5 = .ok (.iload_n 1, 1) := by decide +kernel
theorem dX12_log_6 : decode cX12_log 6 = .ok (.i2l, 1) := by decide +kernel
theorem dX12_log_7 : decode cX12_log 7 = .ok (.lconst 0, 1) := by decide +kernel
theorem dX12_log_8 : decode cX12_log 8 = .ok (.aload_n 0, 1) := by decide +kernel
theorem dX12_log_9 : decode cX12_log 9 = .ok (.getfield 61, 3) := by decide +kernel
theorem dX12_log_12 : decode cX12_log 12 = .ok (.bipush 61, 2) := by decide +kernel
theorem dX12_log_14 : decode cX12_log 14 = .ok (.iaload, 1) := by decide +kernel
theorem dX12_log_15 : decode cX12_log 15 = .ok (.iconst 1, 1) := by decide +kernel
theorem dX12_log_16 : decode cX12_log 16 = .ok (.isub, 1) := by decide +kernel
theorem dX12_log_17 : decode cX12_log 17 = .ok (.i2l, 1) := by decide +kernel
theorem dX12_log_18 : decode cX12_log 18 = .ok (.invokestatic 232, 3) := by decide +kernel
theorem dX12_log_21 : decode cX12_log 21 = .ok (.ifCond .eq 41, 3) := by decide +kernel
theorem dX12_log_24 : decode cX12_log 24 = .ok (.iload_n 2, 1) := by decide +kernel
theorem dX12_log_25 : decode cX12_log 25 = .ok (.i2l, 1) := by decide +kernel
theorem dX12_log_26 : decode cX12_log 26 = .ok (.lconst 0, 1) := by decide +kernel
theorem dX12_log_27 : decode cX12_log 27 = .ok (.ldc2_w 290, 3) := by decide +kernel
theorem dX12_log_30 : decode cX12_log 30 = .ok (.invokestatic 232, 3) := by decide +kernel
theorem dX12_log_33 : decode cX12_log 33 = .ok (.ifCond .eq 29, 3) := by decide +kernel
theorem dX12_log_36 : decode cX12_log 36 = .ok (.aload_n 0, 1) := by decide +kernel
theorem dX12_log_37 : decode cX12_log 37 = .ok (.getfield 61, 3) := by decide +kernel
theorem dX12_log_40 : decode cX12_log 40 = .ok (.bipush 62, 2) := by decide +kernel
theorem dX12_log_42 : decode cX12_log 42 = .ok (.iconst 3, 1) := by decide +kernel
theorem dX12_log_43 : decode cX12_log 43 = .ok (.aload_n 0, 1) := by decide +kernel
theorem dX12_log_44 : decode cX12_log 44 = .ok (.getfield 61, 3) := by decide +kernel
theorem dX12_log_47 : decode cX12_log 47 = .ok (.bipush 61, 2) := by decide +kernel
theorem dX12_log_49 : decode cX12_log 49 = .ok (.iaload, 1) := by decide +kernel
theorem dX12_log_50 : decode cX12_log 50 = .ok (.iconst 1, 1) := by decide +kernel
theorem dX12_log_51 : decode cX12_log 51 = .ok (.isub, 1) := by decide +kernel
theorem dX12_log_52 : decode cX12_log 52 = .ok (.iload_n 1, 1) := by decide +kernel
theorem dX12_log_53 : decode cX12_log 53 = .ok (.isub, 1) := by decide +kernel
theorem dX12_log_54 : decode cX12_log 54 = .ok (.imul, 1) := by decide +kernel
theorem dX12_log_55 : decode cX12_log 55 = .ok (.iadd, 1) := by decide +kernel
theorem dX12_log_56 : decode cX12_log 56 = .ok (.iload_n 2, 1) := by decide +kernel
theorem dX12_log_57 : decode cX12_log 57 = .ok (.iadd, 1) := by decide +kernel
theorem dX12_log_58 : decode cX12_log 58 = .ok (.iaload, 1) := by decide +kernel
theorem dX12_log_59 : decode cX12_log 59 = .ok (.goto 4, 3) := by decide +kernel
theorem dX12_log_62 : decode cX12_log 62 = .ok (.iconst (-1), 1) := by decide +kernel
theorem dX12_log_63 : decode cX12_log 63 = .ok (.ireturn, 1) := by decide +kernel
theorem dX12_isPlan_0 : decode cX12_isPlan 0 = .ok (.iload_n 1, 1) := by decide +kernel
theorem dX12_isPlan_1 : decode cX12_isPlan 1 = .ok (.ifCond .lt 15, 3) := by decide +kernel
theorem dX12_isPlan_4 : decode cX12_isPlan 4 = .ok (.iload_n 1, 1) := by decide +kernel
theorem dX12_isPlan_5 : decode cX12_isPlan 5 = .ok (.aload_n 0, 1) := by decide +kernel
theorem dX12_isPlan_6 : decode cX12_isPlan 6 = .ok (.getfield 304, 3) := by decide +kernel
theorem dX12_isPlan_9 : decode cX12_isPlan 9 = .ok (.if_icmp .ge 7, 3) := by decide +kernel
theorem dX12_isPlan_12 : decode cX12_isPlan 12 = .ok (.iconst 1, 1) := by decide +kernel
theorem dX12_isPlan_13 : decode cX12_isPlan 13 = .ok (.goto 4, 3) := by decide +kernel
theorem dX12_isPlan_16 : decode cX12_isPlan 16 = .ok (.iconst 0, 1) := by decide +kernel
theorem dX12_isPlan_17 : decode cX12_isPlan 17 = .ok (.ireturn, 1) := by decide +kernel
theorem dX12_step_0 : decode cX12_step 0 = .ok (.aload_n 0, 1) := by decide +kernel
theorem dX12_step_1 : decode cX12_step 1 = .ok (.iconst 0, 1) := by decide +kernel
theorem dX12_step_2 : decode cX12_step 2 = .ok (.putfield 111, 3) := by decide +kernel
theorem dX12_step_5 : decode cX12_step 5 = .ok (.aload_n 0, 1) := by decide +kernel
theorem dX12_step_6 : decode cX12_step 6 = .ok (.iload_n 1, 1) := by decide +kernel
theorem dX12_step_7 : decode cX12_step 7 = .ok (.invokevirtual 465, 3) := by decide +kernel
theorem dX12_step_10 : decode cX12_step 10 = .ok (.ifCond .eq 51, 3) := by decide +kernel
theorem dX12_step_13 : decode cX12_step 13 = .ok (.iload_n 2, 1) := by decide +kernel
theorem dX12_step_14 : decode cX12_step 14 = .ok (.i2l, 1) := by decide +kernel
theorem dX12_step_15 : decode cX12_step 15 = .ok (.lconst 0, 1) := by decide +kernel
theorem dX12_step_16 : decode cX12_step 16 = .ok (.aload_n 0, 1) := by decide +kernel
theorem dX12_step_17 : decode cX12_step 17 = .ok (.getfield 58, 3) := by decide +kernel
theorem dX12_step_20 : decode cX12_step 20 = .ok (.iload_n 1, 1) := by decide +kernel
theorem dX12_step_21 : decode cX12_step 21 = .ok (.iaload, 1) := by decide +kernel
theorem dX12_step_22 : decode cX12_step 22 = .ok (.iconst 1, 1) := by decide +kernel
theorem dX12_step_23 : decode cX12_step 23 = .ok (.isub, 1) := by decide +kernel
theorem dX12_step_24 : decode cX12_step 24 = .ok (.i2l, 1) := by decide +kernel
theorem dX12_step_25 : decode cX12_step 25 = .ok (.invokestatic 232, 3) := by decide +kernel
theorem dX12_step_28 : decode cX12_step 28 = .ok (.ifCond .eq 33, 3) := by decide +kernel
theorem dX12_step_31 : decode cX12_step 31 = .ok (.iload_n 3, 1) := by decide +kernel
theorem dX12_step_32 : decode cX12_step 32 = .ok (.i2l, 1) := by decide +kernel
theorem dX12_step_33 : decode cX12_step 33 = .ok (.lconst 0, 1) := by decide +kernel
theorem dX12_step_34 : decode cX12_step 34 = .ok (.ldc2_w 445, 3) := by decide +kernel
theorem dX12_step_37 : decode cX12_step 37 = .ok (.invokestatic 232, 3) := by decide +kernel
theorem dX12_step_40 : decode cX12_step 40 = .ok (.ifCond .eq 21, 3) := by decide +kernel
theorem dX12_step_43 : decode cX12_step 43 = .ok (.aload_n 0, 1) := by decide +kernel
theorem dX12_step_44 : decode cX12_step 44 = .ok (.getfield 55, 3) := by decide +kernel
theorem dX12_step_47 : decode cX12_step 47 = .ok (.iconst 4, 1) := by decide +kernel
theorem dX12_step_48 : decode cX12_step 48 = .ok (.bipush 16, 2) := by decide +kernel
theorem dX12_step_50 : decode cX12_step 50 = .ok (.iload_n 1, 1) := by decide +kernel
theorem dX12_step_51 : decode cX12_step 51 = .ok (.imul, 1) := by decide +kernel
theorem dX12_step_52 : decode cX12_step 52 = .ok (.iload_n 2, 1) := by decide +kernel
theorem dX12_step_53 : decode cX12_step 53 = .ok (.iadd, 1) := by decide +kernel
theorem dX12_step_54 : decode cX12_step 54 = .ok (.imul, 1) := by decide +kernel
theorem dX12_step_55 : decode cX12_step 55 = .ok (.iload_n 3, 1) := by decide +kernel
theorem dX12_step_56 : decode cX12_step 56 = .ok (.iadd, 1) := by decide +kernel
theorem dX12_step_57 : decode cX12_step 57 = .ok (.iaload, 1) := by decide +kernel
theorem dX12_step_58 : decode cX12_step 58 = .ok (.goto 6, 3) := by decide +kernel
theorem dX12_step_61 : decode cX12_step 61 = .ok (.ldc_w 417, 3) := by decide +kernel
theorem dX12_step_64 : decode cX12_step 64 = .ok (.ireturn, 1) := by decide +kernel
theorem dX12_canStep_0 : decode cX12_canStep 0 = .ok (.aload_n 0, 1) := by decide +kernel
theorem dX12_canStep_1 : decode cX12_canStep 1 = .ok (.getfield 55, 3) := by decide +kernel
theorem dX12_canStep_4 : decode cX12_canStep 4 = .ok (.iload_n 2, 1) := by decide +kernel
theorem dX12_canStep_5 : decode cX12_canStep 5 = .ok (.iconst 1, 1) := by decide +kernel
theorem dX12_canStep_6 : decode cX12_canStep 6 = .ok (.iadd, 1) := by decide +kernel
theorem dX12_canStep_7 : decode cX12_canStep 7 = .ok (.iaload, 1) := by decide +kernel
theorem dX12_canStep_8 : decode cX12_canStep 8 = .ok (.istore_n 3, 1) := by decide +kernel
theorem dX12_canStep_9 : decode cX12_canStep 9 = .ok (.aload_n 0, 1) := by decide +kernel
theorem dX12_canStep_10 : decode cX12_canStep 10 = .ok (.getfield 55, 3) := by decide +kernel
theorem dX12_canStep_13 : decode cX12_canStep 13 = .ok (.iload_n 2, 1) := by decide +kernel
theorem dX12_canStep_14 : decode cX12_canStep 14 = .ok (.iconst 2, 1) := by decide +kernel
theorem dX12_canStep_15 : decode cX12_canStep 15 = .ok (.iadd, 1) := by decide +kernel
theorem dX12_canStep_16 : decode cX12_canStep 16 = .ok (.iaload, 1) := by decide +kernel
theorem dX12_canStep_17 : decode cX12_canStep 17 = .ok (.istore 4, 2) := by decide +kernel
theorem dX12_canStep_19 : decode cX12_canStep 19 = .ok (.aload_n 0, 1) := by decide +kernel
theorem dX12_canStep_20 : decode cX12_canStep 20 = .ok (.getfield 55, 3) := by decide +kernel
theorem dX12_canStep_23 : decode cX12_canStep 23 = .ok (.iload_n 2, 1) := by decide +kernel
theorem dX12_canStep_24 : decode cX12_canStep 24 = .ok (.iaload, 1) := by decide +kernel
theorem dX12_canStep_25 : decode cX12_canStep 25 = .ok (.tableswitch 62 0 2 #[27, 44, 53], 27) := by decide +kernel
theorem dX12_canStep_52 : decode cX12_canStep 52 = .ok (.aload_n 0, 1) := by decide +kernel
theorem dX12_canStep_53 : decode cX12_canStep 53 = .ok (.aload_n 1, 1) := by decide +kernel
theorem dX12_canStep_54 : decode cX12_canStep 54 = .ok (.iload_n 3, 1) := by decide +kernel
theorem dX12_canStep_55 : decode cX12_canStep 55 = .ok (.iload 4, 2) := by decide +kernel
theorem dX12_canStep_57 : decode cX12_canStep 57 = .ok (.aload_n 0, 1) := by decide +kernel
theorem dX12_canStep_58 : decode cX12_canStep 58 = .ok (.getfield 55, 3) := by decide +kernel
theorem dX12_canStep_61 : decode cX12_canStep 61 = .ok (.iload_n 2, 1) := by decide +kernel
theorem dX12_canStep_62 : decode cX12_canStep 62 = .ok (.iconst 3, 1) := by decide +kernel
theorem dX12_canStep_63 : decode cX12_canStep 63 = .ok (.iadd, 1) := by decide +kernel
theorem dX12_canStep_64 : decode cX12_canStep 64 = .ok (.iaload, 1) := by decide +kernel
theorem dX12_canStep_65 : decode cX12_canStep 65 = .ok (.invokevirtual 420, 3) := by decide +kernel
theorem dX12_canStep_68 : decode cX12_canStep 68 = .ok (.ireturn, 1) := by decide +kernel
theorem dX12_canStep_69 : decode cX12_canStep 69 = .ok (.aload_n 0, 1) := by decide +kernel
theorem dX12_canStep_70 : decode cX12_canStep 70 = .ok (.aload_n 1, 1) := by decide +kernel
theorem dX12_canStep_71 : decode cX12_canStep 71 = .ok (.iload_n 3, 1) := by decide +kernel
theorem dX12_canStep_72 : decode cX12_canStep 72 = .ok (.iload 4, 2) := by decide +kernel
theorem dX12_canStep_74 : decode cX12_canStep 74 = .ok (.invokevirtual 434, 3) := by decide +kernel
theorem dX12_canStep_77 : decode cX12_canStep 77 = .ok (.ireturn, 1) := by decide +kernel
theorem dX12_canStep_78 : decode cX12_canStep 78 = .ok (.aload_n 0, 1) := by decide +kernel
theorem dX12_canStep_79 : decode cX12_canStep 79 = .ok (.aload_n 1, 1) := by decide +kernel
theorem dX12_canStep_80 : decode cX12_canStep 80 = .ok (.iload_n 3, 1) := by decide +kernel
theorem dX12_canStep_81 : decode cX12_canStep 81 = .ok (.iload 4, 2) := by decide +kernel
theorem dX12_canStep_83 : decode cX12_canStep 83 = .ok (.invokevirtual 442, 3) := by decide +kernel
theorem dX12_canStep_86 : decode cX12_canStep 86 = .ok (.ireturn, 1) := by decide +kernel
theorem dX12_canStep_87 : decode cX12_canStep 87 = .ok (.aload_n 0, 1) := by decide +kernel
theorem dX12_canStep_88 : decode cX12_canStep 88 = .ok (.aload_n 1, 1) := by decide +kernel
theorem dX12_canStep_89 : decode cX12_canStep 89 = .ok (.iload_n 3, 1) := by decide +kernel
theorem dX12_canStep_90 : decode cX12_canStep 90 = .ok (.bipush 9, 2) := by decide +kernel
theorem dX12_canStep_92 : decode cX12_canStep 92 = .ok (.invokevirtual 447, 3) := by decide +kernel
theorem dX12_canStep_95 : decode cX12_canStep 95 = .ok (.ireturn, 1) := by decide +kernel
theorem dX12_steps_0 : decode cX12_steps 0 = .ok (.aload_n 0, 1) := by decide +kernel
theorem dX12_steps_1 : decode cX12_steps 1 = .ok (.getfield 55, 3) := by decide +kernel
theorem dX12_steps_4 : decode cX12_steps 4 = .ok (.iload_n 2, 1) := by decide +kernel
theorem dX12_steps_5 : decode cX12_steps 5 = .ok (.iconst 1, 1) := by decide +kernel
theorem dX12_steps_6 : decode cX12_steps 6 = .ok (.iadd, 1) := by decide +kernel
theorem dX12_steps_7 : decode cX12_steps 7 = .ok (.iaload, 1) := by decide +kernel
theorem dX12_steps_8 : decode cX12_steps 8 = .ok (.istore_n 3, 1) := by decide +kernel
theorem dX12_steps_9 : decode cX12_steps 9 = .ok (.aload_n 0, 1) := by decide +kernel
theorem dX12_steps_10 : decode cX12_steps 10 = .ok (.getfield 55, 3) := by decide +kernel
theorem dX12_steps_13 : decode cX12_steps 13 = .ok (.iload_n 2, 1) := by decide +kernel
theorem dX12_steps_14 : decode cX12_steps 14 = .ok (.iconst 2, 1) := by decide +kernel
theorem dX12_steps_15 : decode cX12_steps 15 = .ok (.iadd, 1) := by decide +kernel
theorem dX12_steps_16 : decode cX12_steps 16 = .ok (.iaload, 1) := by decide +kernel
theorem dX12_steps_17 : decode cX12_steps 17 = .ok (.istore 4, 2) := by decide +kernel
theorem dX12_steps_19 : decode cX12_steps 19 = .ok (.aload_n 0, 1) := by decide +kernel
theorem dX12_steps_20 : decode cX12_steps 20 = .ok (.getfield 55, 3) := by decide +kernel
theorem dX12_steps_23 : decode cX12_steps 23 = .ok (.iload_n 2, 1) := by decide +kernel
theorem dX12_steps_24 : decode cX12_steps 24 = .ok (.iaload, 1) := by decide +kernel
theorem dX12_steps_25 : decode cX12_steps 25 = .ok (.tableswitch 70 0 2 #[27, 45, 55], 27) := by decide +kernel
theorem dX12_steps_52 : decode cX12_steps 52 = .ok (.aload_n 1, 1) := by decide +kernel
theorem dX12_steps_53 : decode cX12_steps 53 = .ok (.iload_n 3, 1) := by decide +kernel
theorem dX12_steps_54 : decode cX12_steps 54 = .ok (.iload 4, 2) := by decide +kernel
theorem dX12_steps_56 : decode cX12_steps 56 = .ok (.aload_n 0, 1) := by decide +kernel
theorem dX12_steps_57 : decode cX12_steps 57 = .ok (.getfield 55, 3) := by decide +kernel
theorem dX12_steps_60 : decode cX12_steps 60 = .ok (.iload_n 2, 1) := by decide +kernel
theorem dX12_steps_61 : decode cX12_steps 61 = .ok (.iconst 3, 1) := by decide +kernel
theorem dX12_steps_62 : decode cX12_steps 62 = .ok (.iadd, 1) := by decide +kernel
theorem dX12_steps_63 : decode cX12_steps 63 = .ok (.iaload, 1) := by decide +kernel
theorem dX12_steps_64 : decode cX12_steps 64 = .ok (.invokestatic 427, 3) := by decide +kernel
theorem dX12_steps_67 : decode cX12_steps 67 = .ok (.goto 33, 3) := by decide +kernel
theorem dX12_steps_70 : decode cX12_steps 70 = .ok (.aload_n 1, 1) := by decide +kernel
theorem dX12_steps_71 : decode cX12_steps 71 = .ok (.iload_n 3, 1) := by decide +kernel
theorem dX12_steps_72 : decode cX12_steps 72 = .ok (.iload 4, 2) := by decide +kernel
theorem dX12_steps_74 : decode cX12_steps 74 = .ok (.invokestatic 438, 3) := by decide +kernel
theorem dX12_steps_77 : decode cX12_steps 77 = .ok (.goto 23, 3) := by decide +kernel
theorem dX12_steps_80 : decode cX12_steps 80 = .ok (.aload_n 1, 1) := by decide +kernel
theorem dX12_steps_81 : decode cX12_steps 81 = .ok (.iconst 5, 1) := by decide +kernel
theorem dX12_steps_82 : decode cX12_steps 82 = .ok (.iload 4, 2) := by decide +kernel
theorem dX12_steps_84 : decode cX12_steps 84 = .ok (.imul, 1) := by decide +kernel
theorem dX12_steps_85 : decode cX12_steps 85 = .ok (.iconst 4, 1) := by decide +kernel
theorem dX12_steps_86 : decode cX12_steps 86 = .ok (.iadd, 1) := by decide +kernel
theorem dX12_steps_87 : decode cX12_steps 87 = .ok (.dup2, 1) := by decide +kernel
theorem dX12_steps_88 : decode cX12_steps 88 = .ok (.iaload, 1) := by decide +kernel
theorem dX12_steps_89 : decode cX12_steps 89 = .ok (.iconst 1, 1) := by decide +kernel
theorem dX12_steps_90 : decode cX12_steps 90 = .ok (.isub, 1) := by decide +kernel
theorem dX12_steps_91 : decode cX12_steps 91 = .ok (.iastore, 1) := by decide +kernel
theorem dX12_steps_92 : decode cX12_steps 92 = .ok (.goto 8, 3) := by decide +kernel
theorem dX12_steps_95 : decode cX12_steps 95 = .ok (.aload_n 0, 1) := by decide +kernel
theorem dX12_steps_96 : decode cX12_steps 96 = .ok (.aload_n 1, 1) := by decide +kernel
theorem dX12_steps_97 : decode cX12_steps 97 = .ok (.invokevirtual 450, 3) := by decide +kernel
theorem dX12_steps_100 : decode cX12_steps 100 = .ok (.return_, 1) := by decide +kernel
theorem dX12_timesOf_0 : decode cX12_timesOf 0 = .ok (.aload_n 0, 1) := by decide +kernel
theorem dX12_timesOf_1 : decode cX12_timesOf 1 = .ok (.getfield 55, 3) := by decide +kernel
theorem dX12_timesOf_4 : decode cX12_timesOf 4 = .ok (.iload_n 1, 1) := by decide +kernel
theorem dX12_timesOf_5 : decode cX12_timesOf 5 = .ok (.iaload, 1) := by decide +kernel
theorem dX12_timesOf_6 : decode cX12_timesOf 6 = .ok (.iconst 3, 1) := by decide +kernel
theorem dX12_timesOf_7 : decode cX12_timesOf 7 = .ok (.if_icmp .ne 14, 3) := by decide +kernel
theorem dX12_timesOf_10 : decode cX12_timesOf 10 = .ok (.aload_n 0, 1) := by decide +kernel
theorem dX12_timesOf_11 : decode cX12_timesOf 11 = .ok (.getfield 55, 3) := by decide +kernel
theorem dX12_timesOf_14 : decode cX12_timesOf 14 = .ok (.iload_n 1, 1) := by decide +kernel
theorem dX12_timesOf_15 : decode cX12_timesOf 15 = .ok (.iconst 1, 1) := by decide +kernel
theorem dX12_timesOf_16 : decode cX12_timesOf 16 = .ok (.iadd, 1) := by decide +kernel
theorem dX12_timesOf_17 : decode cX12_timesOf 17 = .ok (.iaload, 1) := by decide +kernel
theorem dX12_timesOf_18 : decode cX12_timesOf 18 = .ok (.goto 4, 3) := by decide +kernel
theorem dX12_timesOf_21 : decode cX12_timesOf 21 = .ok (.iconst 1, 1) := by decide +kernel
theorem dX12_timesOf_22 : decode cX12_timesOf 22 = .ok (.ireturn, 1) := by decide +kernel
theorem dX12_run_0 : decode cX12_run 0 = .ok (.aload_n 0, 1) := by decide +kernel
theorem dX12_run_1 : decode cX12_run 1 = .ok (.iconst 0, 1) := by decide +kernel
theorem dX12_run_2 : decode cX12_run 2 = .ok (.putfield 111, 3) := by decide +kernel
theorem dX12_run_5 : decode cX12_run 5 = .ok (.aload_n 0, 1) := by decide +kernel
theorem dX12_run_6 : decode cX12_run 6 = .ok (.iload_n 1, 1) := by decide +kernel
theorem dX12_run_7 : decode cX12_run 7 = .ok (.invokevirtual 465, 3) := by decide +kernel
theorem dX12_run_10 : decode cX12_run 10 = .ok (.ifCond .eq 20, 3) := by decide +kernel
theorem dX12_run_13 : decode cX12_run 13 = .ok (.aload_n 0, 1) := by decide +kernel
theorem dX12_run_14 : decode cX12_run 14 = .ok (.getfield 309, 3) := by decide +kernel
theorem dX12_run_17 : decode cX12_run 17 = .ok (.ifCond .eq 13, 3) := by decide +kernel
theorem dX12_run_20 : decode cX12_run 20 = .ok (.iload_n 2, 1) := by decide +kernel
theorem dX12_run_21 : decode cX12_run 21 = .ok (.i2l, 1) := by decide +kernel
theorem dX12_run_22 : decode cX12_run 22 = .ok (.lconst 0, 1) := by decide +kernel
theorem dX12_run_23 : decode cX12_run 23 = .ok (.lconst 1, 1) := by decide +kernel
theorem dX12_run_24 : decode cX12_run 24 = .ok (.invokestatic 232, 3) := by decide +kernel
theorem dX12_run_27 : decode cX12_run 27 = .ok (.ifCond .ne 7, 3) := by decide +kernel
theorem dX12_run_30 : decode cX12_run 30 = .ok (.ldc_w 417, 3) := by decide +kernel
theorem dX12_run_33 : decode cX12_run 33 = .ok (.ireturn, 1) := by decide +kernel
theorem dX12_run_34 : decode cX12_run 34 = .ok (.aload_n 0, 1) := by decide +kernel
theorem dX12_run_35 : decode cX12_run 35 = .ok (.getfield 61, 3) := by decide +kernel
theorem dX12_run_38 : decode cX12_run 38 = .ok (.aload_n 0, 1) := by decide +kernel
theorem dX12_run_39 : decode cX12_run 39 = .ok (.getfield 64, 3) := by decide +kernel
theorem dX12_run_42 : decode cX12_run 42 = .ok (.invokestatic 468, 3) := by decide +kernel
theorem dX12_run_45 : decode cX12_run 45 = .ok (.iconst 0, 1) := by decide +kernel
theorem dX12_run_46 : decode cX12_run 46 = .ok (.istore_n 3, 1) := by decide +kernel
theorem dX12_run_47 : decode cX12_run 47 = .ok (.iconst 0, 1) := by decide +kernel
theorem dX12_run_48 : decode cX12_run 48 = .ok (.istore 4, 2) := by decide +kernel
theorem dX12_run_50 : decode cX12_run 50 = .ok (.iload_n 3, 1) := by decide +kernel
theorem dX12_run_51 : decode cX12_run 51 = .ok (.aload_n 0, 1) := by decide +kernel
theorem dX12_run_52 : decode cX12_run 52 = .ok (.getfield 58, 3) := by decide +kernel
theorem dX12_run_55 : decode cX12_run 55 = .ok (.iload_n 1, 1) := by decide +kernel
theorem dX12_run_56 : decode cX12_run 56 = .ok (.iaload, 1) := by decide +kernel
theorem dX12_run_57 : decode cX12_run 57 = .ok (.if_icmp .ge 89, 3) := by decide +kernel
theorem dX12_run_60 : decode cX12_run 60 = .ok (.aload_n 0, 1) := by decide +kernel
theorem dX12_run_61 : decode cX12_run 61 = .ok (.aload_n 0, 1) := by decide +kernel
theorem dX12_run_62 : decode cX12_run 62 = .ok (.getfield 64, 3) := by decide +kernel
theorem dX12_run_65 : decode cX12_run 65 = .ok (.iconst 4, 1) := by decide +kernel
theorem dX12_run_66 : decode cX12_run 66 = .ok (.bipush 16, 2) := by decide +kernel
theorem dX12_run_68 : decode cX12_run 68 = .ok (.iload_n 1, 1) := by decide +kernel
theorem dX12_run_69 : decode cX12_run 69 = .ok (.imul, 1) := by decide +kernel
theorem dX12_run_70 : decode cX12_run 70 = .ok (.iload_n 3, 1) := by decide +kernel
theorem dX12_run_71 : decode cX12_run 71 = .ok (.iadd, 1) := by decide +kernel
theorem dX12_run_72 : decode cX12_run 72 = .ok (.imul, 1) := by decide +kernel
theorem dX12_run_73 : decode cX12_run 73 = .ok (.invokevirtual 472, 3) := by decide +kernel
theorem dX12_run_76 : decode cX12_run 76 = .ok (.ifCond .eq 70, 3) := by decide +kernel
theorem dX12_run_79 : decode cX12_run 79 = .ok (.iconst 4, 1) := by decide +kernel
theorem dX12_run_80 : decode cX12_run 80 = .ok (.bipush 16, 2) := by decide +kernel
theorem dX12_run_82 : decode cX12_run 82 = .ok (.iload_n 1, 1) := by decide +kernel
theorem dX12_run_83 : decode cX12_run 83 = .ok (.imul, 1) := by decide +kernel
theorem dX12_run_84 : decode cX12_run 84 = .ok (.iload_n 3, 1) := by decide +kernel
theorem dX12_run_85 : decode cX12_run 85 = .ok (.iadd, 1) := by decide +kernel
theorem dX12_run_86 : decode cX12_run 86 = .ok (.imul, 1) := by decide +kernel
theorem dX12_run_87 : decode cX12_run 87 = .ok (.istore 5, 2) := by decide +kernel
theorem dX12_run_89 : decode cX12_run 89 = .ok (.iconst 0, 1) := by decide +kernel
theorem dX12_run_90 : decode cX12_run 90 = .ok (.istore 6, 2) := by decide +kernel
theorem dX12_run_92 : decode cX12_run 92 = .ok (.iload 6, 2) := by decide +kernel
theorem dX12_run_94 : decode cX12_run 94 = .ok (.aload_n 0, 1) := by decide +kernel
theorem dX12_run_95 : decode cX12_run 95 = .ok (.iload 5, 2) := by decide +kernel
theorem dX12_run_97 : decode cX12_run 97 = .ok (.invokevirtual 476, 3) := by decide +kernel
theorem dX12_run_100 : decode cX12_run 100 = .ok (.if_icmp .ge 19, 3) := by decide +kernel
theorem dX12_run_103 : decode cX12_run 103 = .ok (.aload_n 0, 1) := by decide +kernel
theorem dX12_run_104 : decode cX12_run 104 = .ok (.aload_n 0, 1) := by decide +kernel
theorem dX12_run_105 : decode cX12_run 105 = .ok (.getfield 64, 3) := by decide +kernel
theorem dX12_run_108 : decode cX12_run 108 = .ok (.iload 5, 2) := by decide +kernel
theorem dX12_run_110 : decode cX12_run 110 = .ok (.invokevirtual 479, 3) := by decide +kernel
theorem dX12_run_113 : decode cX12_run 113 = .ok (.iinc 6 1, 3) := by decide +kernel
theorem dX12_run_116 : decode cX12_run 116 = .ok (.goto (-24), 3) := by decide +kernel
theorem dX12_run_119 : decode cX12_run 119 = .ok (.iload 4, 2) := by decide +kernel
theorem dX12_run_121 : decode cX12_run 121 = .ok (.aload_n 0, 1) := by decide +kernel
theorem dX12_run_122 : decode cX12_run 122 = .ok (.getfield 55, 3) := by decide +kernel
theorem dX12_run_125 : decode cX12_run 125 = .ok (.iload 5, 2) := by decide +kernel
theorem dX12_run_127 : decode cX12_run 127 = .ok (.iaload, 1) := by decide +kernel
theorem dX12_run_128 : decode cX12_run 128 = .ok (.iconst 1, 1) := by decide +kernel
theorem dX12_run_129 : decode cX12_run 129 = .ok (.if_icmp .ne 7, 3) := by decide +kernel
theorem dX12_run_132 : decode cX12_run 132 = .ok (.iconst 1, 1) := by decide +kernel
theorem dX12_run_133 : decode cX12_run 133 = .ok (.goto 4, 3) := by decide +kernel
theorem dX12_run_136 : decode cX12_run 136 = .ok (.iconst 0, 1) := by decide +kernel
theorem dX12_run_137 : decode cX12_run 137 = .ok (.iadd, 1) := by decide +kernel
theorem dX12_run_138 : decode cX12_run 138 = .ok (.istore 4, 2) := by decide +kernel
theorem dX12_run_140 : decode cX12_run 140 = .ok (.iinc 3 1, 3) := by decide +kernel
theorem dX12_run_143 : decode cX12_run 143 = .ok (.goto (-93), 3) := by decide +kernel
theorem dX12_run_146 : decode cX12_run 146 = .ok (.iload_n 2, 1) := by decide +kernel
theorem dX12_run_147 : decode cX12_run 147 = .ok (.iconst 1, 1) := by decide +kernel
theorem dX12_run_148 : decode cX12_run 148 = .ok (.if_icmp .ne 6, 3) := by decide +kernel
theorem dX12_run_151 : decode cX12_run 151 = .ok (.iload 4, 2) := by decide +kernel
theorem dX12_run_153 : decode cX12_run 153 = .ok (.ireturn, 1) := by decide +kernel
theorem dX12_run_154 : decode cX12_run 154 = .ok (.iload_n 3, 1) := by decide +kernel
theorem dX12_run_155 : decode cX12_run 155 = .ok (.aload_n 0, 1) := by decide +kernel
theorem dX12_run_156 : decode cX12_run 156 = .ok (.getfield 58, 3) := by decide +kernel
theorem dX12_run_159 : decode cX12_run 159 = .ok (.iload_n 1, 1) := by decide +kernel
theorem dX12_run_160 : decode cX12_run 160 = .ok (.iaload, 1) := by decide +kernel
theorem dX12_run_161 : decode cX12_run 161 = .ok (.if_icmp .ne 7, 3) := by decide +kernel
theorem dX12_run_164 : decode cX12_run 164 = .ok (.iconst (-1), 1) := by decide +kernel
theorem dX12_run_165 : decode cX12_run 165 = .ok (.goto 4, 3) := by decide +kernel
theorem dX12_run_168 : decode cX12_run 168 = .ok (.iload_n 3, 1) := by decide +kernel
theorem dX12_run_169 : decode cX12_run 169 = .ok (.ireturn, 1) := by decide +kernel
theorem dX12_perform_0 : decode cX12_perform 0 = .ok (.aload_n 0, 1) := by decide +kernel
theorem dX12_perform_1 : decode cX12_perform 1 = .ok (.iconst 0, 1) := by decide +kernel
theorem dX12_perform_2 : decode cX12_perform 2 = .ok (.putfield 111, 3) := by decide +kernel
theorem dX12_perform_5 : decode cX12_perform 5 = .ok (.aload_n 0, 1) := by decide +kernel
theorem dX12_perform_6 : decode cX12_perform 6 = .ok (.iload_n 1, 1) := by decide +kernel
theorem dX12_perform_7 : decode cX12_perform 7 = .ok (.invokevirtual 465, 3) := by decide +kernel
theorem dX12_perform_10 : decode cX12_perform 10 = .ok (.ifCond .eq 10, 3) := by decide +kernel
theorem dX12_perform_13 : decode cX12_perform 13 = .ok (.aload_n 0, 1) := by decide +kernel
theorem dX12_perform_14 : decode cX12_perform 14 = .ok (.getfield 309, 3) := by decide +kernel
theorem dX12_perform_17 : decode cX12_perform 17 = .ok (.ifCond .ne 5, 3) := by decide +kernel
theorem dX12_perform_20 : decode cX12_perform 20 = .ok (.iconst (-1), 1) := by decide +kernel
theorem dX12_perform_21 : decode cX12_perform 21 = .ok (.ireturn, 1) := by decide +kernel
theorem dX12_perform_22 : decode cX12_perform 22 = .ok (.iconst 0, 1) := by decide +kernel
theorem dX12_perform_23 : decode cX12_perform 23 = .ok (.istore_n 2, 1) := by decide +kernel
theorem dX12_perform_24 : decode cX12_perform 24 = .ok (.iload_n 2, 1) := by decide +kernel
theorem dX12_perform_25 : decode cX12_perform 25 = .ok (.aload_n 0, 1) := by decide +kernel
theorem dX12_perform_26 : decode cX12_perform 26 = .ok (.getfield 58, 3) := by decide +kernel
theorem dX12_perform_29 : decode cX12_perform 29 = .ok (.iload_n 1, 1) := by decide +kernel
theorem dX12_perform_30 : decode cX12_perform 30 = .ok (.iaload, 1) := by decide +kernel
theorem dX12_perform_31 : decode cX12_perform 31 = .ok (.if_icmp .ge 69, 3) := by decide +kernel
theorem dX12_perform_34 : decode cX12_perform 34 = .ok (.aload_n 0, 1) := by decide +kernel
theorem dX12_perform_35 : decode cX12_perform 35 = .ok (.aload_n 0, 1) := by decide +kernel
theorem dX12_perform_36 : decode cX12_perform 36 = .ok (.getfield 61, 3) := by decide +kernel
theorem dX12_perform_39 : decode cX12_perform 39 = .ok (.iconst 4, 1) := by decide +kernel
theorem dX12_perform_40 : decode cX12_perform 40 = .ok (.bipush 16, 2) := by decide +kernel
theorem dX12_perform_42 : decode cX12_perform 42 = .ok (.iload_n 1, 1) := by decide +kernel
theorem dX12_perform_43 : decode cX12_perform 43 = .ok (.imul, 1) := by decide +kernel
theorem dX12_perform_44 : decode cX12_perform 44 = .ok (.iload_n 2, 1) := by decide +kernel
theorem dX12_perform_45 : decode cX12_perform 45 = .ok (.iadd, 1) := by decide +kernel
theorem dX12_perform_46 : decode cX12_perform 46 = .ok (.imul, 1) := by decide +kernel
theorem dX12_perform_47 : decode cX12_perform 47 = .ok (.invokevirtual 472, 3) := by decide +kernel
theorem dX12_perform_50 : decode cX12_perform 50 = .ok (.ifCond .eq 50, 3) := by decide +kernel
theorem dX12_perform_53 : decode cX12_perform 53 = .ok (.iconst 4, 1) := by decide +kernel
theorem dX12_perform_54 : decode cX12_perform 54 = .ok (.bipush 16, 2) := by decide +kernel
theorem dX12_perform_56 : decode cX12_perform 56 = .ok (.iload_n 1, 1) := by decide +kernel
theorem dX12_perform_57 : decode cX12_perform 57 = .ok (.imul, 1) := by decide +kernel
theorem dX12_perform_58 : decode cX12_perform 58 = .ok (.iload_n 2, 1) := by decide +kernel
theorem dX12_perform_59 : decode cX12_perform 59 = .ok (.iadd, 1) := by decide +kernel
theorem dX12_perform_60 : decode cX12_perform 60 = .ok (.imul, 1) := by decide +kernel
theorem dX12_perform_61 : decode cX12_perform 61 = .ok (.istore_n 3, 1) := by decide +kernel
theorem dX12_perform_62 : decode cX12_perform 62 = .ok (.iconst 0, 1) := by decide +kernel
theorem dX12_perform_63 : decode cX12_perform 63 = .ok (.istore 4, 2) := by decide +kernel
theorem dX12_perform_65 : decode cX12_perform 65 = .ok (.iload 4, 2) := by decide +kernel
theorem dX12_perform_67 : decode cX12_perform 67 = .ok (.aload_n 0, 1) := by decide +kernel
theorem dX12_perform_68 : decode cX12_perform 68 = .ok (.iload_n 3, 1) := by decide +kernel
theorem dX12_perform_69 : decode cX12_perform 69 = .ok (.invokevirtual 476, 3) := by decide +kernel
theorem dX12_perform_72 : decode cX12_perform 72 = .ok (.if_icmp .ge 22, 3) := by decide +kernel
theorem dX12_perform_75 : decode cX12_perform 75 = .ok (.aload_n 0, 1) := by decide +kernel
theorem dX12_perform_76 : decode cX12_perform 76 = .ok (.invokevirtual 424, 3) := by decide +kernel
theorem dX12_perform_79 : decode cX12_perform 79 = .ok (.aload_n 0, 1) := by decide +kernel
theorem dX12_perform_80 : decode cX12_perform 80 = .ok (.aload_n 0, 1) := by decide +kernel
theorem dX12_perform_81 : decode cX12_perform 81 = .ok (.getfield 61, 3) := by decide +kernel
theorem dX12_perform_84 : decode cX12_perform 84 = .ok (.iload_n 3, 1) := by decide +kernel
theorem dX12_perform_85 : decode cX12_perform 85 = .ok (.invokevirtual 479, 3) := by decide +kernel
theorem dX12_perform_88 : decode cX12_perform 88 = .ok (.iinc 4 1, 3) := by decide +kernel
theorem dX12_perform_91 : decode cX12_perform 91 = .ok (.goto (-26), 3) := by decide +kernel
theorem dX12_perform_94 : decode cX12_perform 94 = .ok (.iinc 2 1, 3) := by decide +kernel
theorem dX12_perform_97 : decode cX12_perform 97 = .ok (.goto (-73), 3) := by decide +kernel
theorem dX12_perform_100 : decode cX12_perform 100 = .ok (.iload_n 2, 1) := by decide +kernel
theorem dX12_perform_101 : decode cX12_perform 101 = .ok (.ireturn, 1) := by decide +kernel
theorem dX12_votes_0 : decode cX12_votes 0 = .ok (.aload_n 0, 1) := by decide +kernel
theorem dX12_votes_1 : decode cX12_votes 1 = .ok (.iconst 0, 1) := by decide +kernel
theorem dX12_votes_2 : decode cX12_votes 2 = .ok (.putfield 111, 3) := by decide +kernel
theorem dX12_votes_5 : decode cX12_votes 5 = .ok (.aload_n 0, 1) := by decide +kernel
theorem dX12_votes_6 : decode cX12_votes 6 = .ok (.iload_n 1, 1) := by decide +kernel
theorem dX12_votes_7 : decode cX12_votes 7 = .ok (.invokevirtual 412, 3) := by decide +kernel
theorem dX12_votes_10 : decode cX12_votes 10 = .ok (.ifCond .eq 15, 3) := by decide +kernel
theorem dX12_votes_13 : decode cX12_votes 13 = .ok (.aload_n 0, 1) := by decide +kernel
theorem dX12_votes_14 : decode cX12_votes 14 = .ok (.aload_n 0, 1) := by decide +kernel
theorem dX12_votes_15 : decode cX12_votes 15 = .ok (.getfield 61, 3) := by decide +kernel
theorem dX12_votes_18 : decode cX12_votes 18 = .ok (.iload_n 1, 1) := by decide +kernel
theorem dX12_votes_19 : decode cX12_votes 19 = .ok (.invokevirtual 390, 3) := by decide +kernel
theorem dX12_votes_22 : decode cX12_votes 22 = .ok (.goto 4, 3) := by decide +kernel
theorem dX12_votes_25 : decode cX12_votes 25 = .ok (.iconst (-1), 1) := by decide +kernel
theorem dX12_votes_26 : decode cX12_votes 26 = .ok (.ireturn, 1) := by decide +kernel
theorem dX12_leader_0 : decode cX12_leader 0 = .ok (.aload_n 0, 1) := by decide +kernel
theorem dX12_leader_1 : decode cX12_leader 1 = .ok (.iconst 0, 1) := by decide +kernel
theorem dX12_leader_2 : decode cX12_leader 2 = .ok (.putfield 111, 3) := by decide +kernel
theorem dX12_leader_5 : decode cX12_leader 5 = .ok (.aload_n 0, 1) := by decide +kernel
theorem dX12_leader_6 : decode cX12_leader 6 = .ok (.getfield 309, 3) := by decide +kernel
theorem dX12_leader_9 : decode cX12_leader 9 = .ok (.ifCond .ne 7, 3) := by decide +kernel
theorem dX12_leader_12 : decode cX12_leader 12 = .ok (.iconst (-1), 1) := by decide +kernel
theorem dX12_leader_13 : decode cX12_leader 13 = .ok (.goto 11, 3) := by decide +kernel
theorem dX12_leader_16 : decode cX12_leader 16 = .ok (.aload_n 0, 1) := by decide +kernel
theorem dX12_leader_17 : decode cX12_leader 17 = .ok (.aload_n 0, 1) := by decide +kernel
theorem dX12_leader_18 : decode cX12_leader 18 = .ok (.getfield 61, 3) := by decide +kernel
theorem dX12_leader_21 : decode cX12_leader 21 = .ok (.invokevirtual 397, 3) := by decide +kernel
theorem dX12_leader_24 : decode cX12_leader 24 = .ok (.ireturn, 1) := by decide +kernel
theorem dX12_ahead_0 : decode cX12_ahead 0 = .ok (.aload_n 0, 1) := by decide +kernel
theorem dX12_ahead_1 : decode cX12_ahead 1 = .ok (.iconst 0, 1) := by decide +kernel
theorem dX12_ahead_2 : decode cX12_ahead 2 = .ok (.putfield 111, 3) := by decide +kernel
theorem dX12_ahead_5 : decode cX12_ahead 5 = .ok (.aload_n 0, 1) := by decide +kernel
theorem dX12_ahead_6 : decode cX12_ahead 6 = .ok (.iload_n 1, 1) := by decide +kernel
theorem dX12_ahead_7 : decode cX12_ahead 7 = .ok (.invokevirtual 407, 3) := by decide +kernel
theorem dX12_ahead_10 : decode cX12_ahead 10 = .ok (.ifCond .eq 15, 3) := by decide +kernel
theorem dX12_ahead_13 : decode cX12_ahead 13 = .ok (.iload_n 2, 1) := by decide +kernel
theorem dX12_ahead_14 : decode cX12_ahead 14 = .ok (.i2l, 1) := by decide +kernel
theorem dX12_ahead_15 : decode cX12_ahead 15 = .ok (.lconst 0, 1) := by decide +kernel
theorem dX12_ahead_16 : decode cX12_ahead 16 = .ok (.ldc2_w 482, 3) := by decide +kernel
theorem dX12_ahead_19 : decode cX12_ahead 19 = .ok (.invokestatic 232, 3) := by decide +kernel
theorem dX12_ahead_22 : decode cX12_ahead 22 = .ok (.ifCond .ne 7, 3) := by decide +kernel
theorem dX12_ahead_25 : decode cX12_ahead 25 = .ok (.ldc_w 417, 3) := by decide +kernel
theorem dX12_ahead_28 : decode cX12_ahead 28 = .ok (.ireturn, 1) := by decide +kernel
theorem dX12_ahead_29 : decode cX12_ahead 29 = .ok (.aload_n 0, 1) := by decide +kernel
theorem dX12_ahead_30 : decode cX12_ahead 30 = .ok (.getfield 61, 3) := by decide +kernel
theorem dX12_ahead_33 : decode cX12_ahead 33 = .ok (.aload_n 0, 1) := by decide +kernel
theorem dX12_ahead_34 : decode cX12_ahead 34 = .ok (.getfield 64, 3) := by decide +kernel
theorem dX12_ahead_37 : decode cX12_ahead 37 = .ok (.invokestatic 468, 3) := by decide +kernel
theorem dX12_ahead_40 : decode cX12_ahead 40 = .ok (.iconst 0, 1) := by decide +kernel
theorem dX12_ahead_41 : decode cX12_ahead 41 = .ok (.istore_n 3, 1) := by decide +kernel
theorem dX12_ahead_42 : decode cX12_ahead 42 = .ok (.iload_n 3, 1) := by decide +kernel
theorem dX12_ahead_43 : decode cX12_ahead 43 = .ok (.iload_n 2, 1) := by decide +kernel
theorem dX12_ahead_44 : decode cX12_ahead 44 = .ok (.if_icmp .ge 17, 3) := by decide +kernel
theorem dX12_ahead_47 : decode cX12_ahead 47 = .ok (.aload_n 0, 1) := by decide +kernel
theorem dX12_ahead_48 : decode cX12_ahead 48 = .ok (.aload_n 0, 1) := by decide +kernel
theorem dX12_ahead_49 : decode cX12_ahead 49 = .ok (.getfield 64, 3) := by decide +kernel
theorem dX12_ahead_52 : decode cX12_ahead 52 = .ok (.invokevirtual 450, 3) := by decide +kernel
theorem dX12_ahead_55 : decode cX12_ahead 55 = .ok (.iinc 3 1, 3) := by decide +kernel
theorem dX12_ahead_58 : decode cX12_ahead 58 = .ok (.goto (-16), 3) := by decide +kernel
theorem dX12_ahead_61 : decode cX12_ahead 61 = .ok (.aload_n 0, 1) := by decide +kernel
theorem dX12_ahead_62 : decode cX12_ahead 62 = .ok (.aload_n 0, 1) := by decide +kernel
theorem dX12_ahead_63 : decode cX12_ahead 63 = .ok (.getfield 64, 3) := by decide +kernel
theorem dX12_ahead_66 : decode cX12_ahead 66 = .ok (.iload_n 1, 1) := by decide +kernel
theorem dX12_ahead_67 : decode cX12_ahead 67 = .ok (.invokevirtual 386, 3) := by decide +kernel
theorem dX12_ahead_70 : decode cX12_ahead 70 = .ok (.ireturn, 1) := by decide +kernel
theorem dX12_soon_0 : decode cX12_soon 0 = .ok (.aload_n 0, 1) := by decide +kernel
theorem dX12_soon_1 : decode cX12_soon 1 = .ok (.iconst 0, 1) := by decide +kernel
theorem dX12_soon_2 : decode cX12_soon 2 = .ok (.putfield 111, 3) := by decide +kernel
theorem dX12_soon_5 : decode cX12_soon 5 = .ok (.aload_n 0, 1) := by decide +kernel
theorem dX12_soon_6 : decode cX12_soon 6 = .ok (.iload_n 1, 1) := by decide +kernel
theorem dX12_soon_7 : decode cX12_soon 7 = .ok (.invokevirtual 412, 3) := by decide +kernel
theorem dX12_soon_10 : decode cX12_soon 10 = .ok (.ifCond .eq 29, 3) := by decide +kernel
theorem dX12_soon_13 : decode cX12_soon 13 = .ok (.aload_n 0, 1) := by decide +kernel
theorem dX12_soon_14 : decode cX12_soon 14 = .ok (.iload_n 2, 1) := by decide +kernel
theorem dX12_soon_15 : decode cX12_soon 15 = .ok (.invokevirtual 407, 3) := by decide +kernel
theorem dX12_soon_18 : decode cX12_soon 18 = .ok (.ifCond .eq 21, 3) := by decide +kernel
theorem dX12_soon_21 : decode cX12_soon 21 = .ok (.aload_n 0, 1) := by decide +kernel
theorem dX12_soon_22 : decode cX12_soon 22 = .ok (.iload_n 1, 1) := by decide +kernel
theorem dX12_soon_23 : decode cX12_soon 23 = .ok (.aload_n 0, 1) := by decide +kernel
theorem dX12_soon_24 : decode cX12_soon 24 = .ok (.aload_n 0, 1) := by decide +kernel
theorem dX12_soon_25 : decode cX12_soon 25 = .ok (.getfield 61, 3) := by decide +kernel
theorem dX12_soon_28 : decode cX12_soon 28 = .ok (.iload_n 1, 1) := by decide +kernel
theorem dX12_soon_29 : decode cX12_soon 29 = .ok (.iload_n 2, 1) := by decide +kernel
theorem dX12_soon_30 : decode cX12_soon 30 = .ok (.invokevirtual 370, 3) := by decide +kernel
theorem dX12_soon_33 : decode cX12_soon 33 = .ok (.invokevirtual 431, 3) := by decide +kernel
theorem dX12_soon_36 : decode cX12_soon 36 = .ok (.goto 4, 3) := by decide +kernel
theorem dX12_soon_39 : decode cX12_soon 39 = .ok (.iconst (-1), 1) := by decide +kernel
theorem dX12_soon_40 : decode cX12_soon 40 = .ok (.ireturn, 1) := by decide +kernel
theorem dX12_goRound_0 : decode cX12_goRound 0 = .ok (.aload_n 0, 1) := by decide +kernel
theorem dX12_goRound_1 : decode cX12_goRound 1 = .ok (.getfield 484, 3) := by decide +kernel
theorem dX12_goRound_4 : decode cX12_goRound 4 = .ok (.iconst (-1), 1) := by decide +kernel
theorem dX12_goRound_5 : decode cX12_goRound 5 = .ok (.if_icmp .eq 13, 3) := by decide +kernel
theorem dX12_goRound_8 : decode cX12_goRound 8 = .ok (.iload 5, 2) := by decide +kernel
theorem dX12_goRound_10 : decode cX12_goRound 10 = .ok (.aload_n 0, 1) := by decide +kernel
theorem dX12_goRound_11 : decode cX12_goRound 11 = .ok (.getfield 484, 3) := by decide +kernel
theorem dX12_goRound_14 : decode cX12_goRound 14 = .ok (.if_icmp .lt 4, 3) := by decide +kernel
theorem dX12_goRound_17 : decode cX12_goRound 17 = .ok (.return_, 1) := by decide +kernel
theorem dX12_goRound_18 : decode cX12_goRound 18 = .ok (.iload_n 2, 1) := by decide +kernel
theorem dX12_goRound_19 : decode cX12_goRound 19 = .ok (.ifCond .ne 16, 3) := by decide +kernel
theorem dX12_goRound_22 : decode cX12_goRound 22 = .ok (.aload_n 0, 1) := by decide +kernel
theorem dX12_goRound_23 : decode cX12_goRound 23 = .ok (.iload 5, 2) := by decide +kernel
theorem dX12_goRound_25 : decode cX12_goRound 25 = .ok (.putfield 484, 3) := by decide +kernel
theorem dX12_goRound_28 : decode cX12_goRound 28 = .ok (.aload_n 0, 1) := by decide +kernel
theorem dX12_goRound_29 : decode cX12_goRound 29 = .ok (.iload 6, 2) := by decide +kernel
theorem dX12_goRound_31 : decode cX12_goRound 31 = .ok (.putfield 487, 3) := by decide +kernel
theorem dX12_goRound_34 : decode cX12_goRound 34 = .ok (.return_, 1) := by decide +kernel
theorem dX12_goRound_35 : decode cX12_goRound 35 = .ok (.iconst 0, 1) := by decide +kernel
theorem dX12_goRound_36 : decode cX12_goRound 36 = .ok (.istore 7, 2) := by decide +kernel
theorem dX12_goRound_38 : decode cX12_goRound 38 = .ok (.iload 7, 2) := by decide +kernel
theorem dX12_goRound_40 : decode cX12_goRound 40 = .ok (.aload_n 0, 1) := by decide +kernel
theorem dX12_goRound_41 : decode cX12_goRound 41 = .ok (.getfield 309, 3) := by decide +kernel
theorem dX12_goRound_44 : decode cX12_goRound 44 = .ok (.if_icmp .ge 94, 3) := by decide +kernel
theorem dX12_goRound_47 : decode cX12_goRound 47 = .ok (.iload_n 2, 1) := by decide +kernel
theorem dX12_goRound_48 : decode cX12_goRound 48 = .ok (.iload 7, 2) := by decide +kernel
theorem dX12_goRound_50 : decode cX12_goRound 50 = .ok (.invokestatic 244, 3) := by decide +kernel
theorem dX12_goRound_53 : decode cX12_goRound 53 = .ok (.ifCond .ne 6, 3) := by decide +kernel
theorem dX12_goRound_56 : decode cX12_goRound 56 = .ok (.goto 76, 3) := by decide +kernel
theorem dX12_goRound_59 : decode cX12_goRound 59 = .ok (.aload_n 0, 1) := by decide +kernel
theorem dX12_goRound_60 : decode cX12_goRound 60 = .ok (.iload_n 1, 1) := by decide +kernel
theorem dX12_goRound_61 : decode cX12_goRound 61 = .ok (.aload_n 0, 1) := by decide +kernel
theorem dX12_goRound_62 : decode cX12_goRound 62 = .ok (.iload 7, 2) := by decide +kernel
theorem dX12_goRound_64 : decode cX12_goRound 64 = .ok (.iconst 0, 1) := by decide +kernel
theorem dX12_goRound_65 : decode cX12_goRound 65 = .ok (.invokevirtual 318, 3) := by decide +kernel
theorem dX12_goRound_68 : decode cX12_goRound 68 = .ok (.iload_n 3, 1) := by decide +kernel
theorem dX12_goRound_69 : decode cX12_goRound 69 = .ok (.isub, 1) := by decide +kernel
theorem dX12_goRound_70 : decode cX12_goRound 70 = .ok (.invokestatic 334, 3) := by decide +kernel
theorem dX12_goRound_73 : decode cX12_goRound 73 = .ok (.aload_n 0, 1) := by decide +kernel
theorem dX12_goRound_74 : decode cX12_goRound 74 = .ok (.iload 7, 2) := by decide +kernel
theorem dX12_goRound_76 : decode cX12_goRound 76 = .ok (.iconst 1, 1) := by decide +kernel
theorem dX12_goRound_77 : decode cX12_goRound 77 = .ok (.invokevirtual 318, 3) := by decide +kernel
theorem dX12_goRound_80 : decode cX12_goRound 80 = .ok (.iload 4, 2) := by decide +kernel
theorem dX12_goRound_82 : decode cX12_goRound 82 = .ok (.isub, 1) := by decide +kernel
theorem dX12_goRound_83 : decode cX12_goRound 83 = .ok (.invokestatic 334, 3) := by decide +kernel
theorem dX12_goRound_86 : decode cX12_goRound 86 = .ok (.iadd, 1) := by decide +kernel
theorem dX12_goRound_87 : decode cX12_goRound 87 = .ok (.invokevirtual 431, 3) := by decide +kernel
theorem dX12_goRound_90 : decode cX12_goRound 90 = .ok (.istore 8, 2) := by decide +kernel
theorem dX12_goRound_92 : decode cX12_goRound 92 = .ok (.aload_n 0, 1) := by decide +kernel
theorem dX12_goRound_93 : decode cX12_goRound 93 = .ok (.iload_n 1, 1) := by decide +kernel
theorem dX12_goRound_94 : decode cX12_goRound 94 = .ok (.iload_n 2, 1) := by decide +kernel
theorem dX12_goRound_95 : decode cX12_goRound 95 = .ok (.iconst 1, 1) := by decide +kernel
theorem dX12_goRound_96 : decode cX12_goRound 96 = .ok (.iload 7, 2) := by decide +kernel
theorem dX12_goRound_98 : decode cX12_goRound 98 = .ok (.ishl, 1) := by decide +kernel
theorem dX12_goRound_99 : decode cX12_goRound 99 = .ok (.iconst (-1), 1) := by decide +kernel
theorem dX12_goRound_100 : decode cX12_goRound 100 = .ok (.ixor, 1) := by decide +kernel
theorem dX12_goRound_101 : decode cX12_goRound 101 = .ok (.iand, 1) := by decide +kernel
theorem dX12_goRound_102 : decode cX12_goRound 102 = .ok (.aload_n 0, 1) := by decide +kernel
theorem dX12_goRound_103 : decode cX12_goRound 103 = .ok (.iload 7, 2) := by decide +kernel
theorem dX12_goRound_105 : decode cX12_goRound 105 = .ok (.iconst 0, 1) := by decide +kernel
theorem dX12_goRound_106 : decode cX12_goRound 106 = .ok (.invokevirtual 318, 3) := by decide +kernel
theorem dX12_goRound_109 : decode cX12_goRound 109 = .ok (.aload_n 0, 1) := by decide +kernel
theorem dX12_goRound_110 : decode cX12_goRound 110 = .ok (.iload 7, 2) := by decide +kernel
theorem dX12_goRound_112 : decode cX12_goRound 112 = .ok (.iconst 1, 1) := by decide +kernel
theorem dX12_goRound_113 : decode cX12_goRound 113 = .ok (.invokevirtual 318, 3) := by decide +kernel
theorem dX12_goRound_116 : decode cX12_goRound 116 = .ok (.iload 5, 2) := by decide +kernel
theorem dX12_goRound_118 : decode cX12_goRound 118 = .ok (.iload 8, 2) := by decide +kernel
theorem dX12_goRound_120 : decode cX12_goRound 120 = .ok (.iadd, 1) := by decide +kernel
theorem dX12_goRound_121 : decode cX12_goRound 121 = .ok (.bipush 10, 2) := by decide +kernel
theorem dX12_goRound_123 : decode cX12_goRound 123 = .ok (.iload 6, 2) := by decide +kernel
theorem dX12_goRound_125 : decode cX12_goRound 125 = .ok (.imul, 1) := by decide +kernel
theorem dX12_goRound_126 : decode cX12_goRound 126 = .ok (.iload 7, 2) := by decide +kernel
theorem dX12_goRound_128 : decode cX12_goRound 128 = .ok (.iadd, 1) := by decide +kernel
theorem dX12_goRound_129 : decode cX12_goRound 129 = .ok (.invokevirtual 490, 3) := by decide +kernel
theorem dX12_goRound_132 : decode cX12_goRound 132 = .ok (.iinc 7 1, 3) := by decide +kernel
theorem dX12_goRound_135 : decode cX12_goRound 135 = .ok (.goto (-97), 3) := by decide +kernel
theorem dX12_goRound_138 : decode cX12_goRound 138 = .ok (.return_, 1) := by decide +kernel
theorem dX12_round_0 : decode cX12_round 0 = .ok (.aload_n 0, 1) := by decide +kernel
theorem dX12_round_1 : decode cX12_round 1 = .ok (.iconst 0, 1) := by decide +kernel
theorem dX12_round_2 : decode cX12_round 2 = .ok (.putfield 111, 3) := by decide +kernel
theorem dX12_round_5 : decode cX12_round 5 = .ok (.aload_n 0, 1) := by decide +kernel
theorem dX12_round_6 : decode cX12_round 6 = .ok (.iload_n 1, 1) := by decide +kernel
theorem dX12_round_7 : decode cX12_round 7 = .ok (.invokevirtual 412, 3) := by decide +kernel
theorem dX12_round_10 : decode cX12_round 10 = .ok (.ifCond .eq 27, 3) := by decide +kernel
theorem dX12_round_13 : decode cX12_round 13 = .ok (.iload_n 2, 1) := by decide +kernel
theorem dX12_round_14 : decode cX12_round 14 = .ok (.ifCond .lt 23, 3) := by decide +kernel
theorem dX12_round_17 : decode cX12_round 17 = .ok (.iload_n 2, 1) := by decide +kernel
theorem dX12_round_18 : decode cX12_round 18 = .ok (.iconst 1, 1) := by decide +kernel
theorem dX12_round_19 : decode cX12_round 19 = .ok (.aload_n 0, 1) := by decide +kernel
theorem dX12_round_20 : decode cX12_round 20 = .ok (.getfield 309, 3) := by decide +kernel
theorem dX12_round_23 : decode cX12_round 23 = .ok (.ishl, 1) := by decide +kernel
theorem dX12_round_24 : decode cX12_round 24 = .ok (.if_icmp .ge 13, 3) := by decide +kernel
theorem dX12_round_27 : decode cX12_round 27 = .ok (.iload_n 3, 1) := by decide +kernel
theorem dX12_round_28 : decode cX12_round 28 = .ok (.i2l, 1) := by decide +kernel
theorem dX12_round_29 : decode cX12_round 29 = .ok (.lconst 0, 1) := by decide +kernel
theorem dX12_round_30 : decode cX12_round 30 = .ok (.lconst 1, 1) := by decide +kernel
theorem dX12_round_31 : decode cX12_round 31 = .ok (.invokestatic 232, 3) := by decide +kernel
theorem dX12_round_34 : decode cX12_round 34 = .ok (.ifCond .ne 5, 3) := by decide +kernel
theorem dX12_round_37 : decode cX12_round 37 = .ok (.iconst (-1), 1) := by decide +kernel
theorem dX12_round_38 : decode cX12_round 38 = .ok (.ireturn, 1) := by decide +kernel
theorem dX12_round_39 : decode cX12_round 39 = .ok (.aload_n 0, 1) := by decide +kernel
theorem dX12_round_40 : decode cX12_round 40 = .ok (.iconst (-1), 1) := by decide +kernel
theorem dX12_round_41 : decode cX12_round 41 = .ok (.putfield 484, 3) := by decide +kernel
theorem dX12_round_44 : decode cX12_round 44 = .ok (.aload_n 0, 1) := by decide +kernel
theorem dX12_round_45 : decode cX12_round 45 = .ok (.iconst 0, 1) := by decide +kernel
theorem dX12_round_46 : decode cX12_round 46 = .ok (.putfield 487, 3) := by decide +kernel
theorem dX12_round_49 : decode cX12_round 49 = .ok (.aload_n 0, 1) := by decide +kernel
theorem dX12_round_50 : decode cX12_round 50 = .ok (.iload_n 1, 1) := by decide +kernel
theorem dX12_round_51 : decode cX12_round 51 = .ok (.iload_n 2, 1) := by decide +kernel
theorem dX12_round_52 : decode cX12_round 52 = .ok (.aload_n 0, 1) := by decide +kernel
theorem dX12_round_53 : decode cX12_round 53 = .ok (.getfield 61, 3) := by decide +kernel
theorem dX12_round_56 : decode cX12_round 56 = .ok (.iload_n 1, 1) := by decide +kernel
theorem dX12_round_57 : decode cX12_round 57 = .ok (.iconst 0, 1) := by decide +kernel
theorem dX12_round_58 : decode cX12_round 58 = .ok (.invokestatic 330, 3) := by decide +kernel
theorem dX12_round_61 : decode cX12_round 61 = .ok (.aload_n 0, 1) := by decide +kernel
theorem dX12_round_62 : decode cX12_round 62 = .ok (.getfield 61, 3) := by decide +kernel
theorem dX12_round_65 : decode cX12_round 65 = .ok (.iload_n 1, 1) := by decide +kernel
theorem dX12_round_66 : decode cX12_round 66 = .ok (.iconst 1, 1) := by decide +kernel
theorem dX12_round_67 : decode cX12_round 67 = .ok (.invokestatic 330, 3) := by decide +kernel
theorem dX12_round_70 : decode cX12_round 70 = .ok (.iconst 0, 1) := by decide +kernel
theorem dX12_round_71 : decode cX12_round 71 = .ok (.iconst 0, 1) := by decide +kernel
theorem dX12_round_72 : decode cX12_round 72 = .ok (.invokevirtual 490, 3) := by decide +kernel
theorem dX12_round_75 : decode cX12_round 75 = .ok (.iload_n 3, 1) := by decide +kernel
theorem dX12_round_76 : decode cX12_round 76 = .ok (.ifCond .ne 10, 3) := by decide +kernel
theorem dX12_round_79 : decode cX12_round 79 = .ok (.aload_n 0, 1) := by decide +kernel
theorem dX12_round_80 : decode cX12_round 80 = .ok (.getfield 487, 3) := by decide +kernel
theorem dX12_round_83 : decode cX12_round 83 = .ok (.goto 7, 3) := by decide +kernel
theorem dX12_round_86 : decode cX12_round 86 = .ok (.aload_n 0, 1) := by decide +kernel
theorem dX12_round_87 : decode cX12_round 87 = .ok (.getfield 484, 3) := by decide +kernel
theorem dX12_round_90 : decode cX12_round 90 = .ok (.ireturn, 1) := by decide +kernel
theorem dX12_puts_0 : decode cX12_puts 0 = .ok (.aload_n 0, 1) := by decide +kernel
theorem dX12_puts_1 : decode cX12_puts 1 = .ok (.bipush 40, 2) := by decide +kernel
theorem dX12_puts_3 : decode cX12_puts 3 = .ok (.bipush 6, 2) := by decide +kernel
theorem dX12_puts_5 : decode cX12_puts 5 = .ok (.iload_n 1, 1) := by decide +kernel
theorem dX12_puts_6 : decode cX12_puts 6 = .ok (.imul, 1) := by decide +kernel
theorem dX12_puts_7 : decode cX12_puts 7 = .ok (.iadd, 1) := by decide +kernel
theorem dX12_puts_8 : decode cX12_puts 8 = .ok (.iconst 0, 1) := by decide +kernel
theorem dX12_puts_9 : decode cX12_puts 9 = .ok (.iadd, 1) := by decide +kernel
theorem dX12_puts_10 : decode cX12_puts 10 = .ok (.iload_n 2, 1) := by decide +kernel
theorem dX12_puts_11 : decode cX12_puts 11 = .ok (.iastore, 1) := by decide +kernel
theorem dX12_puts_12 : decode cX12_puts 12 = .ok (.aload_n 0, 1) := by decide +kernel
theorem dX12_puts_13 : decode cX12_puts 13 = .ok (.bipush 40, 2) := by decide +kernel
theorem dX12_puts_15 : decode cX12_puts 15 = .ok (.bipush 6, 2) := by decide +kernel
theorem dX12_puts_17 : decode cX12_puts 17 = .ok (.iload_n 1, 1) := by decide +kernel
theorem dX12_puts_18 : decode cX12_puts 18 = .ok (.imul, 1) := by decide +kernel
theorem dX12_puts_19 : decode cX12_puts 19 = .ok (.iadd, 1) := by decide +kernel
theorem dX12_puts_20 : decode cX12_puts 20 = .ok (.iconst 1, 1) := by decide +kernel
theorem dX12_puts_21 : decode cX12_puts 21 = .ok (.iadd, 1) := by decide +kernel
theorem dX12_puts_22 : decode cX12_puts 22 = .ok (.iload_n 3, 1) := by decide +kernel
theorem dX12_puts_23 : decode cX12_puts 23 = .ok (.iastore, 1) := by decide +kernel
theorem dX12_puts_24 : decode cX12_puts 24 = .ok (.return_, 1) := by decide +kernel
theorem dX12_best_0 : decode cX12_best 0 = .ok (.aload_n 0, 1) := by decide +kernel
theorem dX12_best_1 : decode cX12_best 1 = .ok (.iconst 0, 1) := by decide +kernel
theorem dX12_best_2 : decode cX12_best 2 = .ok (.putfield 111, 3) := by decide +kernel
theorem dX12_best_5 : decode cX12_best 5 = .ok (.aload_n 0, 1) := by decide +kernel
theorem dX12_best_6 : decode cX12_best 6 = .ok (.iload_n 1, 1) := by decide +kernel
theorem dX12_best_7 : decode cX12_best 7 = .ok (.invokevirtual 412, 3) := by decide +kernel
theorem dX12_best_10 : decode cX12_best 10 = .ok (.ifCond .eq 13, 3) := by decide +kernel
theorem dX12_best_13 : decode cX12_best 13 = .ok (.iload_n 2, 1) := by decide +kernel
theorem dX12_best_14 : decode cX12_best 14 = .ok (.i2l, 1) := by decide +kernel
theorem dX12_best_15 : decode cX12_best 15 = .ok (.lconst 0, 1) := by decide +kernel
theorem dX12_best_16 : decode cX12_best 16 = .ok (.lconst 1, 1) := by decide +kernel
theorem dX12_best_17 : decode cX12_best 17 = .ok (.invokestatic 232, 3) := by decide +kernel
theorem dX12_best_20 : decode cX12_best 20 = .ok (.ifCond .ne 5, 3) := by decide +kernel
theorem dX12_best_23 : decode cX12_best 23 = .ok (.iconst (-1), 1) := by decide +kernel
theorem dX12_best_24 : decode cX12_best 24 = .ok (.ireturn, 1) := by decide +kernel
theorem dX12_best_25 : decode cX12_best 25 = .ok (.aload_n 0, 1) := by decide +kernel
theorem dX12_best_26 : decode cX12_best 26 = .ok (.getfield 61, 3) := by decide +kernel
theorem dX12_best_29 : decode cX12_best 29 = .ok (.aload_n 0, 1) := by decide +kernel
theorem dX12_best_30 : decode cX12_best 30 = .ok (.getfield 64, 3) := by decide +kernel
theorem dX12_best_33 : decode cX12_best 33 = .ok (.invokestatic 468, 3) := by decide +kernel
theorem dX12_best_36 : decode cX12_best 36 = .ok (.iconst (-1), 1) := by decide +kernel
theorem dX12_best_37 : decode cX12_best 37 = .ok (.istore_n 3, 1) := by decide +kernel
theorem dX12_best_38 : decode cX12_best 38 = .ok (.iconst 0, 1) := by decide +kernel
theorem dX12_best_39 : decode cX12_best 39 = .ok (.istore 4, 2) := by decide +kernel
theorem dX12_best_41 : decode cX12_best 41 = .ok (.iconst 0, 1) := by decide +kernel
theorem dX12_best_42 : decode cX12_best 42 = .ok (.istore 5, 2) := by decide +kernel
theorem dX12_best_44 : decode cX12_best 44 = .ok (.iload 5, 2) := by decide +kernel
theorem dX12_best_46 : decode cX12_best 46 = .ok (.bipush 100, 2) := by decide +kernel
theorem dX12_best_48 : decode cX12_best 48 = .ok (.if_icmp .ge 60, 3) := by decide +kernel
theorem dX12_best_51 : decode cX12_best 51 = .ok (.aload_n 0, 1) := by decide +kernel
theorem dX12_best_52 : decode cX12_best 52 = .ok (.getfield 64, 3) := by decide +kernel
theorem dX12_best_55 : decode cX12_best 55 = .ok (.iload_n 1, 1) := by decide +kernel
theorem dX12_best_56 : decode cX12_best 56 = .ok (.iload 5, 2) := by decide +kernel
theorem dX12_best_58 : decode cX12_best 58 = .ok (.bipush 10, 2) := by decide +kernel
theorem dX12_best_60 : decode cX12_best 60 = .ok (.irem, 1) := by decide +kernel
theorem dX12_best_61 : decode cX12_best 61 = .ok (.iload 5, 2) := by decide +kernel
theorem dX12_best_63 : decode cX12_best 63 = .ok (.bipush 10, 2) := by decide +kernel
theorem dX12_best_65 : decode cX12_best 65 = .ok (.idiv, 1) := by decide +kernel
theorem dX12_best_66 : decode cX12_best 66 = .ok (.invokestatic 494, 3) := by decide +kernel
theorem dX12_best_69 : decode cX12_best 69 = .ok (.aload_n 0, 1) := by decide +kernel
theorem dX12_best_70 : decode cX12_best 70 = .ok (.aload_n 0, 1) := by decide +kernel
theorem dX12_best_71 : decode cX12_best 71 = .ok (.getfield 64, 3) := by decide +kernel
theorem dX12_best_74 : decode cX12_best 74 = .ok (.iload_n 1, 1) := by decide +kernel
theorem dX12_best_75 : decode cX12_best 75 = .ok (.invokevirtual 390, 3) := by decide +kernel
theorem dX12_best_78 : decode cX12_best 78 = .ok (.istore 6, 2) := by decide +kernel
theorem dX12_best_80 : decode cX12_best 80 = .ok (.iload_n 3, 1) := by decide +kernel
theorem dX12_best_81 : decode cX12_best 81 = .ok (.iconst (-1), 1) := by decide +kernel
theorem dX12_best_82 : decode cX12_best 82 = .ok (.if_icmp .eq 13, 3) := by decide +kernel
theorem dX12_best_85 : decode cX12_best 85 = .ok (.iload 6, 2) := by decide +kernel
theorem dX12_best_87 : decode cX12_best 87 = .ok (.iload 4, 2) := by decide +kernel
theorem dX12_best_89 : decode cX12_best 89 = .ok (.if_icmp .gt 6, 3) := by decide +kernel
theorem dX12_best_92 : decode cX12_best 92 = .ok (.goto 10, 3) := by decide +kernel
theorem dX12_best_95 : decode cX12_best 95 = .ok (.iload 5, 2) := by decide +kernel
theorem dX12_best_97 : decode cX12_best 97 = .ok (.istore_n 3, 1) := by decide +kernel
theorem dX12_best_98 : decode cX12_best 98 = .ok (.iload 6, 2) := by decide +kernel
theorem dX12_best_100 : decode cX12_best 100 = .ok (.istore 4, 2) := by decide +kernel
theorem dX12_best_102 : decode cX12_best 102 = .ok (.iinc 5 1, 3) := by decide +kernel
theorem dX12_best_105 : decode cX12_best 105 = .ok (.goto (-61), 3) := by decide +kernel
theorem dX12_best_108 : decode cX12_best 108 = .ok (.iload_n 2, 1) := by decide +kernel
theorem dX12_best_109 : decode cX12_best 109 = .ok (.ifCond .ne 7, 3) := by decide +kernel
theorem dX12_best_112 : decode cX12_best 112 = .ok (.iload_n 3, 1) := by decide +kernel
theorem dX12_best_113 : decode cX12_best 113 = .ok (.goto 5, 3) := by decide +kernel
theorem dX12_best_116 : decode cX12_best 116 = .ok (.iload 4, 2) := by decide +kernel
theorem dX12_best_118 : decode cX12_best 118 = .ok (.ireturn, 1) := by decide +kernel
theorem dX12_areTwo_0 : decode cX12_areTwo 0 = .ok (.aload_n 0, 1) := by decide +kernel
theorem dX12_areTwo_1 : decode cX12_areTwo 1 = .ok (.iload_n 1, 1) := by decide +kernel
theorem dX12_areTwo_2 : decode cX12_areTwo 2 = .ok (.invokevirtual 412, 3) := by decide +kernel
theorem dX12_areTwo_5 : decode cX12_areTwo 5 = .ok (.ifCond .eq 20, 3) := by decide +kernel
theorem dX12_areTwo_8 : decode cX12_areTwo 8 = .ok (.aload_n 0, 1) := by decide +kernel
theorem dX12_areTwo_9 : decode cX12_areTwo 9 = .ok (.iload_n 2, 1) := by decide +kernel
theorem dX12_areTwo_10 : decode cX12_areTwo 10 = .ok (.invokevirtual 412, 3) := by decide +kernel
theorem dX12_areTwo_13 : decode cX12_areTwo 13 = .ok (.ifCond .eq 12, 3) := by decide +kernel
theorem dX12_areTwo_16 : decode cX12_areTwo 16 = .ok (.iload_n 1, 1) := by decide +kernel
theorem dX12_areTwo_17 : decode cX12_areTwo 17 = .ok (.iload_n 2, 1) := by decide +kernel
theorem dX12_areTwo_18 : decode cX12_areTwo 18 = .ok (.if_icmp .eq 7, 3) := by decide +kernel
theorem dX12_areTwo_21 : decode cX12_areTwo 21 = .ok (.iconst 1, 1) := by decide +kernel
theorem dX12_areTwo_22 : decode cX12_areTwo 22 = .ok (.goto 4, 3) := by decide +kernel
theorem dX12_areTwo_25 : decode cX12_areTwo 25 = .ok (.iconst 0, 1) := by decide +kernel
theorem dX12_areTwo_26 : decode cX12_areTwo 26 = .ok (.ireturn, 1) := by decide +kernel
theorem dX12_layAt_0 : decode cX12_layAt 0 = .ok (.aload_n 0, 1) := by decide +kernel
theorem dX12_layAt_1 : decode cX12_layAt 1 = .ok (.getfield 61, 3) := by decide +kernel
theorem dX12_layAt_4 : decode cX12_layAt 4 = .ok (.aload_n 0, 1) := by decide +kernel
theorem dX12_layAt_5 : decode cX12_layAt 5 = .ok (.getfield 64, 3) := by decide +kernel
theorem dX12_layAt_8 : decode cX12_layAt 8 = .ok (.invokestatic 468, 3) := by decide +kernel
theorem dX12_layAt_11 : decode cX12_layAt 11 = .ok (.aload_n 0, 1) := by decide +kernel
theorem dX12_layAt_12 : decode cX12_layAt 12 = .ok (.getfield 64, 3) := by decide +kernel
theorem dX12_layAt_15 : decode cX12_layAt 15 = .ok (.iload_n 1, 1) := by decide +kernel
theorem dX12_layAt_16 : decode cX12_layAt 16 = .ok (.aload_n 0, 1) := by decide +kernel
theorem dX12_layAt_17 : decode cX12_layAt 17 = .ok (.iload_n 3, 1) := by decide +kernel
theorem dX12_layAt_18 : decode cX12_layAt 18 = .ok (.iconst 0, 1) := by decide +kernel
theorem dX12_layAt_19 : decode cX12_layAt 19 = .ok (.invokevirtual 318, 3) := by decide +kernel
theorem dX12_layAt_22 : decode cX12_layAt 22 = .ok (.aload_n 0, 1) := by decide +kernel
theorem dX12_layAt_23 : decode cX12_layAt 23 = .ok (.iload_n 3, 1) := by decide +kernel
theorem dX12_layAt_24 : decode cX12_layAt 24 = .ok (.iconst 1, 1) := by decide +kernel
theorem dX12_layAt_25 : decode cX12_layAt 25 = .ok (.invokevirtual 318, 3) := by decide +kernel
theorem dX12_layAt_28 : decode cX12_layAt 28 = .ok (.invokestatic 494, 3) := by decide +kernel
theorem dX12_layAt_31 : decode cX12_layAt 31 = .ok (.aload_n 0, 1) := by decide +kernel
theorem dX12_layAt_32 : decode cX12_layAt 32 = .ok (.getfield 64, 3) := by decide +kernel
theorem dX12_layAt_35 : decode cX12_layAt 35 = .ok (.iload_n 2, 1) := by decide +kernel
theorem dX12_layAt_36 : decode cX12_layAt 36 = .ok (.aload_n 0, 1) := by decide +kernel
theorem dX12_layAt_37 : decode cX12_layAt 37 = .ok (.iload 4, 2) := by decide +kernel
theorem dX12_layAt_39 : decode cX12_layAt 39 = .ok (.iconst 0, 1) := by decide +kernel
theorem dX12_layAt_40 : decode cX12_layAt 40 = .ok (.invokevirtual 318, 3) := by decide +kernel
theorem dX12_layAt_43 : decode cX12_layAt 43 = .ok (.aload_n 0, 1) := by decide +kernel
theorem dX12_layAt_44 : decode cX12_layAt 44 = .ok (.iload 4, 2) := by decide +kernel
theorem dX12_layAt_46 : decode cX12_layAt 46 = .ok (.iconst 1, 1) := by decide +kernel
theorem dX12_layAt_47 : decode cX12_layAt 47 = .ok (.invokevirtual 318, 3) := by decide +kernel
theorem dX12_layAt_50 : decode cX12_layAt 50 = .ok (.invokestatic 494, 3) := by decide +kernel
theorem dX12_layAt_53 : decode cX12_layAt 53 = .ok (.return_, 1) := by decide +kernel
theorem dX12_gameOf_0 : decode cX12_gameOf 0 = .ok (.aload_n 0, 1) := by decide +kernel
theorem dX12_gameOf_1 : decode cX12_gameOf 1 = .ok (.iload_n 1, 1) := by decide +kernel
theorem dX12_gameOf_2 : decode cX12_gameOf 2 = .ok (.iload_n 2, 1) := by decide +kernel
theorem dX12_gameOf_3 : decode cX12_gameOf 3 = .ok (.iload_n 3, 1) := by decide +kernel
theorem dX12_gameOf_4 : decode cX12_gameOf 4 = .ok (.iload 4, 2) := by decide +kernel
theorem dX12_gameOf_6 : decode cX12_gameOf 6 = .ok (.invokevirtual 497, 3) := by decide +kernel
theorem dX12_gameOf_9 : decode cX12_gameOf 9 = .ok (.aload_n 0, 1) := by decide +kernel
theorem dX12_gameOf_10 : decode cX12_gameOf 10 = .ok (.aload_n 0, 1) := by decide +kernel
theorem dX12_gameOf_11 : decode cX12_gameOf 11 = .ok (.getfield 64, 3) := by decide +kernel
theorem dX12_gameOf_14 : decode cX12_gameOf 14 = .ok (.iload 5, 2) := by decide +kernel
theorem dX12_gameOf_16 : decode cX12_gameOf 16 = .ok (.ifCond .ne 7, 3) := by decide +kernel
theorem dX12_gameOf_19 : decode cX12_gameOf 19 = .ok (.iload_n 1, 1) := by decide +kernel
theorem dX12_gameOf_20 : decode cX12_gameOf 20 = .ok (.goto 4, 3) := by decide +kernel
theorem dX12_gameOf_23 : decode cX12_gameOf 23 = .ok (.iload_n 2, 1) := by decide +kernel
theorem dX12_gameOf_24 : decode cX12_gameOf 24 = .ok (.invokevirtual 390, 3) := by decide +kernel
theorem dX12_gameOf_27 : decode cX12_gameOf 27 = .ok (.ireturn, 1) := by decide +kernel
theorem dX12_game_0 : decode cX12_game 0 = .ok (.aload_n 0, 1) := by decide +kernel
theorem dX12_game_1 : decode cX12_game 1 = .ok (.iconst 0, 1) := by decide +kernel
theorem dX12_game_2 : decode cX12_game 2 = .ok (.putfield 111, 3) := by decide +kernel
theorem dX12_game_5 : decode cX12_game 5 = .ok (.aload_n 0, 1) := by decide +kernel
theorem dX12_game_6 : decode cX12_game 6 = .ok (.iload_n 1, 1) := by decide +kernel
theorem dX12_game_7 : decode cX12_game 7 = .ok (.iload_n 2, 1) := by decide +kernel
theorem dX12_game_8 : decode cX12_game 8 = .ok (.invokevirtual 501, 3) := by decide +kernel
theorem dX12_game_11 : decode cX12_game 11 = .ok (.ifCond .eq 45, 3) := by decide +kernel
theorem dX12_game_14 : decode cX12_game 14 = .ok (.aload_n 0, 1) := by decide +kernel
theorem dX12_game_15 : decode cX12_game 15 = .ok (.iload_n 3, 1) := by decide +kernel
theorem dX12_game_16 : decode cX12_game 16 = .ok (.invokevirtual 407, 3) := by decide +kernel
theorem dX12_game_19 : decode cX12_game 19 = .ok (.ifCond .eq 37, 3) := by decide +kernel
theorem dX12_game_22 : decode cX12_game 22 = .ok (.aload_n 0, 1) := by decide +kernel
theorem dX12_game_23 : decode cX12_game 23 = .ok (.iload 4, 2) := by decide +kernel
theorem dX12_game_25 : decode cX12_game 25 = .ok (.invokevirtual 407, 3) := by decide +kernel
theorem dX12_game_28 : decode cX12_game 28 = .ok (.ifCond .eq 28, 3) := by decide +kernel
theorem dX12_game_31 : decode cX12_game 31 = .ok (.iload 5, 2) := by decide +kernel
theorem dX12_game_33 : decode cX12_game 33 = .ok (.i2l, 1) := by decide +kernel
theorem dX12_game_34 : decode cX12_game 34 = .ok (.lconst 0, 1) := by decide +kernel
theorem dX12_game_35 : decode cX12_game 35 = .ok (.lconst 1, 1) := by decide +kernel
theorem dX12_game_36 : decode cX12_game 36 = .ok (.invokestatic 232, 3) := by decide +kernel
theorem dX12_game_39 : decode cX12_game 39 = .ok (.ifCond .eq 17, 3) := by decide +kernel
theorem dX12_game_42 : decode cX12_game 42 = .ok (.aload_n 0, 1) := by decide +kernel
theorem dX12_game_43 : decode cX12_game 43 = .ok (.iload_n 1, 1) := by decide +kernel
theorem dX12_game_44 : decode cX12_game 44 = .ok (.iload_n 2, 1) := by decide +kernel
theorem dX12_game_45 : decode cX12_game 45 = .ok (.iload_n 3, 1) := by decide +kernel
theorem dX12_game_46 : decode cX12_game 46 = .ok (.iload 4, 2) := by decide +kernel
theorem dX12_game_48 : decode cX12_game 48 = .ok (.iload 5, 2) := by decide +kernel
theorem dX12_game_50 : decode cX12_game 50 = .ok (.invokevirtual 504, 3) := by decide +kernel
theorem dX12_game_53 : decode cX12_game 53 = .ok (.goto 4, 3) := by decide +kernel
theorem dX12_game_56 : decode cX12_game 56 = .ok (.iconst (-1), 1) := by decide +kernel
theorem dX12_game_57 : decode cX12_game 57 = .ok (.ireturn, 1) := by decide +kernel
theorem dX12_layGains_0 : decode cX12_layGains 0 = .ok (.iconst 0, 1) := by decide +kernel
theorem dX12_layGains_1 : decode cX12_layGains 1 = .ok (.istore_n 3, 1) := by decide +kernel
theorem dX12_layGains_2 : decode cX12_layGains 2 = .ok (.iload_n 3, 1) := by decide +kernel
theorem dX12_layGains_3 : decode cX12_layGains 3 = .ok (.aload_n 0, 1) := by decide +kernel
theorem dX12_layGains_4 : decode cX12_layGains 4 = .ok (.getfield 309, 3) := by decide +kernel
theorem dX12_layGains_7 : decode cX12_layGains 7 = .ok (.if_icmp .ge 84, 3) := by decide +kernel
theorem dX12_layGains_10 : decode cX12_layGains 10 = .ok (.iconst 0, 1) := by decide +kernel
theorem dX12_layGains_11 : decode cX12_layGains 11 = .ok (.istore 4, 2) := by decide +kernel
theorem dX12_layGains_13 : decode cX12_layGains 13 = .ok (.iload 4, 2) := by decide +kernel
theorem dX12_layGains_15 : decode cX12_layGains 15 = .ok (.aload_n 0, 1) := by decide +kernel
theorem dX12_layGains_16 : decode cX12_layGains 16 = .ok (.getfield 309, 3) := by decide +kernel
theorem dX12_layGains_19 : decode cX12_layGains 19 = .ok (.if_icmp .ge 66, 3) := by decide +kernel
theorem dX12_layGains_22 : decode cX12_layGains 22 = .ok (.aload_n 0, 1) := by decide +kernel
theorem dX12_layGains_23 : decode cX12_layGains 23 = .ok (.iload_n 1, 1) := by decide +kernel
theorem dX12_layGains_24 : decode cX12_layGains 24 = .ok (.iload_n 2, 1) := by decide +kernel
theorem dX12_layGains_25 : decode cX12_layGains 25 = .ok (.iload_n 3, 1) := by decide +kernel
theorem dX12_layGains_26 : decode cX12_layGains 26 = .ok (.iload 4, 2) := by decide +kernel
theorem dX12_layGains_28 : decode cX12_layGains 28 = .ok (.invokevirtual 497, 3) := by decide +kernel
theorem dX12_layGains_31 : decode cX12_layGains 31 = .ok (.aload_n 0, 1) := by decide +kernel
theorem dX12_layGains_32 : decode cX12_layGains 32 = .ok (.getfield 90, 3) := by decide +kernel
theorem dX12_layGains_35 : decode cX12_layGains 35 = .ok (.iconst 2, 1) := by decide +kernel
theorem dX12_layGains_36 : decode cX12_layGains 36 = .ok (.bipush 8, 2) := by decide +kernel
theorem dX12_layGains_38 : decode cX12_layGains 38 = .ok (.iload_n 3, 1) := by decide +kernel
theorem dX12_layGains_39 : decode cX12_layGains 39 = .ok (.imul, 1) := by decide +kernel
theorem dX12_layGains_40 : decode cX12_layGains 40 = .ok (.iload 4, 2) := by decide +kernel
theorem dX12_layGains_42 : decode cX12_layGains 42 = .ok (.iadd, 1) := by decide +kernel
theorem dX12_layGains_43 : decode cX12_layGains 43 = .ok (.imul, 1) := by decide +kernel
theorem dX12_layGains_44 : decode cX12_layGains 44 = .ok (.aload_n 0, 1) := by decide +kernel
theorem dX12_layGains_45 : decode cX12_layGains 45 = .ok (.aload_n 0, 1) := by decide +kernel
theorem dX12_layGains_46 : decode cX12_layGains 46 = .ok (.getfield 64, 3) := by decide +kernel
theorem dX12_layGains_49 : decode cX12_layGains 49 = .ok (.iload_n 1, 1) := by decide +kernel
theorem dX12_layGains_50 : decode cX12_layGains 50 = .ok (.invokevirtual 390, 3) := by decide +kernel
theorem dX12_layGains_53 : decode cX12_layGains 53 = .ok (.iastore, 1) := by decide +kernel
theorem dX12_layGains_54 : decode cX12_layGains 54 = .ok (.aload_n 0, 1) := by decide +kernel
theorem dX12_layGains_55 : decode cX12_layGains 55 = .ok (.getfield 90, 3) := by decide +kernel
theorem dX12_layGains_58 : decode cX12_layGains 58 = .ok (.iconst 2, 1) := by decide +kernel
theorem dX12_layGains_59 : decode cX12_layGains 59 = .ok (.bipush 8, 2) := by decide +kernel
theorem dX12_layGains_61 : decode cX12_layGains 61 = .ok (.iload_n 3, 1) := by decide +kernel
theorem dX12_layGains_62 : decode cX12_layGains 62 = .ok (.imul, 1) := by decide +kernel
theorem dX12_layGains_63 : decode cX12_layGains 63 = .ok (.iload 4, 2) := by decide +kernel
theorem dX12_layGains_65 : decode cX12_layGains 65 = .ok (.iadd, 1) := by decide +kernel
theorem dX12_layGains_66 : decode cX12_layGains 66 = .ok (.imul, 1) := by decide +kernel
theorem dX12_layGains_67 : decode cX12_layGains 67 = .ok (.iconst 1, 1) := by decide +kernel
theorem dX12_layGains_68 : decode cX12_layGains 68 = .ok (.iadd, 1) := by decide +kernel
theorem dX12_layGains_69 : decode cX12_layGains 69 = .ok (.aload_n 0, 1) := by decide +kernel
theorem dX12_layGains_70 : decode cX12_layGains 70 = .ok (.aload_n 0, 1) := by decide +kernel
theorem dX12_layGains_71 : decode cX12_layGains 71 = .ok (.getfield 64, 3) := by decide +kernel
theorem dX12_layGains_74 : decode cX12_layGains 74 = .ok (.iload_n 2, 1) := by decide +kernel
theorem dX12_layGains_75 : decode cX12_layGains 75 = .ok (.invokevirtual 390, 3) := by decide +kernel
theorem dX12_layGains_78 : decode cX12_layGains 78 = .ok (.iastore, 1) := by decide +kernel
theorem dX12_layGains_79 : decode cX12_layGains 79 = .ok (.iinc 4 1, 3) := by decide +kernel
theorem dX12_layGains_82 : decode cX12_layGains 82 = .ok (.goto (-69), 3) := by decide +kernel
theorem dX12_layGains_85 : decode cX12_layGains 85 = .ok (.iinc 3 1, 3) := by decide +kernel
theorem dX12_layGains_88 : decode cX12_layGains 88 = .ok (.goto (-86), 3) := by decide +kernel
theorem dX12_layGains_91 : decode cX12_layGains 91 = .ok (.return_, 1) := by decide +kernel
theorem dX12_gain_0 : decode cX12_gain 0 = .ok (.aload_n 0, 1) := by decide +kernel
theorem dX12_gain_1 : decode cX12_gain 1 = .ok (.getfield 90, 3) := by decide +kernel
theorem dX12_gain_4 : decode cX12_gain 4 = .ok (.iconst 2, 1) := by decide +kernel
theorem dX12_gain_5 : decode cX12_gain 5 = .ok (.bipush 8, 2) := by decide +kernel
theorem dX12_gain_7 : decode cX12_gain 7 = .ok (.iload_n 1, 1) := by decide +kernel
theorem dX12_gain_8 : decode cX12_gain 8 = .ok (.imul, 1) := by decide +kernel
theorem dX12_gain_9 : decode cX12_gain 9 = .ok (.iload_n 2, 1) := by decide +kernel
theorem dX12_gain_10 : decode cX12_gain 10 = .ok (.iadd, 1) := by decide +kernel
theorem dX12_gain_11 : decode cX12_gain 11 = .ok (.imul, 1) := by decide +kernel
theorem dX12_gain_12 : decode cX12_gain 12 = .ok (.iload_n 3, 1) := by decide +kernel
theorem dX12_gain_13 : decode cX12_gain 13 = .ok (.iadd, 1) := by decide +kernel
theorem dX12_gain_14 : decode cX12_gain 14 = .ok (.iaload, 1) := by decide +kernel
theorem dX12_gain_15 : decode cX12_gain 15 = .ok (.ireturn, 1) := by decide +kernel
theorem dX12_isRest_0 : decode cX12_isRest 0 = .ok (.iconst 0, 1) := by decide +kernel
theorem dX12_isRest_1 : decode cX12_isRest 1 = .ok (.istore_n 3, 1) := by decide +kernel
theorem dX12_isRest_2 : decode cX12_isRest 2 = .ok (.iload_n 3, 1) := by decide +kernel
theorem dX12_isRest_3 : decode cX12_isRest 3 = .ok (.aload_n 0, 1) := by decide +kernel
theorem dX12_isRest_4 : decode cX12_isRest 4 = .ok (.getfield 309, 3) := by decide +kernel
theorem dX12_isRest_7 : decode cX12_isRest 7 = .ok (.if_icmp .ge 45, 3) := by decide +kernel
theorem dX12_isRest_10 : decode cX12_isRest 10 = .ok (.aload_n 0, 1) := by decide +kernel
theorem dX12_isRest_11 : decode cX12_isRest 11 = .ok (.iload_n 3, 1) := by decide +kernel
theorem dX12_isRest_12 : decode cX12_isRest 12 = .ok (.iload_n 2, 1) := by decide +kernel
theorem dX12_isRest_13 : decode cX12_isRest 13 = .ok (.iconst 0, 1) := by decide +kernel
theorem dX12_isRest_14 : decode cX12_isRest 14 = .ok (.invokevirtual 508, 3) := by decide +kernel
theorem dX12_isRest_17 : decode cX12_isRest 17 = .ok (.aload_n 0, 1) := by decide +kernel
theorem dX12_isRest_18 : decode cX12_isRest 18 = .ok (.iload_n 1, 1) := by decide +kernel
theorem dX12_isRest_19 : decode cX12_isRest 19 = .ok (.iload_n 2, 1) := by decide +kernel
theorem dX12_isRest_20 : decode cX12_isRest 20 = .ok (.iconst 0, 1) := by decide +kernel
theorem dX12_isRest_21 : decode cX12_isRest 21 = .ok (.invokevirtual 508, 3) := by decide +kernel
theorem dX12_isRest_24 : decode cX12_isRest 24 = .ok (.if_icmp .gt 20, 3) := by decide +kernel
theorem dX12_isRest_27 : decode cX12_isRest 27 = .ok (.aload_n 0, 1) := by decide +kernel
theorem dX12_isRest_28 : decode cX12_isRest 28 = .ok (.iload_n 1, 1) := by decide +kernel
theorem dX12_isRest_29 : decode cX12_isRest 29 = .ok (.iload_n 3, 1) := by decide +kernel
theorem dX12_isRest_30 : decode cX12_isRest 30 = .ok (.iconst 1, 1) := by decide +kernel
theorem dX12_isRest_31 : decode cX12_isRest 31 = .ok (.invokevirtual 508, 3) := by decide +kernel
theorem dX12_isRest_34 : decode cX12_isRest 34 = .ok (.aload_n 0, 1) := by decide +kernel
theorem dX12_isRest_35 : decode cX12_isRest 35 = .ok (.iload_n 1, 1) := by decide +kernel
theorem dX12_isRest_36 : decode cX12_isRest 36 = .ok (.iload_n 2, 1) := by decide +kernel
theorem dX12_isRest_37 : decode cX12_isRest 37 = .ok (.iconst 1, 1) := by decide +kernel
theorem dX12_isRest_38 : decode cX12_isRest 38 = .ok (.invokevirtual 508, 3) := by decide +kernel
theorem dX12_isRest_41 : decode cX12_isRest 41 = .ok (.if_icmp .le 5, 3) := by decide +kernel
theorem dX12_isRest_44 : decode cX12_isRest 44 = .ok (.iconst 0, 1) := by decide +kernel
theorem dX12_isRest_45 : decode cX12_isRest 45 = .ok (.ireturn, 1) := by decide +kernel
theorem dX12_isRest_46 : decode cX12_isRest 46 = .ok (.iinc 3 1, 3) := by decide +kernel
theorem dX12_isRest_49 : decode cX12_isRest 49 = .ok (.goto (-47), 3) := by decide +kernel
theorem dX12_isRest_52 : decode cX12_isRest 52 = .ok (.iconst 1, 1) := by decide +kernel
theorem dX12_isRest_53 : decode cX12_isRest 53 = .ok (.ireturn, 1) := by decide +kernel
theorem dX12_rests_0 : decode cX12_rests 0 = .ok (.aload_n 0, 1) := by decide +kernel
theorem dX12_rests_1 : decode cX12_rests 1 = .ok (.iconst 0, 1) := by decide +kernel
theorem dX12_rests_2 : decode cX12_rests 2 = .ok (.putfield 111, 3) := by decide +kernel
theorem dX12_rests_5 : decode cX12_rests 5 = .ok (.aload_n 0, 1) := by decide +kernel
theorem dX12_rests_6 : decode cX12_rests 6 = .ok (.iload_n 1, 1) := by decide +kernel
theorem dX12_rests_7 : decode cX12_rests 7 = .ok (.iload_n 2, 1) := by decide +kernel
theorem dX12_rests_8 : decode cX12_rests 8 = .ok (.invokevirtual 501, 3) := by decide +kernel
theorem dX12_rests_11 : decode cX12_rests 11 = .ok (.ifCond .eq 8, 3) := by decide +kernel
theorem dX12_rests_14 : decode cX12_rests 14 = .ok (.iload_n 3, 1) := by decide +kernel
theorem dX12_rests_15 : decode cX12_rests 15 = .ok (.iconst (-1), 1) := by decide +kernel
theorem dX12_rests_16 : decode cX12_rests 16 = .ok (.if_icmp .ge 5, 3) := by decide +kernel
theorem dX12_rests_19 : decode cX12_rests 19 = .ok (.iconst (-1), 1) := by decide +kernel
theorem dX12_rests_20 : decode cX12_rests 20 = .ok (.ireturn, 1) := by decide +kernel
theorem dX12_rests_21 : decode cX12_rests 21 = .ok (.aload_n 0, 1) := by decide +kernel
theorem dX12_rests_22 : decode cX12_rests 22 = .ok (.iload_n 1, 1) := by decide +kernel
theorem dX12_rests_23 : decode cX12_rests 23 = .ok (.iload_n 2, 1) := by decide +kernel
theorem dX12_rests_24 : decode cX12_rests 24 = .ok (.invokevirtual 511, 3) := by decide +kernel
theorem dX12_rests_27 : decode cX12_rests 27 = .ok (.iconst 0, 1) := by decide +kernel
theorem dX12_rests_28 : decode cX12_rests 28 = .ok (.istore 4, 2) := by decide +kernel
theorem dX12_rests_30 : decode cX12_rests 30 = .ok (.iconst 0, 1) := by decide +kernel
theorem dX12_rests_31 : decode cX12_rests 31 = .ok (.istore 5, 2) := by decide +kernel
theorem dX12_rests_33 : decode cX12_rests 33 = .ok (.iload 5, 2) := by decide +kernel
theorem dX12_rests_35 : decode cX12_rests 35 = .ok (.aload_n 0, 1) := by decide +kernel
theorem dX12_rests_36 : decode cX12_rests 36 = .ok (.getfield 309, 3) := by decide +kernel
theorem dX12_rests_39 : decode cX12_rests 39 = .ok (.if_icmp .ge 59, 3) := by decide +kernel
theorem dX12_rests_42 : decode cX12_rests 42 = .ok (.iconst 0, 1) := by decide +kernel
theorem dX12_rests_43 : decode cX12_rests 43 = .ok (.istore 6, 2) := by decide +kernel
theorem dX12_rests_45 : decode cX12_rests 45 = .ok (.iload 6, 2) := by decide +kernel
theorem dX12_rests_47 : decode cX12_rests 47 = .ok (.aload_n 0, 1) := by decide +kernel
theorem dX12_rests_48 : decode cX12_rests 48 = .ok (.getfield 309, 3) := by decide +kernel
theorem dX12_rests_51 : decode cX12_rests 51 = .ok (.if_icmp .ge 41, 3) := by decide +kernel
theorem dX12_rests_54 : decode cX12_rests 54 = .ok (.aload_n 0, 1) := by decide +kernel
theorem dX12_rests_55 : decode cX12_rests 55 = .ok (.iload 5, 2) := by decide +kernel
theorem dX12_rests_57 : decode cX12_rests 57 = .ok (.iload 6, 2) := by decide +kernel
theorem dX12_rests_59 : decode cX12_rests 59 = .ok (.invokevirtual 515, 3) := by decide +kernel
theorem dX12_rests_62 : decode cX12_rests 62 = .ok (.ifCond .ne 6, 3) := by decide +kernel
theorem dX12_rests_65 : decode cX12_rests 65 = .ok (.goto 21, 3) := by decide +kernel
theorem dX12_rests_68 : decode cX12_rests 68 = .ok (.iload 4, 2) := by decide +kernel
theorem dX12_rests_70 : decode cX12_rests 70 = .ok (.iload_n 3, 1) := by decide +kernel
theorem dX12_rests_71 : decode cX12_rests 71 = .ok (.if_icmp .ne 12, 3) := by decide +kernel
theorem dX12_rests_74 : decode cX12_rests 74 = .ok (.bipush 10, 2) := by decide +kernel
theorem dX12_rests_76 : decode cX12_rests 76 = .ok (.iload 5, 2) := by decide +kernel
theorem dX12_rests_78 : decode cX12_rests 78 = .ok (.imul, 1) := by decide +kernel
theorem dX12_rests_79 : decode cX12_rests 79 = .ok (.iload 6, 2) := by decide +kernel
theorem dX12_rests_81 : decode cX12_rests 81 = .ok (.iadd, 1) := by decide +kernel
theorem dX12_rests_82 : decode cX12_rests 82 = .ok (.ireturn, 1) := by decide +kernel
theorem dX12_rests_83 : decode cX12_rests 83 = .ok (.iinc 4 1, 3) := by decide +kernel
theorem dX12_rests_86 : decode cX12_rests 86 = .ok (.iinc 6 1, 3) := by decide +kernel
theorem dX12_rests_89 : decode cX12_rests 89 = .ok (.goto (-44), 3) := by decide +kernel
theorem dX12_rests_92 : decode cX12_rests 92 = .ok (.iinc 5 1, 3) := by decide +kernel
theorem dX12_rests_95 : decode cX12_rests 95 = .ok (.goto (-62), 3) := by decide +kernel
theorem dX12_rests_98 : decode cX12_rests 98 = .ok (.iload_n 3, 1) := by decide +kernel
theorem dX12_rests_99 : decode cX12_rests 99 = .ok (.iconst (-1), 1) := by decide +kernel
theorem dX12_rests_100 : decode cX12_rests 100 = .ok (.if_icmp .ne 8, 3) := by decide +kernel
theorem dX12_rests_103 : decode cX12_rests 103 = .ok (.iload 4, 2) := by decide +kernel
theorem dX12_rests_105 : decode cX12_rests 105 = .ok (.goto 4, 3) := by decide +kernel
theorem dX12_rests_108 : decode cX12_rests 108 = .ok (.iconst (-1), 1) := by decide +kernel
theorem dX12_rests_109 : decode cX12_rests 109 = .ok (.ireturn, 1) := by decide +kernel
theorem dX12_holds_0 : decode cX12_holds 0 = .ok (.aload_n 0, 1) := by decide +kernel
theorem dX12_holds_1 : decode cX12_holds 1 = .ok (.iconst 0, 1) := by decide +kernel
theorem dX12_holds_2 : decode cX12_holds 2 = .ok (.putfield 111, 3) := by decide +kernel
theorem dX12_holds_5 : decode cX12_holds 5 = .ok (.aload_n 0, 1) := by decide +kernel
theorem dX12_holds_6 : decode cX12_holds 6 = .ok (.iload_n 1, 1) := by decide +kernel
theorem dX12_holds_7 : decode cX12_holds 7 = .ok (.iload_n 2, 1) := by decide +kernel
theorem dX12_holds_8 : decode cX12_holds 8 = .ok (.invokevirtual 501, 3) := by decide +kernel
theorem dX12_holds_11 : decode cX12_holds 11 = .ok (.ifCond .eq 13, 3) := by decide +kernel
theorem dX12_holds_14 : decode cX12_holds 14 = .ok (.iload_n 3, 1) := by decide +kernel
theorem dX12_holds_15 : decode cX12_holds 15 = .ok (.i2l, 1) := by decide +kernel
theorem dX12_holds_16 : decode cX12_holds 16 = .ok (.lconst 0, 1) := by decide +kernel
theorem dX12_holds_17 : decode cX12_holds 17 = .ok (.lconst 1, 1) := by decide +kernel
theorem dX12_holds_18 : decode cX12_holds 18 = .ok (.invokestatic 232, 3) := by decide +kernel
theorem dX12_holds_21 : decode cX12_holds 21 = .ok (.ifCond .ne 7, 3) := by decide +kernel
theorem dX12_holds_24 : decode cX12_holds 24 = .ok (.ldc_w 417, 3) := by decide +kernel
theorem dX12_holds_27 : decode cX12_holds 27 = .ok (.ireturn, 1) := by decide +kernel
theorem dX12_holds_28 : decode cX12_holds 28 = .ok (.aload_n 0, 1) := by decide +kernel
theorem dX12_holds_29 : decode cX12_holds 29 = .ok (.iload_n 1, 1) := by decide +kernel
theorem dX12_holds_30 : decode cX12_holds 30 = .ok (.iload_n 2, 1) := by decide +kernel
theorem dX12_holds_31 : decode cX12_holds 31 = .ok (.invokevirtual 511, 3) := by decide +kernel
theorem dX12_holds_34 : decode cX12_holds 34 = .ok (.iconst (-1), 1) := by decide +kernel
theorem dX12_holds_35 : decode cX12_holds 35 = .ok (.istore 4, 2) := by decide +kernel
theorem dX12_holds_37 : decode cX12_holds 37 = .ok (.iconst 0, 1) := by decide +kernel
theorem dX12_holds_38 : decode cX12_holds 38 = .ok (.istore 5, 2) := by decide +kernel
theorem dX12_holds_40 : decode cX12_holds 40 = .ok (.iconst 0, 1) := by decide +kernel
theorem dX12_holds_41 : decode cX12_holds 41 = .ok (.istore 6, 2) := by decide +kernel
theorem dX12_holds_43 : decode cX12_holds 43 = .ok (.iload 6, 2) := by decide +kernel
theorem dX12_holds_45 : decode cX12_holds 45 = .ok (.aload_n 0, 1) := by decide +kernel
theorem dX12_holds_46 : decode cX12_holds 46 = .ok (.getfield 309, 3) := by decide +kernel
theorem dX12_holds_49 : decode cX12_holds 49 = .ok (.if_icmp .ge 81, 3) := by decide +kernel
theorem dX12_holds_52 : decode cX12_holds 52 = .ok (.bipush 8, 2) := by decide +kernel
theorem dX12_holds_54 : decode cX12_holds 54 = .ok (.istore 7, 2) := by decide +kernel
theorem dX12_holds_56 : decode cX12_holds 56 = .ok (.iconst 0, 1) := by decide +kernel
theorem dX12_holds_57 : decode cX12_holds 57 = .ok (.istore 8, 2) := by decide +kernel
theorem dX12_holds_59 : decode cX12_holds 59 = .ok (.iload 8, 2) := by decide +kernel
theorem dX12_holds_61 : decode cX12_holds 61 = .ok (.aload_n 0, 1) := by decide +kernel
theorem dX12_holds_62 : decode cX12_holds 62 = .ok (.getfield 309, 3) := by decide +kernel
theorem dX12_holds_65 : decode cX12_holds 65 = .ok (.if_icmp .ge 35, 3) := by decide +kernel
theorem dX12_holds_68 : decode cX12_holds 68 = .ok (.iload 7, 2) := by decide +kernel
theorem dX12_holds_70 : decode cX12_holds 70 = .ok (.aload_n 0, 1) := by decide +kernel
theorem dX12_holds_71 : decode cX12_holds 71 = .ok (.iload 6, 2) := by decide +kernel
theorem dX12_holds_73 : decode cX12_holds 73 = .ok (.iload 8, 2) := by decide +kernel
theorem dX12_holds_75 : decode cX12_holds 75 = .ok (.iconst 0, 1) := by decide +kernel
theorem dX12_holds_76 : decode cX12_holds 76 = .ok (.invokevirtual 508, 3) := by decide +kernel
theorem dX12_holds_79 : decode cX12_holds 79 = .ok (.aload_n 0, 1) := by decide +kernel
theorem dX12_holds_80 : decode cX12_holds 80 = .ok (.iload 6, 2) := by decide +kernel
theorem dX12_holds_82 : decode cX12_holds 82 = .ok (.iload 8, 2) := by decide +kernel
theorem dX12_holds_84 : decode cX12_holds 84 = .ok (.iconst 1, 1) := by decide +kernel
theorem dX12_holds_85 : decode cX12_holds 85 = .ok (.invokevirtual 508, 3) := by decide +kernel
theorem dX12_holds_88 : decode cX12_holds 88 = .ok (.isub, 1) := by decide +kernel
theorem dX12_holds_89 : decode cX12_holds 89 = .ok (.invokestatic 348, 3) := by decide +kernel
theorem dX12_holds_92 : decode cX12_holds 92 = .ok (.istore 7, 2) := by decide +kernel
theorem dX12_holds_94 : decode cX12_holds 94 = .ok (.iinc 8 1, 3) := by decide +kernel
theorem dX12_holds_97 : decode cX12_holds 97 = .ok (.goto (-38), 3) := by decide +kernel
theorem dX12_holds_100 : decode cX12_holds 100 = .ok (.iload 4, 2) := by decide +kernel
theorem dX12_holds_102 : decode cX12_holds 102 = .ok (.iconst (-1), 1) := by decide +kernel
theorem dX12_holds_103 : decode cX12_holds 103 = .ok (.if_icmp .eq 13, 3) := by decide +kernel
theorem dX12_holds_106 : decode cX12_holds 106 = .ok (.iload 7, 2) := by decide +kernel
theorem dX12_holds_108 : decode cX12_holds 108 = .ok (.iload 5, 2) := by decide +kernel
theorem dX12_holds_110 : decode cX12_holds 110 = .ok (.if_icmp .gt 6, 3) := by decide +kernel
theorem dX12_holds_113 : decode cX12_holds 113 = .ok (.goto 11, 3) := by decide +kernel
theorem dX12_holds_116 : decode cX12_holds 116 = .ok (.iload 6, 2) := by decide +kernel
theorem dX12_holds_118 : decode cX12_holds 118 = .ok (.istore 4, 2) := by decide +kernel
theorem dX12_holds_120 : decode cX12_holds 120 = .ok (.iload 7, 2) := by decide +kernel
theorem dX12_holds_122 : decode cX12_holds 122 = .ok (.istore 5, 2) := by decide +kernel
theorem dX12_holds_124 : decode cX12_holds 124 = .ok (.iinc 6 1, 3) := by decide +kernel
theorem dX12_holds_127 : decode cX12_holds 127 = .ok (.goto (-84), 3) := by decide +kernel
theorem dX12_holds_130 : decode cX12_holds 130 = .ok (.iload_n 3, 1) := by decide +kernel
theorem dX12_holds_131 : decode cX12_holds 131 = .ok (.ifCond .ne 8, 3) := by decide +kernel
theorem dX12_holds_134 : decode cX12_holds 134 = .ok (.iload 4, 2) := by decide +kernel
theorem dX12_holds_136 : decode cX12_holds 136 = .ok (.goto 5, 3) := by decide +kernel
theorem dX12_holds_139 : decode cX12_holds 139 = .ok (.iload 5, 2) := by decide +kernel
theorem dX12_holds_141 : decode cX12_holds 141 = .ok (.ireturn, 1) := by decide +kernel
theorem dX12_seen_0 : decode cX12_seen 0 = .ok (.aload_n 0, 1) := by decide +kernel
theorem dX12_seen_1 : decode cX12_seen 1 = .ok (.iconst 0, 1) := by decide +kernel
theorem dX12_seen_2 : decode cX12_seen 2 = .ok (.putfield 111, 3) := by decide +kernel
theorem dX12_seen_5 : decode cX12_seen 5 = .ok (.aload_n 0, 1) := by decide +kernel
theorem dX12_seen_6 : decode cX12_seen 6 = .ok (.iload_n 1, 1) := by decide +kernel
theorem dX12_seen_7 : decode cX12_seen 7 = .ok (.invokevirtual 407, 3) := by decide +kernel
theorem dX12_seen_10 : decode cX12_seen 10 = .ok (.ifCond .eq 49, 3) := by decide +kernel
theorem dX12_seen_13 : decode cX12_seen 13 = .ok (.iload_n 2, 1) := by decide +kernel
theorem dX12_seen_14 : decode cX12_seen 14 = .ok (.i2l, 1) := by decide +kernel
theorem dX12_seen_15 : decode cX12_seen 15 = .ok (.lconst 0, 1) := by decide +kernel
theorem dX12_seen_16 : decode cX12_seen 16 = .ok (.ldc2_w 518, 3) := by decide +kernel
theorem dX12_seen_19 : decode cX12_seen 19 = .ok (.invokestatic 232, 3) := by decide +kernel
theorem dX12_seen_22 : decode cX12_seen 22 = .ok (.ifCond .eq 37, 3) := by decide +kernel
theorem dX12_seen_25 : decode cX12_seen 25 = .ok (.iload_n 3, 1) := by decide +kernel
theorem dX12_seen_26 : decode cX12_seen 26 = .ok (.i2l, 1) := by decide +kernel
theorem dX12_seen_27 : decode cX12_seen 27 = .ok (.lconst 0, 1) := by decide +kernel
theorem dX12_seen_28 : decode cX12_seen 28 = .ok (.ldc2_w 518, 3) := by decide +kernel
theorem dX12_seen_31 : decode cX12_seen 31 = .ok (.invokestatic 232, 3) := by decide +kernel
theorem dX12_seen_34 : decode cX12_seen 34 = .ok (.ifCond .eq 25, 3) := by decide +kernel
theorem dX12_seen_37 : decode cX12_seen 37 = .ok (.iload 4, 2) := by decide +kernel
theorem dX12_seen_39 : decode cX12_seen 39 = .ok (.i2l, 1) := by decide +kernel
theorem dX12_seen_40 : decode cX12_seen 40 = .ok (.lconst 0, 1) := by decide +kernel
theorem dX12_seen_41 : decode cX12_seen 41 = .ok (.ldc2_w 290, 3) := by decide +kernel
theorem dX12_seen_44 : decode cX12_seen 44 = .ok (.invokestatic 232, 3) := by decide +kernel
theorem dX12_seen_47 : decode cX12_seen 47 = .ok (.ifCond .eq 12, 3) := by decide +kernel
theorem dX12_seen_50 : decode cX12_seen 50 = .ok (.aload_n 0, 1) := by decide +kernel
theorem dX12_seen_51 : decode cX12_seen 51 = .ok (.getfield 321, 3) := by decide +kernel
theorem dX12_seen_54 : decode cX12_seen 54 = .ok (.bipush 10, 2) := by decide +kernel
theorem dX12_seen_56 : decode cX12_seen 56 = .ok (.if_icmp .ne 5, 3) := by decide +kernel
theorem dX12_seen_59 : decode cX12_seen 59 = .ok (.iconst (-1), 1) := by decide +kernel
theorem dX12_seen_60 : decode cX12_seen 60 = .ok (.ireturn, 1) := by decide +kernel
theorem dX12_seen_61 : decode cX12_seen 61 = .ok (.aload_n 0, 1) := by decide +kernel
theorem dX12_seen_62 : decode cX12_seen 62 = .ok (.getfield 93, 3) := by decide +kernel
theorem dX12_seen_65 : decode cX12_seen 65 = .ok (.aload_n 0, 1) := by decide +kernel
theorem dX12_seen_66 : decode cX12_seen 66 = .ok (.getfield 321, 3) := by decide +kernel
theorem dX12_seen_69 : decode cX12_seen 69 = .ok (.iload_n 1, 1) := by decide +kernel
theorem dX12_seen_70 : decode cX12_seen 70 = .ok (.iastore, 1) := by decide +kernel
theorem dX12_seen_71 : decode cX12_seen 71 = .ok (.aload_n 0, 1) := by decide +kernel
theorem dX12_seen_72 : decode cX12_seen 72 = .ok (.getfield 96, 3) := by decide +kernel
theorem dX12_seen_75 : decode cX12_seen 75 = .ok (.aload_n 0, 1) := by decide +kernel
theorem dX12_seen_76 : decode cX12_seen 76 = .ok (.getfield 321, 3) := by decide +kernel
theorem dX12_seen_79 : decode cX12_seen 79 = .ok (.iload_n 2, 1) := by decide +kernel
theorem dX12_seen_80 : decode cX12_seen 80 = .ok (.iastore, 1) := by decide +kernel
theorem dX12_seen_81 : decode cX12_seen 81 = .ok (.aload_n 0, 1) := by decide +kernel
theorem dX12_seen_82 : decode cX12_seen 82 = .ok (.getfield 99, 3) := by decide +kernel
theorem dX12_seen_85 : decode cX12_seen 85 = .ok (.aload_n 0, 1) := by decide +kernel
theorem dX12_seen_86 : decode cX12_seen 86 = .ok (.getfield 321, 3) := by decide +kernel
theorem dX12_seen_89 : decode cX12_seen 89 = .ok (.iload_n 3, 1) := by decide +kernel
theorem dX12_seen_90 : decode cX12_seen 90 = .ok (.iastore, 1) := by decide +kernel
theorem dX12_seen_91 : decode cX12_seen 91 = .ok (.aload_n 0, 1) := by decide +kernel
theorem dX12_seen_92 : decode cX12_seen 92 = .ok (.getfield 102, 3) := by decide +kernel
theorem dX12_seen_95 : decode cX12_seen 95 = .ok (.aload_n 0, 1) := by decide +kernel
theorem dX12_seen_96 : decode cX12_seen 96 = .ok (.getfield 321, 3) := by decide +kernel
theorem dX12_seen_99 : decode cX12_seen 99 = .ok (.iload 4, 2) := by decide +kernel
theorem dX12_seen_101 : decode cX12_seen 101 = .ok (.iastore, 1) := by decide +kernel
theorem dX12_seen_102 : decode cX12_seen 102 = .ok (.aload_n 0, 1) := by decide +kernel
theorem dX12_seen_103 : decode cX12_seen 103 = .ok (.dup, 1) := by decide +kernel
theorem dX12_seen_104 : decode cX12_seen 104 = .ok (.getfield 321, 3) := by decide +kernel
theorem dX12_seen_107 : decode cX12_seen 107 = .ok (.iconst 1, 1) := by decide +kernel
theorem dX12_seen_108 : decode cX12_seen 108 = .ok (.iadd, 1) := by decide +kernel
theorem dX12_seen_109 : decode cX12_seen 109 = .ok (.putfield 321, 3) := by decide +kernel
theorem dX12_seen_112 : decode cX12_seen 112 = .ok (.aload_n 0, 1) := by decide +kernel
theorem dX12_seen_113 : decode cX12_seen 113 = .ok (.getfield 321, 3) := by decide +kernel
theorem dX12_seen_116 : decode cX12_seen 116 = .ok (.ireturn, 1) := by decide +kernel
theorem dX12_answer_0 : decode cX12_answer 0 = .ok (.aload_n 0, 1) := by decide +kernel
theorem dX12_answer_1 : decode cX12_answer 1 = .ok (.getfield 78, 3) := by decide +kernel
theorem dX12_answer_4 : decode cX12_answer 4 = .ok (.iconst 0, 1) := by decide +kernel
theorem dX12_answer_5 : decode cX12_answer 5 = .ok (.aload_n 0, 1) := by decide +kernel
theorem dX12_answer_6 : decode cX12_answer 6 = .ok (.aload_n 0, 1) := by decide +kernel
theorem dX12_answer_7 : decode cX12_answer 7 = .ok (.iconst 0, 1) := by decide +kernel
theorem dX12_answer_8 : decode cX12_answer 8 = .ok (.iconst 3, 1) := by decide +kernel
theorem dX12_answer_9 : decode cX12_answer 9 = .ok (.invokevirtual 364, 3) := by decide +kernel
theorem dX12_answer_12 : decode cX12_answer 12 = .ok (.iload_n 2, 1) := by decide +kernel
theorem dX12_answer_13 : decode cX12_answer 13 = .ok (.bipush 10, 2) := by decide +kernel
theorem dX12_answer_15 : decode cX12_answer 15 = .ok (.idiv, 1) := by decide +kernel
theorem dX12_answer_16 : decode cX12_answer 16 = .ok (.iconst 0, 1) := by decide +kernel
theorem dX12_answer_17 : decode cX12_answer 17 = .ok (.iload_n 3, 1) := by decide +kernel
theorem dX12_answer_18 : decode cX12_answer 18 = .ok (.iconst 0, 1) := by decide +kernel
theorem dX12_answer_19 : decode cX12_answer 19 = .ok (.iconst 0, 1) := by decide +kernel
theorem dX12_answer_20 : decode cX12_answer 20 = .ok (.invokevirtual 376, 3) := by decide +kernel
theorem dX12_answer_23 : decode cX12_answer 23 = .ok (.iastore, 1) := by decide +kernel
theorem dX12_answer_24 : decode cX12_answer 24 = .ok (.aload_n 0, 1) := by decide +kernel
theorem dX12_answer_25 : decode cX12_answer 25 = .ok (.getfield 78, 3) := by decide +kernel
theorem dX12_answer_28 : decode cX12_answer 28 = .ok (.iconst 1, 1) := by decide +kernel
theorem dX12_answer_29 : decode cX12_answer 29 = .ok (.aload_n 0, 1) := by decide +kernel
theorem dX12_answer_30 : decode cX12_answer 30 = .ok (.aload_n 0, 1) := by decide +kernel
theorem dX12_answer_31 : decode cX12_answer 31 = .ok (.iconst 1, 1) := by decide +kernel
theorem dX12_answer_32 : decode cX12_answer 32 = .ok (.iconst 3, 1) := by decide +kernel
theorem dX12_answer_33 : decode cX12_answer 33 = .ok (.invokevirtual 364, 3) := by decide +kernel
theorem dX12_answer_36 : decode cX12_answer 36 = .ok (.iload_n 2, 1) := by decide +kernel
theorem dX12_answer_37 : decode cX12_answer 37 = .ok (.bipush 10, 2) := by decide +kernel
theorem dX12_answer_39 : decode cX12_answer 39 = .ok (.irem, 1) := by decide +kernel
theorem dX12_answer_40 : decode cX12_answer 40 = .ok (.iconst 0, 1) := by decide +kernel
theorem dX12_answer_41 : decode cX12_answer 41 = .ok (.iload 4, 2) := by decide +kernel
theorem dX12_answer_43 : decode cX12_answer 43 = .ok (.iconst 0, 1) := by decide +kernel
theorem dX12_answer_44 : decode cX12_answer 44 = .ok (.iconst 0, 1) := by decide +kernel
theorem dX12_answer_45 : decode cX12_answer 45 = .ok (.invokevirtual 376, 3) := by decide +kernel
theorem dX12_answer_48 : decode cX12_answer 48 = .ok (.iastore, 1) := by decide +kernel
theorem dX12_answer_49 : decode cX12_answer 49 = .ok (.aload_n 0, 1) := by decide +kernel
theorem dX12_answer_50 : decode cX12_answer 50 = .ok (.aload_n 0, 1) := by decide +kernel
theorem dX12_answer_51 : decode cX12_answer 51 = .ok (.iload_n 1, 1) := by decide +kernel
theorem dX12_answer_52 : decode cX12_answer 52 = .ok (.iconst 2, 1) := by decide +kernel
theorem dX12_answer_53 : decode cX12_answer 53 = .ok (.invokevirtual 318, 3) := by decide +kernel
theorem dX12_answer_56 : decode cX12_answer 56 = .ok (.iconst 2, 1) := by decide +kernel
theorem dX12_answer_57 : decode cX12_answer 57 = .ok (.invokevirtual 383, 3) := by decide +kernel
theorem dX12_answer_60 : decode cX12_answer 60 = .ok (.istore 5, 2) := by decide +kernel
theorem dX12_answer_62 : decode cX12_answer 62 = .ok (.iload 5, 2) := by decide +kernel
theorem dX12_answer_64 : decode cX12_answer 64 = .ok (.iconst (-1), 1) := by decide +kernel
theorem dX12_answer_65 : decode cX12_answer 65 = .ok (.if_icmp .ne 7, 3) := by decide +kernel
theorem dX12_answer_68 : decode cX12_answer 68 = .ok (.iconst 2, 1) := by decide +kernel
theorem dX12_answer_69 : decode cX12_answer 69 = .ok (.goto 5, 3) := by decide +kernel
theorem dX12_answer_72 : decode cX12_answer 72 = .ok (.iload 5, 2) := by decide +kernel
theorem dX12_answer_74 : decode cX12_answer 74 = .ok (.ireturn, 1) := by decide +kernel
theorem dX12_fits_0 : decode cX12_fits 0 = .ok (.iconst 0, 1) := by decide +kernel
theorem dX12_fits_1 : decode cX12_fits 1 = .ok (.istore_n 3, 1) := by decide +kernel
theorem dX12_fits_2 : decode cX12_fits 2 = .ok (.iload_n 3, 1) := by decide +kernel
theorem dX12_fits_3 : decode cX12_fits 3 = .ok (.aload_n 0, 1) := by decide +kernel
theorem dX12_fits_4 : decode cX12_fits 4 = .ok (.getfield 321, 3) := by decide +kernel
theorem dX12_fits_7 : decode cX12_fits 7 = .ok (.if_icmp .ge 48, 3) := by decide +kernel
theorem dX12_fits_10 : decode cX12_fits 10 = .ok (.aload_n 0, 1) := by decide +kernel
theorem dX12_fits_11 : decode cX12_fits 11 = .ok (.getfield 93, 3) := by decide +kernel
theorem dX12_fits_14 : decode cX12_fits 14 = .ok (.iload_n 3, 1) := by decide +kernel
theorem dX12_fits_15 : decode cX12_fits 15 = .ok (.iaload, 1) := by decide +kernel
theorem dX12_fits_16 : decode cX12_fits 16 = .ok (.iload_n 1, 1) := by decide +kernel
theorem dX12_fits_17 : decode cX12_fits 17 = .ok (.if_icmp .ne 32, 3) := by decide +kernel
theorem dX12_fits_20 : decode cX12_fits 20 = .ok (.aload_n 0, 1) := by decide +kernel
theorem dX12_fits_21 : decode cX12_fits 21 = .ok (.iload_n 1, 1) := by decide +kernel
theorem dX12_fits_22 : decode cX12_fits 22 = .ok (.iload_n 2, 1) := by decide +kernel
theorem dX12_fits_23 : decode cX12_fits 23 = .ok (.aload_n 0, 1) := by decide +kernel
theorem dX12_fits_24 : decode cX12_fits 24 = .ok (.getfield 96, 3) := by decide +kernel
theorem dX12_fits_27 : decode cX12_fits 27 = .ok (.iload_n 3, 1) := by decide +kernel
theorem dX12_fits_28 : decode cX12_fits 28 = .ok (.iaload, 1) := by decide +kernel
theorem dX12_fits_29 : decode cX12_fits 29 = .ok (.aload_n 0, 1) := by decide +kernel
theorem dX12_fits_30 : decode cX12_fits 30 = .ok (.getfield 99, 3) := by decide +kernel
theorem dX12_fits_33 : decode cX12_fits 33 = .ok (.iload_n 3, 1) := by decide +kernel
theorem dX12_fits_34 : decode cX12_fits 34 = .ok (.iaload, 1) := by decide +kernel
theorem dX12_fits_35 : decode cX12_fits 35 = .ok (.invokevirtual 520, 3) := by decide +kernel
theorem dX12_fits_38 : decode cX12_fits 38 = .ok (.aload_n 0, 1) := by decide +kernel
theorem dX12_fits_39 : decode cX12_fits 39 = .ok (.getfield 102, 3) := by decide +kernel
theorem dX12_fits_42 : decode cX12_fits 42 = .ok (.iload_n 3, 1) := by decide +kernel
theorem dX12_fits_43 : decode cX12_fits 43 = .ok (.iaload, 1) := by decide +kernel
theorem dX12_fits_44 : decode cX12_fits 44 = .ok (.if_icmp .eq 5, 3) := by decide +kernel
theorem dX12_fits_47 : decode cX12_fits 47 = .ok (.iconst 0, 1) := by decide +kernel
theorem dX12_fits_48 : decode cX12_fits 48 = .ok (.ireturn, 1) := by decide +kernel
theorem dX12_fits_49 : decode cX12_fits 49 = .ok (.iinc 3 1, 3) := by decide +kernel
theorem dX12_fits_52 : decode cX12_fits 52 = .ok (.goto (-50), 3) := by decide +kernel
theorem dX12_fits_55 : decode cX12_fits 55 = .ok (.iconst 1, 1) := by decide +kernel
theorem dX12_fits_56 : decode cX12_fits 56 = .ok (.ireturn, 1) := by decide +kernel
theorem dX12_likes_0 : decode cX12_likes 0 = .ok (.aload_n 0, 1) := by decide +kernel
theorem dX12_likes_1 : decode cX12_likes 1 = .ok (.iconst 0, 1) := by decide +kernel
theorem dX12_likes_2 : decode cX12_likes 2 = .ok (.putfield 111, 3) := by decide +kernel
theorem dX12_likes_5 : decode cX12_likes 5 = .ok (.aload_n 0, 1) := by decide +kernel
theorem dX12_likes_6 : decode cX12_likes 6 = .ok (.iload_n 1, 1) := by decide +kernel
theorem dX12_likes_7 : decode cX12_likes 7 = .ok (.invokevirtual 407, 3) := by decide +kernel
theorem dX12_likes_10 : decode cX12_likes 10 = .ok (.ifCond .eq 8, 3) := by decide +kernel
theorem dX12_likes_13 : decode cX12_likes 13 = .ok (.iload_n 2, 1) := by decide +kernel
theorem dX12_likes_14 : decode cX12_likes 14 = .ok (.iconst (-1), 1) := by decide +kernel
theorem dX12_likes_15 : decode cX12_likes 15 = .ok (.if_icmp .ge 5, 3) := by decide +kernel
theorem dX12_likes_18 : decode cX12_likes 18 = .ok (.iconst (-1), 1) := by decide +kernel
theorem dX12_likes_19 : decode cX12_likes 19 = .ok (.ireturn, 1) := by decide +kernel
theorem dX12_likes_20 : decode cX12_likes 20 = .ok (.iconst 0, 1) := by decide +kernel
theorem dX12_likes_21 : decode cX12_likes 21 = .ok (.istore_n 3, 1) := by decide +kernel
theorem dX12_likes_22 : decode cX12_likes 22 = .ok (.iconst 0, 1) := by decide +kernel
theorem dX12_likes_23 : decode cX12_likes 23 = .ok (.istore 4, 2) := by decide +kernel
theorem dX12_likes_25 : decode cX12_likes 25 = .ok (.iload 4, 2) := by decide +kernel
theorem dX12_likes_27 : decode cX12_likes 27 = .ok (.bipush 100, 2) := by decide +kernel
theorem dX12_likes_29 : decode cX12_likes 29 = .ok (.if_icmp .ge 33, 3) := by decide +kernel
theorem dX12_likes_32 : decode cX12_likes 32 = .ok (.aload_n 0, 1) := by decide +kernel
theorem dX12_likes_33 : decode cX12_likes 33 = .ok (.iload_n 1, 1) := by decide +kernel
theorem dX12_likes_34 : decode cX12_likes 34 = .ok (.iload 4, 2) := by decide +kernel
theorem dX12_likes_36 : decode cX12_likes 36 = .ok (.invokevirtual 524, 3) := by decide +kernel
theorem dX12_likes_39 : decode cX12_likes 39 = .ok (.ifCond .ne 6, 3) := by decide +kernel
theorem dX12_likes_42 : decode cX12_likes 42 = .ok (.goto 14, 3) := by decide +kernel
theorem dX12_likes_45 : decode cX12_likes 45 = .ok (.iload_n 3, 1) := by decide +kernel
theorem dX12_likes_46 : decode cX12_likes 46 = .ok (.iload_n 2, 1) := by decide +kernel
theorem dX12_likes_47 : decode cX12_likes 47 = .ok (.if_icmp .ne 6, 3) := by decide +kernel
theorem dX12_likes_50 : decode cX12_likes 50 = .ok (.iload 4, 2) := by decide +kernel
theorem dX12_likes_52 : decode cX12_likes 52 = .ok (.ireturn, 1) := by decide +kernel
theorem dX12_likes_53 : decode cX12_likes 53 = .ok (.iinc 3 1, 3) := by decide +kernel
theorem dX12_likes_56 : decode cX12_likes 56 = .ok (.iinc 4 1, 3) := by decide +kernel
theorem dX12_likes_59 : decode cX12_likes 59 = .ok (.goto (-34), 3) := by decide +kernel
theorem dX12_likes_62 : decode cX12_likes 62 = .ok (.iload_n 2, 1) := by decide +kernel
theorem dX12_likes_63 : decode cX12_likes 63 = .ok (.iconst (-1), 1) := by decide +kernel
theorem dX12_likes_64 : decode cX12_likes 64 = .ok (.if_icmp .ne 7, 3) := by decide +kernel
theorem dX12_likes_67 : decode cX12_likes 67 = .ok (.iload_n 3, 1) := by decide +kernel
theorem dX12_likes_68 : decode cX12_likes 68 = .ok (.goto 4, 3) := by decide +kernel
theorem dX12_likes_71 : decode cX12_likes 71 = .ok (.iconst (-1), 1) := by decide +kernel
theorem dX12_likes_72 : decode cX12_likes 72 = .ok (.ireturn, 1) := by decide +kernel
theorem dX12_ask_0 : decode cX12_ask 0 = .ok (.aload_n 0, 1) := by decide +kernel
theorem dX12_ask_1 : decode cX12_ask 1 = .ok (.iconst 0, 1) := by decide +kernel
theorem dX12_ask_2 : decode cX12_ask 2 = .ok (.putfield 111, 3) := by decide +kernel
theorem dX12_ask_5 : decode cX12_ask 5 = .ok (.aload_n 0, 1) := by decide +kernel
theorem dX12_ask_6 : decode cX12_ask 6 = .ok (.iload_n 1, 1) := by decide +kernel
theorem dX12_ask_7 : decode cX12_ask 7 = .ok (.invokevirtual 407, 3) := by decide +kernel
theorem dX12_ask_10 : decode cX12_ask 10 = .ok (.ifCond .eq 12, 3) := by decide +kernel
theorem dX12_ask_13 : decode cX12_ask 13 = .ok (.aload_n 0, 1) := by decide +kernel
theorem dX12_ask_14 : decode cX12_ask 14 = .ok (.iload_n 1, 1) := by decide +kernel
theorem dX12_ask_15 : decode cX12_ask 15 = .ok (.iconst (-1), 1) := by decide +kernel
theorem dX12_ask_16 : decode cX12_ask 16 = .ok (.invokevirtual 527, 3) := by decide +kernel
theorem dX12_ask_19 : decode cX12_ask 19 = .ok (.ifCond .ne 5, 3) := by decide +kernel
theorem dX12_ask_22 : decode cX12_ask 22 = .ok (.iconst (-1), 1) := by decide +kernel
theorem dX12_ask_23 : decode cX12_ask 23 = .ok (.ireturn, 1) := by decide +kernel
theorem dX12_ask_24 : decode cX12_ask 24 = .ok (.iconst (-1), 1) := by decide +kernel
theorem dX12_ask_25 : decode cX12_ask 25 = .ok (.istore_n 2, 1) := by decide +kernel
theorem dX12_ask_26 : decode cX12_ask 26 = .ok (.iconst 0, 1) := by decide +kernel
theorem dX12_ask_27 : decode cX12_ask 27 = .ok (.istore_n 3, 1) := by decide +kernel
theorem dX12_ask_28 : decode cX12_ask 28 = .ok (.iconst 0, 1) := by decide +kernel
theorem dX12_ask_29 : decode cX12_ask 29 = .ok (.istore 4, 2) := by decide +kernel
theorem dX12_ask_31 : decode cX12_ask 31 = .ok (.iload 4, 2) := by decide +kernel
theorem dX12_ask_33 : decode cX12_ask 33 = .ok (.bipush 9, 2) := by decide +kernel
theorem dX12_ask_35 : decode cX12_ask 35 = .ok (.if_icmp .gt 123, 3) := by decide +kernel
theorem dX12_ask_38 : decode cX12_ask 38 = .ok (.iconst 0, 1) := by decide +kernel
theorem dX12_ask_39 : decode cX12_ask 39 = .ok (.istore 5, 2) := by decide +kernel
theorem dX12_ask_41 : decode cX12_ask 41 = .ok (.iload 5, 2) := by decide +kernel
theorem dX12_ask_43 : decode cX12_ask 43 = .ok (.iconst 3, 1) := by decide +kernel
theorem dX12_ask_44 : decode cX12_ask 44 = .ok (.if_icmp .ge 17, 3) := by decide +kernel
theorem dX12_ask_47 : decode cX12_ask 47 = .ok (.aload_n 0, 1) := by decide +kernel
theorem dX12_ask_48 : decode cX12_ask 48 = .ok (.getfield 105, 3) := by decide +kernel
theorem dX12_ask_51 : decode cX12_ask 51 = .ok (.iload 5, 2) := by decide +kernel
theorem dX12_ask_53 : decode cX12_ask 53 = .ok (.iconst 0, 1) := by decide +kernel
theorem dX12_ask_54 : decode cX12_ask 54 = .ok (.iastore, 1) := by decide +kernel
theorem dX12_ask_55 : decode cX12_ask 55 = .ok (.iinc 5 1, 3) := by decide +kernel
theorem dX12_ask_58 : decode cX12_ask 58 = .ok (.goto (-17), 3) := by decide +kernel
theorem dX12_ask_61 : decode cX12_ask 61 = .ok (.iconst 0, 1) := by decide +kernel
theorem dX12_ask_62 : decode cX12_ask 62 = .ok (.istore 5, 2) := by decide +kernel
theorem dX12_ask_64 : decode cX12_ask 64 = .ok (.iload 5, 2) := by decide +kernel
theorem dX12_ask_66 : decode cX12_ask 66 = .ok (.bipush 100, 2) := by decide +kernel
theorem dX12_ask_68 : decode cX12_ask 68 = .ok (.if_icmp .ge 38, 3) := by decide +kernel
theorem dX12_ask_71 : decode cX12_ask 71 = .ok (.aload_n 0, 1) := by decide +kernel
theorem dX12_ask_72 : decode cX12_ask 72 = .ok (.iload_n 1, 1) := by decide +kernel
theorem dX12_ask_73 : decode cX12_ask 73 = .ok (.iload 5, 2) := by decide +kernel
theorem dX12_ask_75 : decode cX12_ask 75 = .ok (.invokevirtual 524, 3) := by decide +kernel
theorem dX12_ask_78 : decode cX12_ask 78 = .ok (.ifCond .eq 22, 3) := by decide +kernel
theorem dX12_ask_81 : decode cX12_ask 81 = .ok (.aload_n 0, 1) := by decide +kernel
theorem dX12_ask_82 : decode cX12_ask 82 = .ok (.getfield 105, 3) := by decide +kernel
theorem dX12_ask_85 : decode cX12_ask 85 = .ok (.aload_n 0, 1) := by decide +kernel
theorem dX12_ask_86 : decode cX12_ask 86 = .ok (.iload_n 1, 1) := by decide +kernel
theorem dX12_ask_87 : decode cX12_ask 87 = .ok (.iload 5, 2) := by decide +kernel
theorem dX12_ask_89 : decode cX12_ask 89 = .ok (.iload 4, 2) := by decide +kernel
theorem dX12_ask_91 : decode cX12_ask 91 = .ok (.iconst 3, 1) := by decide +kernel
theorem dX12_ask_92 : decode cX12_ask 92 = .ok (.invokevirtual 520, 3) := by decide +kernel
theorem dX12_ask_95 : decode cX12_ask 95 = .ok (.dup2, 1) := by decide +kernel
theorem dX12_ask_96 : decode cX12_ask 96 = .ok (.iaload, 1) := by decide +kernel
theorem dX12_ask_97 : decode cX12_ask 97 = .ok (.iconst 1, 1) := by decide +kernel
theorem dX12_ask_98 : decode cX12_ask 98 = .ok (.iadd, 1) := by decide +kernel
theorem dX12_ask_99 : decode cX12_ask 99 = .ok (.iastore, 1) := by decide +kernel
theorem dX12_ask_100 : decode cX12_ask 100 = .ok (.iinc 5 1, 3) := by decide +kernel
theorem dX12_ask_103 : decode cX12_ask 103 = .ok (.goto (-39), 3) := by decide +kernel
theorem dX12_ask_106 : decode cX12_ask 106 = .ok (.aload_n 0, 1) := by decide +kernel
theorem dX12_ask_107 : decode cX12_ask 107 = .ok (.getfield 105, 3) := by decide +kernel
theorem dX12_ask_110 : decode cX12_ask 110 = .ok (.iconst 0, 1) := by decide +kernel
theorem dX12_ask_111 : decode cX12_ask 111 = .ok (.iaload, 1) := by decide +kernel
theorem dX12_ask_112 : decode cX12_ask 112 = .ok (.aload_n 0, 1) := by decide +kernel
theorem dX12_ask_113 : decode cX12_ask 113 = .ok (.getfield 105, 3) := by decide +kernel
theorem dX12_ask_116 : decode cX12_ask 116 = .ok (.iconst 1, 1) := by decide +kernel
theorem dX12_ask_117 : decode cX12_ask 117 = .ok (.iaload, 1) := by decide +kernel
theorem dX12_ask_118 : decode cX12_ask 118 = .ok (.aload_n 0, 1) := by decide +kernel
theorem dX12_ask_119 : decode cX12_ask 119 = .ok (.getfield 105, 3) := by decide +kernel
theorem dX12_ask_122 : decode cX12_ask 122 = .ok (.iconst 2, 1) := by decide +kernel
theorem dX12_ask_123 : decode cX12_ask 123 = .ok (.iaload, 1) := by decide +kernel
theorem dX12_ask_124 : decode cX12_ask 124 = .ok (.invokestatic 350, 3) := by decide +kernel
theorem dX12_ask_127 : decode cX12_ask 127 = .ok (.invokestatic 350, 3) := by decide +kernel
theorem dX12_ask_130 : decode cX12_ask 130 = .ok (.istore 5, 2) := by decide +kernel
theorem dX12_ask_132 : decode cX12_ask 132 = .ok (.iload_n 2, 1) := by decide +kernel
theorem dX12_ask_133 : decode cX12_ask 133 = .ok (.iconst (-1), 1) := by decide +kernel
theorem dX12_ask_134 : decode cX12_ask 134 = .ok (.if_icmp .eq 12, 3) := by decide +kernel
theorem dX12_ask_137 : decode cX12_ask 137 = .ok (.iload 5, 2) := by decide +kernel
theorem dX12_ask_139 : decode cX12_ask 139 = .ok (.iload_n 3, 1) := by decide +kernel
theorem dX12_ask_140 : decode cX12_ask 140 = .ok (.if_icmp .lt 6, 3) := by decide +kernel
theorem dX12_ask_143 : decode cX12_ask 143 = .ok (.goto 9, 3) := by decide +kernel
theorem dX12_ask_146 : decode cX12_ask 146 = .ok (.iload 4, 2) := by decide +kernel
theorem dX12_ask_148 : decode cX12_ask 148 = .ok (.istore_n 2, 1) := by decide +kernel
theorem dX12_ask_149 : decode cX12_ask 149 = .ok (.iload 5, 2) := by decide +kernel
theorem dX12_ask_151 : decode cX12_ask 151 = .ok (.istore_n 3, 1) := by decide +kernel
theorem dX12_ask_152 : decode cX12_ask 152 = .ok (.iinc 4 1, 3) := by decide +kernel
theorem dX12_ask_155 : decode cX12_ask 155 = .ok (.goto (-124), 3) := by decide +kernel
theorem dX12_ask_158 : decode cX12_ask 158 = .ok (.iload_n 2, 1) := by decide +kernel
theorem dX12_ask_159 : decode cX12_ask 159 = .ok (.ireturn, 1) := by decide +kernel
theorem dX12_blown_0 : decode cX12_blown 0 = .ok (.aload_n 0, 1) := by decide +kernel
theorem dX12_blown_1 : decode cX12_blown 1 = .ok (.iconst 0, 1) := by decide +kernel
theorem dX12_blown_2 : decode cX12_blown 2 = .ok (.putfield 111, 3) := by decide +kernel
theorem dX12_blown_5 : decode cX12_blown 5 = .ok (.iload_n 1, 1) := by decide +kernel
theorem dX12_blown_6 : decode cX12_blown 6 = .ok (.i2l, 1) := by decide +kernel
theorem dX12_blown_7 : decode cX12_blown 7 = .ok (.lconst 0, 1) := by decide +kernel
theorem dX12_blown_8 : decode cX12_blown 8 = .ok (.ldc2_w 518, 3) := by decide +kernel
theorem dX12_blown_11 : decode cX12_blown 11 = .ok (.invokestatic 232, 3) := by decide +kernel
theorem dX12_blown_14 : decode cX12_blown 14 = .ok (.ifCond .eq 14, 3) := by decide +kernel
theorem dX12_blown_17 : decode cX12_blown 17 = .ok (.iload_n 2, 1) := by decide +kernel
theorem dX12_blown_18 : decode cX12_blown 18 = .ok (.i2l, 1) := by decide +kernel
theorem dX12_blown_19 : decode cX12_blown 19 = .ok (.lconst 0, 1) := by decide +kernel
theorem dX12_blown_20 : decode cX12_blown 20 = .ok (.iload_n 1, 1) := by decide +kernel
theorem dX12_blown_21 : decode cX12_blown 21 = .ok (.i2l, 1) := by decide +kernel
theorem dX12_blown_22 : decode cX12_blown 22 = .ok (.invokestatic 232, 3) := by decide +kernel
theorem dX12_blown_25 : decode cX12_blown 25 = .ok (.ifCond .ne 5, 3) := by decide +kernel
theorem dX12_blown_28 : decode cX12_blown 28 = .ok (.iconst (-1), 1) := by decide +kernel
theorem dX12_blown_29 : decode cX12_blown 29 = .ok (.ireturn, 1) := by decide +kernel
theorem dX12_blown_30 : decode cX12_blown 30 = .ok (.lconst 1, 1) := by decide +kernel
theorem dX12_blown_31 : decode cX12_blown 31 = .ok (.lstore_n 3, 1) := by decide +kernel
theorem dX12_blown_32 : decode cX12_blown 32 = .ok (.lconst 1, 1) := by decide +kernel
theorem dX12_blown_33 : decode cX12_blown 33 = .ok (.lstore 5, 2) := by decide +kernel
theorem dX12_blown_35 : decode cX12_blown 35 = .ok (.iconst 0, 1) := by decide +kernel
theorem dX12_blown_36 : decode cX12_blown 36 = .ok (.istore 7, 2) := by decide +kernel
theorem dX12_blown_38 : decode cX12_blown 38 = .ok (.iload 7, 2) := by decide +kernel
theorem dX12_blown_40 : decode cX12_blown 40 = .ok (.iload_n 1, 1) := by decide +kernel
theorem dX12_blown_41 : decode cX12_blown 41 = .ok (.if_icmp .ge 35, 3) := by decide +kernel
theorem dX12_blown_44 : decode cX12_blown 44 = .ok (.lload_n 3, 1) := by decide +kernel
theorem dX12_blown_45 : decode cX12_blown 45 = .ok (.iload 7, 2) := by decide +kernel
theorem dX12_blown_47 : decode cX12_blown 47 = .ok (.iload_n 2, 1) := by decide +kernel
theorem dX12_blown_48 : decode cX12_blown 48 = .ok (.if_icmp .ge 9, 3) := by decide +kernel
theorem dX12_blown_51 : decode cX12_blown 51 = .ok (.ldc2_w 410, 3) := by decide +kernel
theorem dX12_blown_54 : decode cX12_blown 54 = .ok (.goto 6, 3) := by decide +kernel
theorem dX12_blown_57 : decode cX12_blown 57 = .ok (.ldc2_w 290, 3) := by decide +kernel
theorem dX12_blown_60 : decode cX12_blown 60 = .ok (.lmul, 1) := by decide +kernel
theorem dX12_blown_61 : decode cX12_blown 61 = .ok (.lstore_n 3, 1) := by decide +kernel
theorem dX12_blown_62 : decode cX12_blown 62 = .ok (.lload 5, 2) := by decide +kernel
theorem dX12_blown_64 : decode cX12_blown 64 = .ok (.ldc2_w 360, 3) := by decide +kernel
theorem dX12_blown_67 : decode cX12_blown 67 = .ok (.lmul, 1) := by decide +kernel
theorem dX12_blown_68 : decode cX12_blown 68 = .ok (.lstore 5, 2) := by decide +kernel
theorem dX12_blown_70 : decode cX12_blown 70 = .ok (.iinc 7 1, 3) := by decide +kernel
theorem dX12_blown_73 : decode cX12_blown 73 = .ok (.goto (-35), 3) := by decide +kernel
theorem dX12_blown_76 : decode cX12_blown 76 = .ok (.lload_n 3, 1) := by decide +kernel
theorem dX12_blown_77 : decode cX12_blown 77 = .ok (.lload 5, 2) := by decide +kernel
theorem dX12_blown_79 : decode cX12_blown 79 = .ok (.ladd, 1) := by decide +kernel
theorem dX12_blown_80 : decode cX12_blown 80 = .ok (.lstore 7, 2) := by decide +kernel
theorem dX12_blown_82 : decode cX12_blown 82 = .ok (.lload_n 3, 1) := by decide +kernel
theorem dX12_blown_83 : decode cX12_blown 83 = .ok (.lstore 9, 2) := by decide +kernel
theorem dX12_blown_85 : decode cX12_blown 85 = .ok (.iconst 0, 1) := by decide +kernel
theorem dX12_blown_86 : decode cX12_blown 86 = .ok (.istore 11, 2) := by decide +kernel
theorem dX12_blown_88 : decode cX12_blown 88 = .ok (.iconst 0, 1) := by decide +kernel
theorem dX12_blown_89 : decode cX12_blown 89 = .ok (.istore 12, 2) := by decide +kernel
theorem dX12_blown_91 : decode cX12_blown 91 = .ok (.iload 12, 2) := by decide +kernel
theorem dX12_blown_93 : decode cX12_blown 93 = .ok (.bipush 6, 2) := by decide +kernel
theorem dX12_blown_95 : decode cX12_blown 95 = .ok (.if_icmp .ge 38, 3) := by decide +kernel
theorem dX12_blown_98 : decode cX12_blown 98 = .ok (.lload 9, 2) := by decide +kernel
theorem dX12_blown_100 : decode cX12_blown 100 = .ok (.ldc2_w 352, 3) := by decide +kernel
theorem dX12_blown_103 : decode cX12_blown 103 = .ok (.lmul, 1) := by decide +kernel
theorem dX12_blown_104 : decode cX12_blown 104 = .ok (.lstore 9, 2) := by decide +kernel
theorem dX12_blown_106 : decode cX12_blown 106 = .ok (.bipush 10, 2) := by decide +kernel
theorem dX12_blown_108 : decode cX12_blown 108 = .ok (.iload 11, 2) := by decide +kernel
theorem dX12_blown_110 : decode cX12_blown 110 = .ok (.imul, 1) := by decide +kernel
theorem dX12_blown_111 : decode cX12_blown 111 = .ok (.lload 9, 2) := by decide +kernel
theorem dX12_blown_113 : decode cX12_blown 113 = .ok (.lload 7, 2) := by decide +kernel
theorem dX12_blown_115 : decode cX12_blown 115 = .ok (.ldiv, 1) := by decide +kernel
theorem dX12_blown_116 : decode cX12_blown 116 = .ok (.l2i, 1) := by decide +kernel
theorem dX12_blown_117 : decode cX12_blown 117 = .ok (.iadd, 1) := by decide +kernel
theorem dX12_blown_118 : decode cX12_blown 118 = .ok (.istore 11, 2) := by decide +kernel
theorem dX12_blown_120 : decode cX12_blown 120 = .ok (.lload 9, 2) := by decide +kernel
theorem dX12_blown_122 : decode cX12_blown 122 = .ok (.lload 7, 2) := by decide +kernel
theorem dX12_blown_124 : decode cX12_blown 124 = .ok (.lrem, 1) := by decide +kernel
theorem dX12_blown_125 : decode cX12_blown 125 = .ok (.lstore 9, 2) := by decide +kernel
theorem dX12_blown_127 : decode cX12_blown 127 = .ok (.iinc 12 1, 3) := by decide +kernel
theorem dX12_blown_130 : decode cX12_blown 130 = .ok (.goto (-39), 3) := by decide +kernel
theorem dX12_blown_133 : decode cX12_blown 133 = .ok (.iload 11, 2) := by decide +kernel
theorem dX12_blown_135 : decode cX12_blown 135 = .ok (.ireturn, 1) := by decide +kernel
theorem dX12_washed_0 : decode cX12_washed 0 = .ok (.aload_n 0, 1) := by decide +kernel
theorem dX12_washed_1 : decode cX12_washed 1 = .ok (.iconst 0, 1) := by decide +kernel
theorem dX12_washed_2 : decode cX12_washed 2 = .ok (.putfield 111, 3) := by decide +kernel
theorem dX12_washed_5 : decode cX12_washed 5 = .ok (.aload_n 0, 1) := by decide +kernel
theorem dX12_washed_6 : decode cX12_washed 6 = .ok (.getfield 309, 3) := by decide +kernel
theorem dX12_washed_9 : decode cX12_washed 9 = .ok (.ifCond .eq 32, 3) := by decide +kernel
theorem dX12_washed_12 : decode cX12_washed 12 = .ok (.iload_n 1, 1) := by decide +kernel
theorem dX12_washed_13 : decode cX12_washed 13 = .ok (.i2l, 1) := by decide +kernel
theorem dX12_washed_14 : decode cX12_washed 14 = .ok (.lconst 0, 1) := by decide +kernel
theorem dX12_washed_15 : decode cX12_washed 15 = .ok (.ldc2_w 410, 3) := by decide +kernel
theorem dX12_washed_18 : decode cX12_washed 18 = .ok (.invokestatic 232, 3) := by decide +kernel
theorem dX12_washed_21 : decode cX12_washed 21 = .ok (.ifCond .eq 20, 3) := by decide +kernel
theorem dX12_washed_24 : decode cX12_washed 24 = .ok (.iload_n 2, 1) := by decide +kernel
theorem dX12_washed_25 : decode cX12_washed 25 = .ok (.i2l, 1) := by decide +kernel
theorem dX12_washed_26 : decode cX12_washed 26 = .ok (.lconst 0, 1) := by decide +kernel
theorem dX12_washed_27 : decode cX12_washed 27 = .ok (.ldc2_w 410, 3) := by decide +kernel
theorem dX12_washed_30 : decode cX12_washed 30 = .ok (.invokestatic 232, 3) := by decide +kernel
theorem dX12_washed_33 : decode cX12_washed 33 = .ok (.ifCond .eq 8, 3) := by decide +kernel
theorem dX12_washed_36 : decode cX12_washed 36 = .ok (.iload_n 3, 1) := by decide +kernel
theorem dX12_washed_37 : decode cX12_washed 37 = .ok (.iconst (-1), 1) := by decide +kernel
theorem dX12_washed_38 : decode cX12_washed 38 = .ok (.if_icmp .ge 5, 3) := by decide +kernel
theorem dX12_washed_41 : decode cX12_washed 41 = .ok (.iconst (-1), 1) := by decide +kernel
theorem dX12_washed_42 : decode cX12_washed 42 = .ok (.ireturn, 1) := by decide +kernel
theorem dX12_washed_43 : decode cX12_washed 43 = .ok (.iconst 0, 1) := by decide +kernel
theorem dX12_washed_44 : decode cX12_washed 44 = .ok (.istore 4, 2) := by decide +kernel
theorem dX12_washed_46 : decode cX12_washed 46 = .ok (.iload 4, 2) := by decide +kernel
theorem dX12_washed_48 : decode cX12_washed 48 = .ok (.aload_n 0, 1) := by decide +kernel
theorem dX12_washed_49 : decode cX12_washed 49 = .ok (.getfield 309, 3) := by decide +kernel
theorem dX12_washed_52 : decode cX12_washed 52 = .ok (.if_icmp .ge 26, 3) := by decide +kernel
theorem dX12_washed_55 : decode cX12_washed 55 = .ok (.aload_n 0, 1) := by decide +kernel
theorem dX12_washed_56 : decode cX12_washed 56 = .ok (.getfield 84, 3) := by decide +kernel
theorem dX12_washed_59 : decode cX12_washed 59 = .ok (.iload 4, 2) := by decide +kernel
theorem dX12_washed_61 : decode cX12_washed 61 = .ok (.aload_n 0, 1) := by decide +kernel
theorem dX12_washed_62 : decode cX12_washed 62 = .ok (.aload_n 0, 1) := by decide +kernel
theorem dX12_washed_63 : decode cX12_washed 63 = .ok (.getfield 61, 3) := by decide +kernel
theorem dX12_washed_66 : decode cX12_washed 66 = .ok (.iload 4, 2) := by decide +kernel
theorem dX12_washed_68 : decode cX12_washed 68 = .ok (.invokevirtual 386, 3) := by decide +kernel
theorem dX12_washed_71 : decode cX12_washed 71 = .ok (.iastore, 1) := by decide +kernel
theorem dX12_washed_72 : decode cX12_washed 72 = .ok (.iinc 4 1, 3) := by decide +kernel
theorem dX12_washed_75 : decode cX12_washed 75 = .ok (.goto (-29), 3) := by decide +kernel
theorem dX12_washed_78 : decode cX12_washed 78 = .ok (.iconst 0, 1) := by decide +kernel
theorem dX12_washed_79 : decode cX12_washed 79 = .ok (.istore 4, 2) := by decide +kernel
theorem dX12_washed_81 : decode cX12_washed 81 = .ok (.iconst 0, 1) := by decide +kernel
theorem dX12_washed_82 : decode cX12_washed 82 = .ok (.istore 5, 2) := by decide +kernel
theorem dX12_washed_84 : decode cX12_washed 84 = .ok (.iload 5, 2) := by decide +kernel
theorem dX12_washed_86 : decode cX12_washed 86 = .ok (.iconst 1, 1) := by decide +kernel
theorem dX12_washed_87 : decode cX12_washed 87 = .ok (.aload_n 0, 1) := by decide +kernel
theorem dX12_washed_88 : decode cX12_washed 88 = .ok (.getfield 309, 3) := by decide +kernel
theorem dX12_washed_91 : decode cX12_washed 91 = .ok (.ishl, 1) := by decide +kernel
theorem dX12_washed_92 : decode cX12_washed 92 = .ok (.if_icmp .ge 187, 3) := by decide +kernel
theorem dX12_washed_95 : decode cX12_washed 95 = .ok (.iload 5, 2) := by decide +kernel
theorem dX12_washed_97 : decode cX12_washed 97 = .ok (.invokestatic 530, 3) := by decide +kernel
theorem dX12_washed_100 : decode cX12_washed 100 = .ok (.iconst 2, 1) := by decide +kernel
theorem dX12_washed_101 : decode cX12_washed 101 = .ok (.if_icmp .le 6, 3) := by decide +kernel
theorem dX12_washed_104 : decode cX12_washed 104 = .ok (.goto 169, 3) := by decide +kernel
theorem dX12_washed_107 : decode cX12_washed 107 = .ok (.iconst 0, 1) := by decide +kernel
theorem dX12_washed_108 : decode cX12_washed 108 = .ok (.istore 6, 2) := by decide +kernel
theorem dX12_washed_110 : decode cX12_washed 110 = .ok (.iconst 0, 1) := by decide +kernel
theorem dX12_washed_111 : decode cX12_washed 111 = .ok (.istore 7, 2) := by decide +kernel
theorem dX12_washed_113 : decode cX12_washed 113 = .ok (.iconst 1, 1) := by decide +kernel
theorem dX12_washed_114 : decode cX12_washed 114 = .ok (.istore 8, 2) := by decide +kernel
theorem dX12_washed_116 : decode cX12_washed 116 = .ok (.iconst 0, 1) := by decide +kernel
theorem dX12_washed_117 : decode cX12_washed 117 = .ok (.istore 9, 2) := by decide +kernel
theorem dX12_washed_119 : decode cX12_washed 119 = .ok (.iload 9, 2) := by decide +kernel
theorem dX12_washed_121 : decode cX12_washed 121 = .ok (.aload_n 0, 1) := by decide +kernel
theorem dX12_washed_122 : decode cX12_washed 122 = .ok (.getfield 309, 3) := by decide +kernel
theorem dX12_washed_125 : decode cX12_washed 125 = .ok (.if_icmp .ge 116, 3) := by decide +kernel
theorem dX12_washed_128 : decode cX12_washed 128 = .ok (.aload_n 0, 1) := by decide +kernel
theorem dX12_washed_129 : decode cX12_washed 129 = .ok (.getfield 84, 3) := by decide +kernel
theorem dX12_washed_132 : decode cX12_washed 132 = .ok (.iload 9, 2) := by decide +kernel
theorem dX12_washed_134 : decode cX12_washed 134 = .ok (.iaload, 1) := by decide +kernel
theorem dX12_washed_135 : decode cX12_washed 135 = .ok (.ifCond .eq 14, 3) := by decide +kernel
theorem dX12_washed_138 : decode cX12_washed 138 = .ok (.aload_n 0, 1) := by decide +kernel
theorem dX12_washed_139 : decode cX12_washed 139 = .ok (.getfield 84, 3) := by decide +kernel
theorem dX12_washed_142 : decode cX12_washed 142 = .ok (.iload 9, 2) := by decide +kernel
theorem dX12_washed_144 : decode cX12_washed 144 = .ok (.iaload, 1) := by decide +kernel
theorem dX12_washed_145 : decode cX12_washed 145 = .ok (.iconst 1, 1) := by decide +kernel
theorem dX12_washed_146 : decode cX12_washed 146 = .ok (.if_icmp .ne 7, 3) := by decide +kernel
theorem dX12_washed_149 : decode cX12_washed 149 = .ok (.iconst 1, 1) := by decide +kernel
theorem dX12_washed_150 : decode cX12_washed 150 = .ok (.goto 4, 3) := by decide +kernel
theorem dX12_washed_153 : decode cX12_washed 153 = .ok (.iconst 0, 1) := by decide +kernel
theorem dX12_washed_154 : decode cX12_washed 154 = .ok (.istore 10, 2) := by decide +kernel
theorem dX12_washed_156 : decode cX12_washed 156 = .ok (.iload 5, 2) := by decide +kernel
theorem dX12_washed_158 : decode cX12_washed 158 = .ok (.iload 9, 2) := by decide +kernel
theorem dX12_washed_160 : decode cX12_washed 160 = .ok (.invokestatic 244, 3) := by decide +kernel
theorem dX12_washed_163 : decode cX12_washed 163 = .ok (.ifCond .eq 11, 3) := by decide +kernel
theorem dX12_washed_166 : decode cX12_washed 166 = .ok (.iload 10, 2) := by decide +kernel
theorem dX12_washed_168 : decode cX12_washed 168 = .ok (.ifCond .ne 6, 3) := by decide +kernel
theorem dX12_washed_171 : decode cX12_washed 171 = .ok (.iconst 0, 1) := by decide +kernel
theorem dX12_washed_172 : decode cX12_washed 172 = .ok (.istore 8, 2) := by decide +kernel
theorem dX12_washed_174 : decode cX12_washed 174 = .ok (.iload 10, 2) := by decide +kernel
theorem dX12_washed_176 : decode cX12_washed 176 = .ok (.ifCond .ne 6, 3) := by decide +kernel
theorem dX12_washed_179 : decode cX12_washed 179 = .ok (.goto 56, 3) := by decide +kernel
theorem dX12_washed_182 : decode cX12_washed 182 = .ok (.iload 5, 2) := by decide +kernel
theorem dX12_washed_184 : decode cX12_washed 184 = .ok (.iload 9, 2) := by decide +kernel
theorem dX12_washed_186 : decode cX12_washed 186 = .ok (.invokestatic 244, 3) := by decide +kernel
theorem dX12_washed_189 : decode cX12_washed 189 = .ok (.ifCond .eq 15, 3) := by decide +kernel
theorem dX12_washed_192 : decode cX12_washed 192 = .ok (.iconst 1, 1) := by decide +kernel
theorem dX12_washed_193 : decode cX12_washed 193 = .ok (.aload_n 0, 1) := by decide +kernel
theorem dX12_washed_194 : decode cX12_washed 194 = .ok (.getfield 84, 3) := by decide +kernel
theorem dX12_washed_197 : decode cX12_washed 197 = .ok (.iload 9, 2) := by decide +kernel
theorem dX12_washed_199 : decode cX12_washed 199 = .ok (.iaload, 1) := by decide +kernel
theorem dX12_washed_200 : decode cX12_washed 200 = .ok (.isub, 1) := by decide +kernel
theorem dX12_washed_201 : decode cX12_washed 201 = .ok (.goto 10, 3) := by decide +kernel
theorem dX12_washed_204 : decode cX12_washed 204 = .ok (.aload_n 0, 1) := by decide +kernel
theorem dX12_washed_205 : decode cX12_washed 205 = .ok (.getfield 84, 3) := by decide +kernel
theorem dX12_washed_208 : decode cX12_washed 208 = .ok (.iload 9, 2) := by decide +kernel
theorem dX12_washed_210 : decode cX12_washed 210 = .ok (.iaload, 1) := by decide +kernel
theorem dX12_washed_211 : decode cX12_washed 211 = .ok (.istore 11, 2) := by decide +kernel
theorem dX12_washed_213 : decode cX12_washed 213 = .ok (.iload 6, 2) := by decide +kernel
theorem dX12_washed_215 : decode cX12_washed 215 = .ok (.iload 11, 2) := by decide +kernel
theorem dX12_washed_217 : decode cX12_washed 217 = .ok (.ifCond .ne 7, 3) := by decide +kernel
theorem dX12_washed_220 : decode cX12_washed 220 = .ok (.iconst 1, 1) := by decide +kernel
theorem dX12_washed_221 : decode cX12_washed 221 = .ok (.goto 4, 3) := by decide +kernel
theorem dX12_washed_224 : decode cX12_washed 224 = .ok (.iconst 0, 1) := by decide +kernel
theorem dX12_washed_225 : decode cX12_washed 225 = .ok (.iadd, 1) := by decide +kernel
theorem dX12_washed_226 : decode cX12_washed 226 = .ok (.istore 6, 2) := by decide +kernel
theorem dX12_washed_228 : decode cX12_washed 228 = .ok (.iload 7, 2) := by decide +kernel
theorem dX12_washed_230 : decode cX12_washed 230 = .ok (.iload 11, 2) := by decide +kernel
theorem dX12_washed_232 : decode cX12_washed 232 = .ok (.iadd, 1) := by decide +kernel
theorem dX12_washed_233 : decode cX12_washed 233 = .ok (.istore 7, 2) := by decide +kernel
theorem dX12_washed_235 : decode cX12_washed 235 = .ok (.iinc 9 1, 3) := by decide +kernel
theorem dX12_washed_238 : decode cX12_washed 238 = .ok (.goto (-119), 3) := by decide +kernel
theorem dX12_washed_241 : decode cX12_washed 241 = .ok (.iload 8, 2) := by decide +kernel
theorem dX12_washed_243 : decode cX12_washed 243 = .ok (.ifCond .eq 30, 3) := by decide +kernel
theorem dX12_washed_246 : decode cX12_washed 246 = .ok (.iload 6, 2) := by decide +kernel
theorem dX12_washed_248 : decode cX12_washed 248 = .ok (.iload_n 1, 1) := by decide +kernel
theorem dX12_washed_249 : decode cX12_washed 249 = .ok (.if_icmp .ne 24, 3) := by decide +kernel
theorem dX12_washed_252 : decode cX12_washed 252 = .ok (.iload 7, 2) := by decide +kernel
theorem dX12_washed_254 : decode cX12_washed 254 = .ok (.iload_n 2, 1) := by decide +kernel
theorem dX12_washed_255 : decode cX12_washed 255 = .ok (.if_icmp .eq 6, 3) := by decide +kernel
theorem dX12_washed_258 : decode cX12_washed 258 = .ok (.goto 15, 3) := by decide +kernel
theorem dX12_washed_261 : decode cX12_washed 261 = .ok (.iload 4, 2) := by decide +kernel
theorem dX12_washed_263 : decode cX12_washed 263 = .ok (.iload_n 3, 1) := by decide +kernel
theorem dX12_washed_264 : decode cX12_washed 264 = .ok (.if_icmp .ne 6, 3) := by decide +kernel
theorem dX12_washed_267 : decode cX12_washed 267 = .ok (.iload 5, 2) := by decide +kernel
theorem dX12_washed_269 : decode cX12_washed 269 = .ok (.ireturn, 1) := by decide +kernel
theorem dX12_washed_270 : decode cX12_washed 270 = .ok (.iinc 4 1, 3) := by decide +kernel
theorem dX12_washed_273 : decode cX12_washed 273 = .ok (.iinc 5 1, 3) := by decide +kernel
theorem dX12_washed_276 : decode cX12_washed 276 = .ok (.goto (-192), 3) := by decide +kernel
theorem dX12_washed_279 : decode cX12_washed 279 = .ok (.iload_n 3, 1) := by decide +kernel
theorem dX12_washed_280 : decode cX12_washed 280 = .ok (.iconst (-1), 1) := by decide +kernel
theorem dX12_washed_281 : decode cX12_washed 281 = .ok (.if_icmp .ne 8, 3) := by decide +kernel
theorem dX12_washed_284 : decode cX12_washed 284 = .ok (.iload 4, 2) := by decide +kernel
theorem dX12_washed_286 : decode cX12_washed 286 = .ok (.goto 4, 3) := by decide +kernel
theorem dX12_washed_289 : decode cX12_washed 289 = .ok (.iconst (-1), 1) := by decide +kernel
theorem dX12_washed_290 : decode cX12_washed 290 = .ok (.ireturn, 1) := by decide +kernel
theorem dX12_apart_0 : decode cX12_apart 0 = .ok (.aload_n 0, 1) := by decide +kernel
theorem dX12_apart_1 : decode cX12_apart 1 = .ok (.iload_n 1, 1) := by decide +kernel
theorem dX12_apart_2 : decode cX12_apart 2 = .ok (.iconst 0, 1) := by decide +kernel
theorem dX12_apart_3 : decode cX12_apart 3 = .ok (.invokevirtual 318, 3) := by decide +kernel
theorem dX12_apart_6 : decode cX12_apart 6 = .ok (.aload_n 0, 1) := by decide +kernel
theorem dX12_apart_7 : decode cX12_apart 7 = .ok (.iload_n 2, 1) := by decide +kernel
theorem dX12_apart_8 : decode cX12_apart 8 = .ok (.iconst 0, 1) := by decide +kernel
theorem dX12_apart_9 : decode cX12_apart 9 = .ok (.invokevirtual 318, 3) := by decide +kernel
theorem dX12_apart_12 : decode cX12_apart 12 = .ok (.isub, 1) := by decide +kernel
theorem dX12_apart_13 : decode cX12_apart 13 = .ok (.invokestatic 334, 3) := by decide +kernel
theorem dX12_apart_16 : decode cX12_apart 16 = .ok (.aload_n 0, 1) := by decide +kernel
theorem dX12_apart_17 : decode cX12_apart 17 = .ok (.iload_n 1, 1) := by decide +kernel
theorem dX12_apart_18 : decode cX12_apart 18 = .ok (.iconst 1, 1) := by decide +kernel
theorem dX12_apart_19 : decode cX12_apart 19 = .ok (.invokevirtual 318, 3) := by decide +kernel
theorem dX12_apart_22 : decode cX12_apart 22 = .ok (.aload_n 0, 1) := by decide +kernel
theorem dX12_apart_23 : decode cX12_apart 23 = .ok (.iload_n 2, 1) := by decide +kernel
theorem dX12_apart_24 : decode cX12_apart 24 = .ok (.iconst 1, 1) := by decide +kernel
theorem dX12_apart_25 : decode cX12_apart 25 = .ok (.invokevirtual 318, 3) := by decide +kernel
theorem dX12_apart_28 : decode cX12_apart 28 = .ok (.isub, 1) := by decide +kernel
theorem dX12_apart_29 : decode cX12_apart 29 = .ok (.invokestatic 334, 3) := by decide +kernel
theorem dX12_apart_32 : decode cX12_apart 32 = .ok (.iadd, 1) := by decide +kernel
theorem dX12_apart_33 : decode cX12_apart 33 = .ok (.ireturn, 1) := by decide +kernel
theorem dX12_watches_0 : decode cX12_watches 0 = .ok (.iconst 0, 1) := by decide +kernel
theorem dX12_watches_1 : decode cX12_watches 1 = .ok (.istore_n 3, 1) := by decide +kernel
theorem dX12_watches_2 : decode cX12_watches 2 = .ok (.iload_n 3, 1) := by decide +kernel
theorem dX12_watches_3 : decode cX12_watches 3 = .ok (.aload_n 0, 1) := by decide +kernel
theorem dX12_watches_4 : decode cX12_watches 4 = .ok (.getfield 309, 3) := by decide +kernel
theorem dX12_watches_7 : decode cX12_watches 7 = .ok (.if_icmp .ge 69, 3) := by decide +kernel
theorem dX12_watches_10 : decode cX12_watches 10 = .ok (.iconst 0, 1) := by decide +kernel
theorem dX12_watches_11 : decode cX12_watches 11 = .ok (.istore 4, 2) := by decide +kernel
theorem dX12_watches_13 : decode cX12_watches 13 = .ok (.iconst 0, 1) := by decide +kernel
theorem dX12_watches_14 : decode cX12_watches 14 = .ok (.istore 5, 2) := by decide +kernel
theorem dX12_watches_16 : decode cX12_watches 16 = .ok (.iload 5, 2) := by decide +kernel
theorem dX12_watches_18 : decode cX12_watches 18 = .ok (.aload_n 0, 1) := by decide +kernel
theorem dX12_watches_19 : decode cX12_watches 19 = .ok (.getfield 309, 3) := by decide +kernel
theorem dX12_watches_22 : decode cX12_watches 22 = .ok (.if_icmp .ge 41, 3) := by decide +kernel
theorem dX12_watches_25 : decode cX12_watches 25 = .ok (.iload 4, 2) := by decide +kernel
theorem dX12_watches_27 : decode cX12_watches 27 = .ok (.ifCond .ne 23, 3) := by decide +kernel
theorem dX12_watches_30 : decode cX12_watches 30 = .ok (.iload_n 1, 1) := by decide +kernel
theorem dX12_watches_31 : decode cX12_watches 31 = .ok (.iload 5, 2) := by decide +kernel
theorem dX12_watches_33 : decode cX12_watches 33 = .ok (.invokestatic 244, 3) := by decide +kernel
theorem dX12_watches_36 : decode cX12_watches 36 = .ok (.ifCond .eq 18, 3) := by decide +kernel
theorem dX12_watches_39 : decode cX12_watches 39 = .ok (.aload_n 0, 1) := by decide +kernel
theorem dX12_watches_40 : decode cX12_watches 40 = .ok (.iload_n 3, 1) := by decide +kernel
theorem dX12_watches_41 : decode cX12_watches 41 = .ok (.iload 5, 2) := by decide +kernel
theorem dX12_watches_43 : decode cX12_watches 43 = .ok (.invokevirtual 535, 3) := by decide +kernel
theorem dX12_watches_46 : decode cX12_watches 46 = .ok (.iload_n 2, 1) := by decide +kernel
theorem dX12_watches_47 : decode cX12_watches 47 = .ok (.if_icmp .gt 7, 3) := by decide +kernel
theorem dX12_watches_50 : decode cX12_watches 50 = .ok (.iconst 1, 1) := by decide +kernel
theorem dX12_watches_51 : decode cX12_watches 51 = .ok (.goto 4, 3) := by decide +kernel
theorem dX12_watches_54 : decode cX12_watches 54 = .ok (.iconst 0, 1) := by decide +kernel
theorem dX12_watches_55 : decode cX12_watches 55 = .ok (.istore 4, 2) := by decide +kernel
theorem dX12_watches_57 : decode cX12_watches 57 = .ok (.iinc 5 1, 3) := by decide +kernel
theorem dX12_watches_60 : decode cX12_watches 60 = .ok (.goto (-44), 3) := by decide +kernel
theorem dX12_watches_63 : decode cX12_watches 63 = .ok (.iload 4, 2) := by decide +kernel
theorem dX12_watches_65 : decode cX12_watches 65 = .ok (.ifCond .ne 5, 3) := by decide +kernel
theorem dX12_watches_68 : decode cX12_watches 68 = .ok (.iconst 0, 1) := by decide +kernel
theorem dX12_watches_69 : decode cX12_watches 69 = .ok (.ireturn, 1) := by decide +kernel
theorem dX12_watches_70 : decode cX12_watches 70 = .ok (.iinc 3 1, 3) := by decide +kernel
theorem dX12_watches_73 : decode cX12_watches 73 = .ok (.goto (-71), 3) := by decide +kernel
theorem dX12_watches_76 : decode cX12_watches 76 = .ok (.iconst 1, 1) := by decide +kernel
theorem dX12_watches_77 : decode cX12_watches 77 = .ok (.ireturn, 1) := by decide +kernel
theorem dX12_watch_0 : decode cX12_watch 0 = .ok (.aload_n 0, 1) := by decide +kernel
theorem dX12_watch_1 : decode cX12_watch 1 = .ok (.iconst 0, 1) := by decide +kernel
theorem dX12_watch_2 : decode cX12_watch 2 = .ok (.putfield 111, 3) := by decide +kernel
theorem dX12_watch_5 : decode cX12_watch 5 = .ok (.aload_n 0, 1) := by decide +kernel
theorem dX12_watch_6 : decode cX12_watch 6 = .ok (.getfield 309, 3) := by decide +kernel
theorem dX12_watch_9 : decode cX12_watch 9 = .ok (.ifCond .eq 15, 3) := by decide +kernel
theorem dX12_watch_12 : decode cX12_watch 12 = .ok (.iload_n 1, 1) := by decide +kernel
theorem dX12_watch_13 : decode cX12_watch 13 = .ok (.i2l, 1) := by decide +kernel
theorem dX12_watch_14 : decode cX12_watch 14 = .ok (.lconst 0, 1) := by decide +kernel
theorem dX12_watch_15 : decode cX12_watch 15 = .ok (.ldc2_w 518, 3) := by decide +kernel
theorem dX12_watch_18 : decode cX12_watch 18 = .ok (.invokestatic 232, 3) := by decide +kernel
theorem dX12_watch_21 : decode cX12_watch 21 = .ok (.ifCond .ne 5, 3) := by decide +kernel
theorem dX12_watch_24 : decode cX12_watch 24 = .ok (.iconst (-1), 1) := by decide +kernel
theorem dX12_watch_25 : decode cX12_watch 25 = .ok (.ireturn, 1) := by decide +kernel
theorem dX12_watch_26 : decode cX12_watch 26 = .ok (.iconst 1, 1) := by decide +kernel
theorem dX12_watch_27 : decode cX12_watch 27 = .ok (.aload_n 0, 1) := by decide +kernel
theorem dX12_watch_28 : decode cX12_watch 28 = .ok (.getfield 309, 3) := by decide +kernel
theorem dX12_watch_31 : decode cX12_watch 31 = .ok (.ishl, 1) := by decide +kernel
theorem dX12_watch_32 : decode cX12_watch 32 = .ok (.iconst 1, 1) := by decide +kernel
theorem dX12_watch_33 : decode cX12_watch 33 = .ok (.isub, 1) := by decide +kernel
theorem dX12_watch_34 : decode cX12_watch 34 = .ok (.istore_n 2, 1) := by decide +kernel
theorem dX12_watch_35 : decode cX12_watch 35 = .ok (.iconst 1, 1) := by decide +kernel
theorem dX12_watch_36 : decode cX12_watch 36 = .ok (.istore_n 3, 1) := by decide +kernel
theorem dX12_watch_37 : decode cX12_watch 37 = .ok (.iload_n 3, 1) := by decide +kernel
theorem dX12_watch_38 : decode cX12_watch 38 = .ok (.iconst 1, 1) := by decide +kernel
theorem dX12_watch_39 : decode cX12_watch 39 = .ok (.aload_n 0, 1) := by decide +kernel
theorem dX12_watch_40 : decode cX12_watch 40 = .ok (.getfield 309, 3) := by decide +kernel
theorem dX12_watch_43 : decode cX12_watch 43 = .ok (.ishl, 1) := by decide +kernel
theorem dX12_watch_44 : decode cX12_watch 44 = .ok (.if_icmp .ge 31, 3) := by decide +kernel
theorem dX12_watch_47 : decode cX12_watch 47 = .ok (.iload_n 3, 1) := by decide +kernel
theorem dX12_watch_48 : decode cX12_watch 48 = .ok (.invokestatic 530, 3) := by decide +kernel
theorem dX12_watch_51 : decode cX12_watch 51 = .ok (.iload_n 2, 1) := by decide +kernel
theorem dX12_watch_52 : decode cX12_watch 52 = .ok (.invokestatic 530, 3) := by decide +kernel
theorem dX12_watch_55 : decode cX12_watch 55 = .ok (.if_icmp .ge 14, 3) := by decide +kernel
theorem dX12_watch_58 : decode cX12_watch 58 = .ok (.aload_n 0, 1) := by decide +kernel
theorem dX12_watch_59 : decode cX12_watch 59 = .ok (.iload_n 3, 1) := by decide +kernel
theorem dX12_watch_60 : decode cX12_watch 60 = .ok (.iload_n 1, 1) := by decide +kernel
theorem dX12_watch_61 : decode cX12_watch 61 = .ok (.invokevirtual 538, 3) := by decide +kernel
theorem dX12_watch_64 : decode cX12_watch 64 = .ok (.ifCond .eq 5, 3) := by decide +kernel
theorem dX12_watch_67 : decode cX12_watch 67 = .ok (.iload_n 3, 1) := by decide +kernel
theorem dX12_watch_68 : decode cX12_watch 68 = .ok (.istore_n 2, 1) := by decide +kernel
theorem dX12_watch_69 : decode cX12_watch 69 = .ok (.iinc 3 1, 3) := by decide +kernel
theorem dX12_watch_72 : decode cX12_watch 72 = .ok (.goto (-35), 3) := by decide +kernel
theorem dX12_watch_75 : decode cX12_watch 75 = .ok (.iload_n 2, 1) := by decide +kernel
theorem dX12_watch_76 : decode cX12_watch 76 = .ok (.ireturn, 1) := by decide +kernel
theorem dX12_fair_0 : decode cX12_fair 0 = .ok (.aload_n 0, 1) := by decide +kernel
theorem dX12_fair_1 : decode cX12_fair 1 = .ok (.iconst 0, 1) := by decide +kernel
theorem dX12_fair_2 : decode cX12_fair 2 = .ok (.putfield 111, 3) := by decide +kernel
theorem dX12_fair_5 : decode cX12_fair 5 = .ok (.aload_n 0, 1) := by decide +kernel
theorem dX12_fair_6 : decode cX12_fair 6 = .ok (.getfield 309, 3) := by decide +kernel
theorem dX12_fair_9 : decode cX12_fair 9 = .ok (.ifCond .eq 25, 3) := by decide +kernel
theorem dX12_fair_12 : decode cX12_fair 12 = .ok (.iload_n 1, 1) := by decide +kernel
theorem dX12_fair_13 : decode cX12_fair 13 = .ok (.i2l, 1) := by decide +kernel
theorem dX12_fair_14 : decode cX12_fair 14 = .ok (.lconst 1, 1) := by decide +kernel
theorem dX12_fair_15 : decode cX12_fair 15 = .ok (.ldc2_w 482, 3) := by decide +kernel
theorem dX12_fair_18 : decode cX12_fair 18 = .ok (.invokestatic 232, 3) := by decide +kernel
theorem dX12_fair_21 : decode cX12_fair 21 = .ok (.ifCond .eq 13, 3) := by decide +kernel
theorem dX12_fair_24 : decode cX12_fair 24 = .ok (.iload_n 2, 1) := by decide +kernel
theorem dX12_fair_25 : decode cX12_fair 25 = .ok (.i2l, 1) := by decide +kernel
theorem dX12_fair_26 : decode cX12_fair 26 = .ok (.lconst 0, 1) := by decide +kernel
theorem dX12_fair_27 : decode cX12_fair 27 = .ok (.lconst 1, 1) := by decide +kernel
theorem dX12_fair_28 : decode cX12_fair 28 = .ok (.invokestatic 232, 3) := by decide +kernel
theorem dX12_fair_31 : decode cX12_fair 31 = .ok (.ifCond .ne 5, 3) := by decide +kernel
theorem dX12_fair_34 : decode cX12_fair 34 = .ok (.iconst (-1), 1) := by decide +kernel
theorem dX12_fair_35 : decode cX12_fair 35 = .ok (.ireturn, 1) := by decide +kernel
theorem dX12_fair_36 : decode cX12_fair 36 = .ok (.aload_n 0, 1) := by decide +kernel
theorem dX12_fair_37 : decode cX12_fair 37 = .ok (.getfield 61, 3) := by decide +kernel
theorem dX12_fair_40 : decode cX12_fair 40 = .ok (.aload_n 0, 1) := by decide +kernel
theorem dX12_fair_41 : decode cX12_fair 41 = .ok (.getfield 64, 3) := by decide +kernel
theorem dX12_fair_44 : decode cX12_fair 44 = .ok (.invokestatic 468, 3) := by decide +kernel
theorem dX12_fair_47 : decode cX12_fair 47 = .ok (.iconst (-1), 1) := by decide +kernel
theorem dX12_fair_48 : decode cX12_fair 48 = .ok (.istore_n 3, 1) := by decide +kernel
theorem dX12_fair_49 : decode cX12_fair 49 = .ok (.iconst 0, 1) := by decide +kernel
theorem dX12_fair_50 : decode cX12_fair 50 = .ok (.istore 4, 2) := by decide +kernel
theorem dX12_fair_52 : decode cX12_fair 52 = .ok (.iconst 0, 1) := by decide +kernel
theorem dX12_fair_53 : decode cX12_fair 53 = .ok (.istore 5, 2) := by decide +kernel
theorem dX12_fair_55 : decode cX12_fair 55 = .ok (.iload 5, 2) := by decide +kernel
theorem dX12_fair_57 : decode cX12_fair 57 = .ok (.iload_n 1, 1) := by decide +kernel
theorem dX12_fair_58 : decode cX12_fair 58 = .ok (.if_icmp .gt 60, 3) := by decide +kernel
theorem dX12_fair_61 : decode cX12_fair 61 = .ok (.aload_n 0, 1) := by decide +kernel
theorem dX12_fair_62 : decode cX12_fair 62 = .ok (.aload_n 0, 1) := by decide +kernel
theorem dX12_fair_63 : decode cX12_fair 63 = .ok (.getfield 64, 3) := by decide +kernel
theorem dX12_fair_66 : decode cX12_fair 66 = .ok (.iconst 0, 1) := by decide +kernel
theorem dX12_fair_67 : decode cX12_fair 67 = .ok (.invokevirtual 390, 3) := by decide +kernel
theorem dX12_fair_70 : decode cX12_fair 70 = .ok (.aload_n 0, 1) := by decide +kernel
theorem dX12_fair_71 : decode cX12_fair 71 = .ok (.aload_n 0, 1) := by decide +kernel
theorem dX12_fair_72 : decode cX12_fair 72 = .ok (.getfield 64, 3) := by decide +kernel
theorem dX12_fair_75 : decode cX12_fair 75 = .ok (.iconst 1, 1) := by decide +kernel
theorem dX12_fair_76 : decode cX12_fair 76 = .ok (.invokevirtual 390, 3) := by decide +kernel
theorem dX12_fair_79 : decode cX12_fair 79 = .ok (.isub, 1) := by decide +kernel
theorem dX12_fair_80 : decode cX12_fair 80 = .ok (.invokestatic 334, 3) := by decide +kernel
theorem dX12_fair_83 : decode cX12_fair 83 = .ok (.istore 6, 2) := by decide +kernel
theorem dX12_fair_85 : decode cX12_fair 85 = .ok (.iload_n 3, 1) := by decide +kernel
theorem dX12_fair_86 : decode cX12_fair 86 = .ok (.iconst (-1), 1) := by decide +kernel
theorem dX12_fair_87 : decode cX12_fair 87 = .ok (.if_icmp .eq 10, 3) := by decide +kernel
theorem dX12_fair_90 : decode cX12_fair 90 = .ok (.iload 6, 2) := by decide +kernel
theorem dX12_fair_92 : decode cX12_fair 92 = .ok (.iload 4, 2) := by decide +kernel
theorem dX12_fair_94 : decode cX12_fair 94 = .ok (.if_icmp .ge 10, 3) := by decide +kernel
theorem dX12_fair_97 : decode cX12_fair 97 = .ok (.iload 5, 2) := by decide +kernel
theorem dX12_fair_99 : decode cX12_fair 99 = .ok (.istore_n 3, 1) := by decide +kernel
theorem dX12_fair_100 : decode cX12_fair 100 = .ok (.iload 6, 2) := by decide +kernel
theorem dX12_fair_102 : decode cX12_fair 102 = .ok (.istore 4, 2) := by decide +kernel
theorem dX12_fair_104 : decode cX12_fair 104 = .ok (.aload_n 0, 1) := by decide +kernel
theorem dX12_fair_105 : decode cX12_fair 105 = .ok (.aload_n 0, 1) := by decide +kernel
theorem dX12_fair_106 : decode cX12_fair 106 = .ok (.getfield 64, 3) := by decide +kernel
theorem dX12_fair_109 : decode cX12_fair 109 = .ok (.invokevirtual 450, 3) := by decide +kernel
theorem dX12_fair_112 : decode cX12_fair 112 = .ok (.iinc 5 1, 3) := by decide +kernel
theorem dX12_fair_115 : decode cX12_fair 115 = .ok (.goto (-60), 3) := by decide +kernel
theorem dX12_fair_118 : decode cX12_fair 118 = .ok (.iload_n 2, 1) := by decide +kernel
theorem dX12_fair_119 : decode cX12_fair 119 = .ok (.ifCond .ne 7, 3) := by decide +kernel
theorem dX12_fair_122 : decode cX12_fair 122 = .ok (.iload_n 3, 1) := by decide +kernel
theorem dX12_fair_123 : decode cX12_fair 123 = .ok (.goto 5, 3) := by decide +kernel
theorem dX12_fair_126 : decode cX12_fair 126 = .ok (.iload 4, 2) := by decide +kernel
theorem dX12_fair_128 : decode cX12_fair 128 = .ok (.ireturn, 1) := by decide +kernel
theorem dX12_buoys_0 : decode cX12_buoys 0 = .ok (.aload_n 0, 1) := by decide +kernel
theorem dX12_buoys_1 : decode cX12_buoys 1 = .ok (.iconst 0, 1) := by decide +kernel
theorem dX12_buoys_2 : decode cX12_buoys 2 = .ok (.putfield 111, 3) := by decide +kernel
theorem dX12_buoys_5 : decode cX12_buoys 5 = .ok (.aload_n 0, 1) := by decide +kernel
theorem dX12_buoys_6 : decode cX12_buoys 6 = .ok (.getfield 309, 3) := by decide +kernel
theorem dX12_buoys_9 : decode cX12_buoys 9 = .ok (.ifCond .eq 13, 3) := by decide +kernel
theorem dX12_buoys_12 : decode cX12_buoys 12 = .ok (.iload_n 1, 1) := by decide +kernel
theorem dX12_buoys_13 : decode cX12_buoys 13 = .ok (.i2l, 1) := by decide +kernel
theorem dX12_buoys_14 : decode cX12_buoys 14 = .ok (.lconst 0, 1) := by decide +kernel
theorem dX12_buoys_15 : decode cX12_buoys 15 = .ok (.lconst 1, 1) := by decide +kernel
theorem dX12_buoys_16 : decode cX12_buoys 16 = .ok (.invokestatic 232, 3) := by decide +kernel
theorem dX12_buoys_19 : decode cX12_buoys 19 = .ok (.ifCond .ne 5, 3) := by decide +kernel
theorem dX12_buoys_22 : decode cX12_buoys 22 = .ok (.iconst (-1), 1) := by decide +kernel
theorem dX12_buoys_23 : decode cX12_buoys 23 = .ok (.ireturn, 1) := by decide +kernel
theorem dX12_buoys_24 : decode cX12_buoys 24 = .ok (.iconst 0, 1) := by decide +kernel
theorem dX12_buoys_25 : decode cX12_buoys 25 = .ok (.istore_n 2, 1) := by decide +kernel
theorem dX12_buoys_26 : decode cX12_buoys 26 = .ok (.iconst 0, 1) := by decide +kernel
theorem dX12_buoys_27 : decode cX12_buoys 27 = .ok (.istore_n 3, 1) := by decide +kernel
theorem dX12_buoys_28 : decode cX12_buoys 28 = .ok (.iload_n 3, 1) := by decide +kernel
theorem dX12_buoys_29 : decode cX12_buoys 29 = .ok (.aload_n 0, 1) := by decide +kernel
theorem dX12_buoys_30 : decode cX12_buoys 30 = .ok (.getfield 309, 3) := by decide +kernel
theorem dX12_buoys_33 : decode cX12_buoys 33 = .ok (.if_icmp .ge 91, 3) := by decide +kernel
theorem dX12_buoys_36 : decode cX12_buoys 36 = .ok (.aload_n 0, 1) := by decide +kernel
theorem dX12_buoys_37 : decode cX12_buoys 37 = .ok (.aload_n 0, 1) := by decide +kernel
theorem dX12_buoys_38 : decode cX12_buoys 38 = .ok (.getfield 61, 3) := by decide +kernel
theorem dX12_buoys_41 : decode cX12_buoys 41 = .ok (.iload_n 3, 1) := by decide +kernel
theorem dX12_buoys_42 : decode cX12_buoys 42 = .ok (.invokevirtual 386, 3) := by decide +kernel
theorem dX12_buoys_45 : decode cX12_buoys 45 = .ok (.istore 4, 2) := by decide +kernel
theorem dX12_buoys_47 : decode cX12_buoys 47 = .ok (.iload_n 1, 1) := by decide +kernel
theorem dX12_buoys_48 : decode cX12_buoys 48 = .ok (.ifCond .ne 27, 3) := by decide +kernel
theorem dX12_buoys_51 : decode cX12_buoys 51 = .ok (.aload_n 0, 1) := by decide +kernel
theorem dX12_buoys_52 : decode cX12_buoys 52 = .ok (.iload_n 3, 1) := by decide +kernel
theorem dX12_buoys_53 : decode cX12_buoys 53 = .ok (.iconst 2, 1) := by decide +kernel
theorem dX12_buoys_54 : decode cX12_buoys 54 = .ok (.invokevirtual 318, 3) := by decide +kernel
theorem dX12_buoys_57 : decode cX12_buoys 57 = .ok (.aload_n 0, 1) := by decide +kernel
theorem dX12_buoys_58 : decode cX12_buoys 58 = .ok (.getfield 61, 3) := by decide +kernel
theorem dX12_buoys_61 : decode cX12_buoys 61 = .ok (.bipush 58, 2) := by decide +kernel
theorem dX12_buoys_63 : decode cX12_buoys 63 = .ok (.iaload, 1) := by decide +kernel
theorem dX12_buoys_64 : decode cX12_buoys 64 = .ok (.if_icmp .gt 7, 3) := by decide +kernel
theorem dX12_buoys_67 : decode cX12_buoys 67 = .ok (.iconst 1, 1) := by decide +kernel
theorem dX12_buoys_68 : decode cX12_buoys 68 = .ok (.goto 33, 3) := by decide +kernel
theorem dX12_buoys_71 : decode cX12_buoys 71 = .ok (.iconst 0, 1) := by decide +kernel
theorem dX12_buoys_72 : decode cX12_buoys 72 = .ok (.goto 29, 3) := by decide +kernel
theorem dX12_buoys_75 : decode cX12_buoys 75 = .ok (.iload 4, 2) := by decide +kernel
theorem dX12_buoys_77 : decode cX12_buoys 77 = .ok (.iconst (-1), 1) := by decide +kernel
theorem dX12_buoys_78 : decode cX12_buoys 78 = .ok (.if_icmp .eq 22, 3) := by decide +kernel
theorem dX12_buoys_81 : decode cX12_buoys 81 = .ok (.iload 4, 2) := by decide +kernel
theorem dX12_buoys_83 : decode cX12_buoys 83 = .ok (.aload_n 0, 1) := by decide +kernel
theorem dX12_buoys_84 : decode cX12_buoys 84 = .ok (.getfield 61, 3) := by decide +kernel
theorem dX12_buoys_87 : decode cX12_buoys 87 = .ok (.iconst 5, 1) := by decide +kernel
theorem dX12_buoys_88 : decode cX12_buoys 88 = .ok (.iload_n 3, 1) := by decide +kernel
theorem dX12_buoys_89 : decode cX12_buoys 89 = .ok (.imul, 1) := by decide +kernel
theorem dX12_buoys_90 : decode cX12_buoys 90 = .ok (.iconst 3, 1) := by decide +kernel
theorem dX12_buoys_91 : decode cX12_buoys 91 = .ok (.iadd, 1) := by decide +kernel
theorem dX12_buoys_92 : decode cX12_buoys 92 = .ok (.iaload, 1) := by decide +kernel
theorem dX12_buoys_93 : decode cX12_buoys 93 = .ok (.if_icmp .ne 7, 3) := by decide +kernel
theorem dX12_buoys_96 : decode cX12_buoys 96 = .ok (.iconst 1, 1) := by decide +kernel
theorem dX12_buoys_97 : decode cX12_buoys 97 = .ok (.goto 4, 3) := by decide +kernel
theorem dX12_buoys_100 : decode cX12_buoys 100 = .ok (.iconst 0, 1) := by decide +kernel
theorem dX12_buoys_101 : decode cX12_buoys 101 = .ok (.istore 5, 2) := by decide +kernel
theorem dX12_buoys_103 : decode cX12_buoys 103 = .ok (.iload_n 2, 1) := by decide +kernel
theorem dX12_buoys_104 : decode cX12_buoys 104 = .ok (.iload 5, 2) := by decide +kernel
theorem dX12_buoys_106 : decode cX12_buoys 106 = .ok (.ifCond .eq 9, 3) := by decide +kernel
theorem dX12_buoys_109 : decode cX12_buoys 109 = .ok (.iconst 1, 1) := by decide +kernel
theorem dX12_buoys_110 : decode cX12_buoys 110 = .ok (.iload_n 3, 1) := by decide +kernel
theorem dX12_buoys_111 : decode cX12_buoys 111 = .ok (.ishl, 1) := by decide +kernel
theorem dX12_buoys_112 : decode cX12_buoys 112 = .ok (.goto 4, 3) := by decide +kernel
theorem dX12_buoys_115 : decode cX12_buoys 115 = .ok (.iconst 0, 1) := by decide +kernel
theorem dX12_buoys_116 : decode cX12_buoys 116 = .ok (.ior, 1) := by decide +kernel
theorem dX12_buoys_117 : decode cX12_buoys 117 = .ok (.istore_n 2, 1) := by decide +kernel
theorem dX12_buoys_118 : decode cX12_buoys 118 = .ok (.iinc 3 1, 3) := by decide +kernel
theorem dX12_buoys_121 : decode cX12_buoys 121 = .ok (.goto (-93), 3) := by decide +kernel
theorem dX12_buoys_124 : decode cX12_buoys 124 = .ok (.iload_n 2, 1) := by decide +kernel
theorem dX12_buoys_125 : decode cX12_buoys 125 = .ok (.ireturn, 1) := by decide +kernel
theorem dX12_sways_0 : decode cX12_sways 0 = .ok (.aload_n 0, 1) := by decide +kernel
theorem dX12_sways_1 : decode cX12_sways 1 = .ok (.iconst 0, 1) := by decide +kernel
theorem dX12_sways_2 : decode cX12_sways 2 = .ok (.putfield 111, 3) := by decide +kernel
theorem dX12_sways_5 : decode cX12_sways 5 = .ok (.aload_n 0, 1) := by decide +kernel
theorem dX12_sways_6 : decode cX12_sways 6 = .ok (.iload_n 1, 1) := by decide +kernel
theorem dX12_sways_7 : decode cX12_sways 7 = .ok (.invokevirtual 407, 3) := by decide +kernel
theorem dX12_sways_10 : decode cX12_sways 10 = .ok (.ifCond .eq 13, 3) := by decide +kernel
theorem dX12_sways_13 : decode cX12_sways 13 = .ok (.iload_n 2, 1) := by decide +kernel
theorem dX12_sways_14 : decode cX12_sways 14 = .ok (.i2l, 1) := by decide +kernel
theorem dX12_sways_15 : decode cX12_sways 15 = .ok (.lconst 0, 1) := by decide +kernel
theorem dX12_sways_16 : decode cX12_sways 16 = .ok (.lconst 1, 1) := by decide +kernel
theorem dX12_sways_17 : decode cX12_sways 17 = .ok (.invokestatic 232, 3) := by decide +kernel
theorem dX12_sways_20 : decode cX12_sways 20 = .ok (.ifCond .ne 7, 3) := by decide +kernel
theorem dX12_sways_23 : decode cX12_sways 23 = .ok (.ldc_w 417, 3) := by decide +kernel
theorem dX12_sways_26 : decode cX12_sways 26 = .ok (.ireturn, 1) := by decide +kernel
theorem dX12_sways_27 : decode cX12_sways 27 = .ok (.ldc_w 417, 3) := by decide +kernel
theorem dX12_sways_30 : decode cX12_sways 30 = .ok (.istore_n 3, 1) := by decide +kernel
theorem dX12_sways_31 : decode cX12_sways 31 = .ok (.ldc_w 417, 3) := by decide +kernel
theorem dX12_sways_34 : decode cX12_sways 34 = .ok (.istore 4, 2) := by decide +kernel
theorem dX12_sways_36 : decode cX12_sways 36 = .ok (.iconst 0, 1) := by decide +kernel
theorem dX12_sways_37 : decode cX12_sways 37 = .ok (.istore 5, 2) := by decide +kernel
theorem dX12_sways_39 : decode cX12_sways 39 = .ok (.iload 5, 2) := by decide +kernel
theorem dX12_sways_41 : decode cX12_sways 41 = .ok (.aload_n 0, 1) := by decide +kernel
theorem dX12_sways_42 : decode cX12_sways 42 = .ok (.getfield 312, 3) := by decide +kernel
theorem dX12_sways_45 : decode cX12_sways 45 = .ok (.if_icmp .ge 48, 3) := by decide +kernel
theorem dX12_sways_48 : decode cX12_sways 48 = .ok (.aload_n 0, 1) := by decide +kernel
theorem dX12_sways_49 : decode cX12_sways 49 = .ok (.aload_n 0, 1) := by decide +kernel
theorem dX12_sways_50 : decode cX12_sways 50 = .ok (.getfield 61, 3) := by decide +kernel
theorem dX12_sways_53 : decode cX12_sways 53 = .ok (.iload_n 1, 1) := by decide +kernel
theorem dX12_sways_54 : decode cX12_sways 54 = .ok (.iload 5, 2) := by decide +kernel
theorem dX12_sways_56 : decode cX12_sways 56 = .ok (.invokevirtual 380, 3) := by decide +kernel
theorem dX12_sways_59 : decode cX12_sways 59 = .ok (.istore 6, 2) := by decide +kernel
theorem dX12_sways_61 : decode cX12_sways 61 = .ok (.iload 6, 2) := by decide +kernel
theorem dX12_sways_63 : decode cX12_sways 63 = .ok (.iload_n 3, 1) := by decide +kernel
theorem dX12_sways_64 : decode cX12_sways 64 = .ok (.if_icmp .le 12, 3) := by decide +kernel
theorem dX12_sways_67 : decode cX12_sways 67 = .ok (.iload_n 3, 1) := by decide +kernel
theorem dX12_sways_68 : decode cX12_sways 68 = .ok (.istore 4, 2) := by decide +kernel
theorem dX12_sways_70 : decode cX12_sways 70 = .ok (.iload 6, 2) := by decide +kernel
theorem dX12_sways_72 : decode cX12_sways 72 = .ok (.istore_n 3, 1) := by decide +kernel
theorem dX12_sways_73 : decode cX12_sways 73 = .ok (.goto 14, 3) := by decide +kernel
theorem dX12_sways_76 : decode cX12_sways 76 = .ok (.iload 6, 2) := by decide +kernel
theorem dX12_sways_78 : decode cX12_sways 78 = .ok (.iload 4, 2) := by decide +kernel
theorem dX12_sways_80 : decode cX12_sways 80 = .ok (.if_icmp .le 7, 3) := by decide +kernel
theorem dX12_sways_83 : decode cX12_sways 83 = .ok (.iload 6, 2) := by decide +kernel
theorem dX12_sways_85 : decode cX12_sways 85 = .ok (.istore 4, 2) := by decide +kernel
theorem dX12_sways_87 : decode cX12_sways 87 = .ok (.iinc 5 1, 3) := by decide +kernel
theorem dX12_sways_90 : decode cX12_sways 90 = .ok (.goto (-51), 3) := by decide +kernel
theorem dX12_sways_93 : decode cX12_sways 93 = .ok (.iload_n 2, 1) := by decide +kernel
theorem dX12_sways_94 : decode cX12_sways 94 = .ok (.ifCond .ne 14, 3) := by decide +kernel
theorem dX12_sways_97 : decode cX12_sways 97 = .ok (.aload_n 0, 1) := by decide +kernel
theorem dX12_sways_98 : decode cX12_sways 98 = .ok (.iload_n 1, 1) := by decide +kernel
theorem dX12_sways_99 : decode cX12_sways 99 = .ok (.iconst 2, 1) := by decide +kernel
theorem dX12_sways_100 : decode cX12_sways 100 = .ok (.invokevirtual 318, 3) := by decide +kernel
theorem dX12_sways_103 : decode cX12_sways 103 = .ok (.iload_n 3, 1) := by decide +kernel
theorem dX12_sways_104 : decode cX12_sways 104 = .ok (.isub, 1) := by decide +kernel
theorem dX12_sways_105 : decode cX12_sways 105 = .ok (.goto 7, 3) := by decide +kernel
theorem dX12_sways_108 : decode cX12_sways 108 = .ok (.iload_n 3, 1) := by decide +kernel
theorem dX12_sways_109 : decode cX12_sways 109 = .ok (.iload 4, 2) := by decide +kernel
theorem dX12_sways_111 : decode cX12_sways 111 = .ok (.isub, 1) := by decide +kernel
theorem dX12_sways_112 : decode cX12_sways 112 = .ok (.ireturn, 1) := by decide +kernel
theorem dX12_nearest_0 : decode cX12_nearest 0 = .ok (.aload_n 0, 1) := by decide +kernel
theorem dX12_nearest_1 : decode cX12_nearest 1 = .ok (.iconst 0, 1) := by decide +kernel
theorem dX12_nearest_2 : decode cX12_nearest 2 = .ok (.putfield 111, 3) := by decide +kernel
theorem dX12_nearest_5 : decode cX12_nearest 5 = .ok (.aload_n 0, 1) := by decide +kernel
theorem dX12_nearest_6 : decode cX12_nearest 6 = .ok (.iload_n 1, 1) := by decide +kernel
theorem dX12_nearest_7 : decode cX12_nearest 7 = .ok (.invokevirtual 412, 3) := by decide +kernel
theorem dX12_nearest_10 : decode cX12_nearest 10 = .ok (.ifCond .ne 5, 3) := by decide +kernel
theorem dX12_nearest_13 : decode cX12_nearest 13 = .ok (.iconst (-1), 1) := by decide +kernel
theorem dX12_nearest_14 : decode cX12_nearest 14 = .ok (.ireturn, 1) := by decide +kernel
theorem dX12_nearest_15 : decode cX12_nearest 15 = .ok (.iconst 0, 1) := by decide +kernel
theorem dX12_nearest_16 : decode cX12_nearest 16 = .ok (.istore_n 2, 1) := by decide +kernel
theorem dX12_nearest_17 : decode cX12_nearest 17 = .ok (.iconst 1, 1) := by decide +kernel
theorem dX12_nearest_18 : decode cX12_nearest 18 = .ok (.istore_n 3, 1) := by decide +kernel
theorem dX12_nearest_19 : decode cX12_nearest 19 = .ok (.iload_n 3, 1) := by decide +kernel
theorem dX12_nearest_20 : decode cX12_nearest 20 = .ok (.aload_n 0, 1) := by decide +kernel
theorem dX12_nearest_21 : decode cX12_nearest 21 = .ok (.getfield 309, 3) := by decide +kernel
theorem dX12_nearest_24 : decode cX12_nearest 24 = .ok (.if_icmp .ge 38, 3) := by decide +kernel
theorem dX12_nearest_27 : decode cX12_nearest 27 = .ok (.aload_n 0, 1) := by decide +kernel
theorem dX12_nearest_28 : decode cX12_nearest 28 = .ok (.aload_n 0, 1) := by decide +kernel
theorem dX12_nearest_29 : decode cX12_nearest 29 = .ok (.getfield 61, 3) := by decide +kernel
theorem dX12_nearest_32 : decode cX12_nearest 32 = .ok (.iload_n 1, 1) := by decide +kernel
theorem dX12_nearest_33 : decode cX12_nearest 33 = .ok (.iload_n 3, 1) := by decide +kernel
theorem dX12_nearest_34 : decode cX12_nearest 34 = .ok (.invokevirtual 370, 3) := by decide +kernel
theorem dX12_nearest_37 : decode cX12_nearest 37 = .ok (.aload_n 0, 1) := by decide +kernel
theorem dX12_nearest_38 : decode cX12_nearest 38 = .ok (.aload_n 0, 1) := by decide +kernel
theorem dX12_nearest_39 : decode cX12_nearest 39 = .ok (.getfield 61, 3) := by decide +kernel
theorem dX12_nearest_42 : decode cX12_nearest 42 = .ok (.iload_n 1, 1) := by decide +kernel
theorem dX12_nearest_43 : decode cX12_nearest 43 = .ok (.iload_n 2, 1) := by decide +kernel
theorem dX12_nearest_44 : decode cX12_nearest 44 = .ok (.invokevirtual 370, 3) := by decide +kernel
theorem dX12_nearest_47 : decode cX12_nearest 47 = .ok (.if_icmp .ge 7, 3) := by decide +kernel
theorem dX12_nearest_50 : decode cX12_nearest 50 = .ok (.iload_n 3, 1) := by decide +kernel
theorem dX12_nearest_51 : decode cX12_nearest 51 = .ok (.goto 4, 3) := by decide +kernel
theorem dX12_nearest_54 : decode cX12_nearest 54 = .ok (.iload_n 2, 1) := by decide +kernel
theorem dX12_nearest_55 : decode cX12_nearest 55 = .ok (.istore_n 2, 1) := by decide +kernel
theorem dX12_nearest_56 : decode cX12_nearest 56 = .ok (.iinc 3 1, 3) := by decide +kernel
theorem dX12_nearest_59 : decode cX12_nearest 59 = .ok (.goto (-40), 3) := by decide +kernel
theorem dX12_nearest_62 : decode cX12_nearest 62 = .ok (.iload_n 2, 1) := by decide +kernel
theorem dX12_nearest_63 : decode cX12_nearest 63 = .ok (.ireturn, 1) := by decide +kernel
theorem dX12_fogOf_0 : decode cX12_fogOf 0 = .ok (.iload_n 2, 1) := by decide +kernel
theorem dX12_fogOf_1 : decode cX12_fogOf 1 = .ok (.aload_n 0, 1) := by decide +kernel
theorem dX12_fogOf_2 : decode cX12_fogOf 2 = .ok (.getfield 309, 3) := by decide +kernel
theorem dX12_fogOf_5 : decode cX12_fogOf 5 = .ok (.if_icmp .ne 48, 3) := by decide +kernel
theorem dX12_fogOf_8 : decode cX12_fogOf 8 = .ok (.iconst 0, 1) := by decide +kernel
theorem dX12_fogOf_9 : decode cX12_fogOf 9 = .ok (.istore 6, 2) := by decide +kernel
theorem dX12_fogOf_11 : decode cX12_fogOf 11 = .ok (.iload 6, 2) := by decide +kernel
theorem dX12_fogOf_13 : decode cX12_fogOf 13 = .ok (.aload_n 0, 1) := by decide +kernel
theorem dX12_fogOf_14 : decode cX12_fogOf 14 = .ok (.getfield 312, 3) := by decide +kernel
theorem dX12_fogOf_17 : decode cX12_fogOf 17 = .ok (.if_icmp .ge 33, 3) := by decide +kernel
theorem dX12_fogOf_20 : decode cX12_fogOf 20 = .ok (.iload 6, 2) := by decide +kernel
theorem dX12_fogOf_22 : decode cX12_fogOf 22 = .ok (.iload_n 1, 1) := by decide +kernel
theorem dX12_fogOf_23 : decode cX12_fogOf 23 = .ok (.if_icmp .eq 21, 3) := by decide +kernel
theorem dX12_fogOf_26 : decode cX12_fogOf 26 = .ok (.aload_n 0, 1) := by decide +kernel
theorem dX12_fogOf_27 : decode cX12_fogOf 27 = .ok (.getfield 81, 3) := by decide +kernel
theorem dX12_fogOf_30 : decode cX12_fogOf 30 = .ok (.iload 6, 2) := by decide +kernel
theorem dX12_fogOf_32 : decode cX12_fogOf 32 = .ok (.iaload, 1) := by decide +kernel
theorem dX12_fogOf_33 : decode cX12_fogOf 33 = .ok (.aload_n 0, 1) := by decide +kernel
theorem dX12_fogOf_34 : decode cX12_fogOf 34 = .ok (.getfield 81, 3) := by decide +kernel
theorem dX12_fogOf_37 : decode cX12_fogOf 37 = .ok (.iload_n 1, 1) := by decide +kernel
theorem dX12_fogOf_38 : decode cX12_fogOf 38 = .ok (.iaload, 1) := by decide +kernel
theorem dX12_fogOf_39 : decode cX12_fogOf 39 = .ok (.if_icmp .lt 5, 3) := by decide +kernel
theorem dX12_fogOf_42 : decode cX12_fogOf 42 = .ok (.lconst 0, 1) := by decide +kernel
theorem dX12_fogOf_43 : decode cX12_fogOf 43 = .ok (.lreturn, 1) := by decide +kernel
theorem dX12_fogOf_44 : decode cX12_fogOf 44 = .ok (.iinc 6 1, 3) := by decide +kernel
theorem dX12_fogOf_47 : decode cX12_fogOf 47 = .ok (.goto (-36), 3) := by decide +kernel
theorem dX12_fogOf_50 : decode cX12_fogOf 50 = .ok (.lload 4, 2) := by decide +kernel
theorem dX12_fogOf_52 : decode cX12_fogOf 52 = .ok (.lreturn, 1) := by decide +kernel
theorem dX12_fogOf_53 : decode cX12_fogOf 53 = .ok (.aload_n 0, 1) := by decide +kernel
theorem dX12_fogOf_54 : decode cX12_fogOf 54 = .ok (.getfield 84, 3) := by decide +kernel
theorem dX12_fogOf_57 : decode cX12_fogOf 57 = .ok (.iload_n 2, 1) := by decide +kernel
theorem dX12_fogOf_58 : decode cX12_fogOf 58 = .ok (.iaload, 1) := by decide +kernel
theorem dX12_fogOf_59 : decode cX12_fogOf 59 = .ok (.iconst (-1), 1) := by decide +kernel
theorem dX12_fogOf_60 : decode cX12_fogOf 60 = .ok (.if_icmp .ne 15, 3) := by decide +kernel
theorem dX12_fogOf_63 : decode cX12_fogOf 63 = .ok (.aload_n 0, 1) := by decide +kernel
theorem dX12_fogOf_64 : decode cX12_fogOf 64 = .ok (.iload_n 1, 1) := by decide +kernel
theorem dX12_fogOf_65 : decode cX12_fogOf 65 = .ok (.iload_n 2, 1) := by decide +kernel
theorem dX12_fogOf_66 : decode cX12_fogOf 66 = .ok (.iconst 1, 1) := by decide +kernel
theorem dX12_fogOf_67 : decode cX12_fogOf 67 = .ok (.iadd, 1) := by decide +kernel
theorem dX12_fogOf_68 : decode cX12_fogOf 68 = .ok (.iload_n 3, 1) := by decide +kernel
theorem dX12_fogOf_69 : decode cX12_fogOf 69 = .ok (.lload 4, 2) := by decide +kernel
theorem dX12_fogOf_71 : decode cX12_fogOf 71 = .ok (.invokevirtual 541, 3) := by decide +kernel
theorem dX12_fogOf_74 : decode cX12_fogOf 74 = .ok (.lreturn, 1) := by decide +kernel
theorem dX12_fogOf_75 : decode cX12_fogOf 75 = .ok (.lload 4, 2) := by decide +kernel
theorem dX12_fogOf_77 : decode cX12_fogOf 77 = .ok (.iload_n 3, 1) := by decide +kernel
theorem dX12_fogOf_78 : decode cX12_fogOf 78 = .ok (.i2l, 1) := by decide +kernel
theorem dX12_fogOf_79 : decode cX12_fogOf 79 = .ok (.lmul, 1) := by decide +kernel
theorem dX12_fogOf_80 : decode cX12_fogOf 80 = .ok (.ldc2_w 545, 3) := by decide +kernel
theorem dX12_fogOf_83 : decode cX12_fogOf 83 = .ok (.ldiv, 1) := by decide +kernel
theorem dX12_fogOf_84 : decode cX12_fogOf 84 = .ok (.lstore 6, 2) := by decide +kernel
theorem dX12_fogOf_86 : decode cX12_fogOf 86 = .ok (.aload_n 0, 1) := by decide +kernel
theorem dX12_fogOf_87 : decode cX12_fogOf 87 = .ok (.iload_n 1, 1) := by decide +kernel
theorem dX12_fogOf_88 : decode cX12_fogOf 88 = .ok (.iload_n 2, 1) := by decide +kernel
theorem dX12_fogOf_89 : decode cX12_fogOf 89 = .ok (.iconst 1, 1) := by decide +kernel
theorem dX12_fogOf_90 : decode cX12_fogOf 90 = .ok (.iadd, 1) := by decide +kernel
theorem dX12_fogOf_91 : decode cX12_fogOf 91 = .ok (.iload_n 3, 1) := by decide +kernel
theorem dX12_fogOf_92 : decode cX12_fogOf 92 = .ok (.lload 6, 2) := by decide +kernel
theorem dX12_fogOf_94 : decode cX12_fogOf 94 = .ok (.invokevirtual 541, 3) := by decide +kernel
theorem dX12_fogOf_97 : decode cX12_fogOf 97 = .ok (.lstore 8, 2) := by decide +kernel
theorem dX12_fogOf_99 : decode cX12_fogOf 99 = .ok (.aload_n 0, 1) := by decide +kernel
theorem dX12_fogOf_100 : decode cX12_fogOf 100 = .ok (.getfield 81, 3) := by decide +kernel
theorem dX12_fogOf_103 : decode cX12_fogOf 103 = .ok (.aload_n 0, 1) := by decide +kernel
theorem dX12_fogOf_104 : decode cX12_fogOf 104 = .ok (.getfield 84, 3) := by decide +kernel
theorem dX12_fogOf_107 : decode cX12_fogOf 107 = .ok (.iload_n 2, 1) := by decide +kernel
theorem dX12_fogOf_108 : decode cX12_fogOf 108 = .ok (.iaload, 1) := by decide +kernel
theorem dX12_fogOf_109 : decode cX12_fogOf 109 = .ok (.dup2, 1) := by decide +kernel
theorem dX12_fogOf_110 : decode cX12_fogOf 110 = .ok (.iaload, 1) := by decide +kernel
theorem dX12_fogOf_111 : decode cX12_fogOf 111 = .ok (.iconst 1, 1) := by decide +kernel
theorem dX12_fogOf_112 : decode cX12_fogOf 112 = .ok (.iadd, 1) := by decide +kernel
theorem dX12_fogOf_113 : decode cX12_fogOf 113 = .ok (.iastore, 1) := by decide +kernel
theorem dX12_fogOf_114 : decode cX12_fogOf 114 = .ok (.lload 8, 2) := by decide +kernel
theorem dX12_fogOf_116 : decode cX12_fogOf 116 = .ok (.aload_n 0, 1) := by decide +kernel
theorem dX12_fogOf_117 : decode cX12_fogOf 117 = .ok (.iload_n 1, 1) := by decide +kernel
theorem dX12_fogOf_118 : decode cX12_fogOf 118 = .ok (.iload_n 2, 1) := by decide +kernel
theorem dX12_fogOf_119 : decode cX12_fogOf 119 = .ok (.iconst 1, 1) := by decide +kernel
theorem dX12_fogOf_120 : decode cX12_fogOf 120 = .ok (.iadd, 1) := by decide +kernel
theorem dX12_fogOf_121 : decode cX12_fogOf 121 = .ok (.iload_n 3, 1) := by decide +kernel
theorem dX12_fogOf_122 : decode cX12_fogOf 122 = .ok (.lload 4, 2) := by decide +kernel
theorem dX12_fogOf_124 : decode cX12_fogOf 124 = .ok (.lload 6, 2) := by decide +kernel
theorem dX12_fogOf_126 : decode cX12_fogOf 126 = .ok (.lsub, 1) := by decide +kernel
theorem dX12_fogOf_127 : decode cX12_fogOf 127 = .ok (.invokevirtual 541, 3) := by decide +kernel
theorem dX12_fogOf_130 : decode cX12_fogOf 130 = .ok (.ladd, 1) := by decide +kernel
theorem dX12_fogOf_131 : decode cX12_fogOf 131 = .ok (.lstore 8, 2) := by decide +kernel
theorem dX12_fogOf_133 : decode cX12_fogOf 133 = .ok (.aload_n 0, 1) := by decide +kernel
theorem dX12_fogOf_134 : decode cX12_fogOf 134 = .ok (.getfield 81, 3) := by decide +kernel
theorem dX12_fogOf_137 : decode cX12_fogOf 137 = .ok (.aload_n 0, 1) := by decide +kernel
theorem dX12_fogOf_138 : decode cX12_fogOf 138 = .ok (.getfield 84, 3) := by decide +kernel
theorem dX12_fogOf_141 : decode cX12_fogOf 141 = .ok (.iload_n 2, 1) := by decide +kernel
theorem dX12_fogOf_142 : decode cX12_fogOf 142 = .ok (.iaload, 1) := by decide +kernel
theorem dX12_fogOf_143 : decode cX12_fogOf 143 = .ok (.dup2, 1) := by decide +kernel
theorem dX12_fogOf_144 : decode cX12_fogOf 144 = .ok (.iaload, 1) := by decide +kernel
theorem dX12_fogOf_145 : decode cX12_fogOf 145 = .ok (.iconst 1, 1) := by decide +kernel
theorem dX12_fogOf_146 : decode cX12_fogOf 146 = .ok (.isub, 1) := by decide +kernel
theorem dX12_fogOf_147 : decode cX12_fogOf 147 = .ok (.iastore, 1) := by decide +kernel
theorem dX12_fogOf_148 : decode cX12_fogOf 148 = .ok (.lload 8, 2) := by decide +kernel
theorem dX12_fogOf_150 : decode cX12_fogOf 150 = .ok (.lreturn, 1) := by decide +kernel
theorem dX12_fog_0 : decode cX12_fog 0 = .ok (.aload_n 0, 1) := by decide +kernel
theorem dX12_fog_1 : decode cX12_fog 1 = .ok (.iconst 0, 1) := by decide +kernel
theorem dX12_fog_2 : decode cX12_fog 2 = .ok (.putfield 111, 3) := by decide +kernel
theorem dX12_fog_5 : decode cX12_fog 5 = .ok (.aload_n 0, 1) := by decide +kernel
theorem dX12_fog_6 : decode cX12_fog 6 = .ok (.iload_n 1, 1) := by decide +kernel
theorem dX12_fog_7 : decode cX12_fog 7 = .ok (.invokevirtual 412, 3) := by decide +kernel
theorem dX12_fog_10 : decode cX12_fog 10 = .ok (.ifCond .eq 15, 3) := by decide +kernel
theorem dX12_fog_13 : decode cX12_fog 13 = .ok (.iload_n 2, 1) := by decide +kernel
theorem dX12_fog_14 : decode cX12_fog 14 = .ok (.i2l, 1) := by decide +kernel
theorem dX12_fog_15 : decode cX12_fog 15 = .ok (.lconst 0, 1) := by decide +kernel
theorem dX12_fog_16 : decode cX12_fog 16 = .ok (.ldc2_w 545, 3) := by decide +kernel
theorem dX12_fog_19 : decode cX12_fog 19 = .ok (.invokestatic 232, 3) := by decide +kernel
theorem dX12_fog_22 : decode cX12_fog 22 = .ok (.ifCond .ne 5, 3) := by decide +kernel
theorem dX12_fog_25 : decode cX12_fog 25 = .ok (.iconst (-1), 1) := by decide +kernel
theorem dX12_fog_26 : decode cX12_fog 26 = .ok (.ireturn, 1) := by decide +kernel
theorem dX12_fog_27 : decode cX12_fog 27 = .ok (.iconst 0, 1) := by decide +kernel
theorem dX12_fog_28 : decode cX12_fog 28 = .ok (.istore_n 3, 1) := by decide +kernel
theorem dX12_fog_29 : decode cX12_fog 29 = .ok (.iload_n 3, 1) := by decide +kernel
theorem dX12_fog_30 : decode cX12_fog 30 = .ok (.aload_n 0, 1) := by decide +kernel
theorem dX12_fog_31 : decode cX12_fog 31 = .ok (.getfield 309, 3) := by decide +kernel
theorem dX12_fog_34 : decode cX12_fog 34 = .ok (.if_icmp .ge 24, 3) := by decide +kernel
theorem dX12_fog_37 : decode cX12_fog 37 = .ok (.aload_n 0, 1) := by decide +kernel
theorem dX12_fog_38 : decode cX12_fog 38 = .ok (.getfield 84, 3) := by decide +kernel
theorem dX12_fog_41 : decode cX12_fog 41 = .ok (.iload_n 3, 1) := by decide +kernel
theorem dX12_fog_42 : decode cX12_fog 42 = .ok (.aload_n 0, 1) := by decide +kernel
theorem dX12_fog_43 : decode cX12_fog 43 = .ok (.aload_n 0, 1) := by decide +kernel
theorem dX12_fog_44 : decode cX12_fog 44 = .ok (.getfield 61, 3) := by decide +kernel
theorem dX12_fog_47 : decode cX12_fog 47 = .ok (.iload_n 3, 1) := by decide +kernel
theorem dX12_fog_48 : decode cX12_fog 48 = .ok (.invokevirtual 386, 3) := by decide +kernel
theorem dX12_fog_51 : decode cX12_fog 51 = .ok (.iastore, 1) := by decide +kernel
theorem dX12_fog_52 : decode cX12_fog 52 = .ok (.iinc 3 1, 3) := by decide +kernel
theorem dX12_fog_55 : decode cX12_fog 55 = .ok (.goto (-26), 3) := by decide +kernel
theorem dX12_fog_58 : decode cX12_fog 58 = .ok (.iconst 0, 1) := by decide +kernel
theorem dX12_fog_59 : decode cX12_fog 59 = .ok (.istore_n 3, 1) := by decide +kernel
theorem dX12_fog_60 : decode cX12_fog 60 = .ok (.iload_n 3, 1) := by decide +kernel
theorem dX12_fog_61 : decode cX12_fog 61 = .ok (.iconst 3, 1) := by decide +kernel
theorem dX12_fog_62 : decode cX12_fog 62 = .ok (.if_icmp .ge 16, 3) := by decide +kernel
theorem dX12_fog_65 : decode cX12_fog 65 = .ok (.aload_n 0, 1) := by decide +kernel
theorem dX12_fog_66 : decode cX12_fog 66 = .ok (.getfield 81, 3) := by decide +kernel
theorem dX12_fog_69 : decode cX12_fog 69 = .ok (.iload_n 3, 1) := by decide +kernel
theorem dX12_fog_70 : decode cX12_fog 70 = .ok (.iconst 0, 1) := by decide +kernel
theorem dX12_fog_71 : decode cX12_fog 71 = .ok (.iastore, 1) := by decide +kernel
theorem dX12_fog_72 : decode cX12_fog 72 = .ok (.iinc 3 1, 3) := by decide +kernel
theorem dX12_fog_75 : decode cX12_fog 75 = .ok (.goto (-15), 3) := by decide +kernel
theorem dX12_fog_78 : decode cX12_fog 78 = .ok (.aload_n 0, 1) := by decide +kernel
theorem dX12_fog_79 : decode cX12_fog 79 = .ok (.iload_n 1, 1) := by decide +kernel
theorem dX12_fog_80 : decode cX12_fog 80 = .ok (.iconst 0, 1) := by decide +kernel
theorem dX12_fog_81 : decode cX12_fog 81 = .ok (.iload_n 2, 1) := by decide +kernel
theorem dX12_fog_82 : decode cX12_fog 82 = .ok (.ldc2_w 547, 3) := by decide +kernel
theorem dX12_fog_85 : decode cX12_fog 85 = .ok (.invokevirtual 541, 3) := by decide +kernel
theorem dX12_fog_88 : decode cX12_fog 88 = .ok (.l2i, 1) := by decide +kernel
theorem dX12_fog_89 : decode cX12_fog 89 = .ok (.ireturn, 1) := by decide +kernel
theorem dX12_needs_0 : decode cX12_needs 0 = .ok (.aload_n 0, 1) := by decide +kernel
theorem dX12_needs_1 : decode cX12_needs 1 = .ok (.iconst 0, 1) := by decide +kernel
theorem dX12_needs_2 : decode cX12_needs 2 = .ok (.putfield 111, 3) := by decide +kernel
theorem dX12_needs_5 : decode cX12_needs 5 = .ok (.aload_n 0, 1) := by decide +kernel
theorem dX12_needs_6 : decode cX12_needs 6 = .ok (.iload_n 1, 1) := by decide +kernel
theorem dX12_needs_7 : decode cX12_needs 7 = .ok (.invokevirtual 412, 3) := by decide +kernel
theorem dX12_needs_10 : decode cX12_needs 10 = .ok (.ifCond .eq 11, 3) := by decide +kernel
theorem dX12_needs_13 : decode cX12_needs 13 = .ok (.aload_n 0, 1) := by decide +kernel
theorem dX12_needs_14 : decode cX12_needs 14 = .ok (.iload_n 2, 1) := by decide +kernel
theorem dX12_needs_15 : decode cX12_needs 15 = .ok (.invokevirtual 407, 3) := by decide +kernel
theorem dX12_needs_18 : decode cX12_needs 18 = .ok (.ifCond .ne 5, 3) := by decide +kernel
theorem dX12_needs_21 : decode cX12_needs 21 = .ok (.iconst (-1), 1) := by decide +kernel
theorem dX12_needs_22 : decode cX12_needs 22 = .ok (.ireturn, 1) := by decide +kernel
theorem dX12_needs_23 : decode cX12_needs 23 = .ok (.aload_n 0, 1) := by decide +kernel
theorem dX12_needs_24 : decode cX12_needs 24 = .ok (.getfield 61, 3) := by decide +kernel
theorem dX12_needs_27 : decode cX12_needs 27 = .ok (.aload_n 0, 1) := by decide +kernel
theorem dX12_needs_28 : decode cX12_needs 28 = .ok (.getfield 64, 3) := by decide +kernel
theorem dX12_needs_31 : decode cX12_needs 31 = .ok (.invokestatic 468, 3) := by decide +kernel
theorem dX12_needs_34 : decode cX12_needs 34 = .ok (.iconst 0, 1) := by decide +kernel
theorem dX12_needs_35 : decode cX12_needs 35 = .ok (.istore_n 3, 1) := by decide +kernel
theorem dX12_needs_36 : decode cX12_needs 36 = .ok (.iload_n 3, 1) := by decide +kernel
theorem dX12_needs_37 : decode cX12_needs 37 = .ok (.bipush 9, 2) := by decide +kernel
theorem dX12_needs_39 : decode cX12_needs 39 = .ok (.if_icmp .gt 35, 3) := by decide +kernel
theorem dX12_needs_42 : decode cX12_needs 42 = .ok (.aload_n 0, 1) := by decide +kernel
theorem dX12_needs_43 : decode cX12_needs 43 = .ok (.getfield 64, 3) := by decide +kernel
theorem dX12_needs_46 : decode cX12_needs 46 = .ok (.iconst 5, 1) := by decide +kernel
theorem dX12_needs_47 : decode cX12_needs 47 = .ok (.iload_n 2, 1) := by decide +kernel
theorem dX12_needs_48 : decode cX12_needs 48 = .ok (.imul, 1) := by decide +kernel
theorem dX12_needs_49 : decode cX12_needs 49 = .ok (.iload_n 1, 1) := by decide +kernel
theorem dX12_needs_50 : decode cX12_needs 50 = .ok (.iadd, 1) := by decide +kernel
theorem dX12_needs_51 : decode cX12_needs 51 = .ok (.iload_n 3, 1) := by decide +kernel
theorem dX12_needs_52 : decode cX12_needs 52 = .ok (.iastore, 1) := by decide +kernel
theorem dX12_needs_53 : decode cX12_needs 53 = .ok (.aload_n 0, 1) := by decide +kernel
theorem dX12_needs_54 : decode cX12_needs 54 = .ok (.aload_n 0, 1) := by decide +kernel
theorem dX12_needs_55 : decode cX12_needs 55 = .ok (.getfield 64, 3) := by decide +kernel
theorem dX12_needs_58 : decode cX12_needs 58 = .ok (.iload_n 2, 1) := by decide +kernel
theorem dX12_needs_59 : decode cX12_needs 59 = .ok (.invokevirtual 386, 3) := by decide +kernel
theorem dX12_needs_62 : decode cX12_needs 62 = .ok (.iload_n 1, 1) := by decide +kernel
theorem dX12_needs_63 : decode cX12_needs 63 = .ok (.if_icmp .ne 5, 3) := by decide +kernel
theorem dX12_needs_66 : decode cX12_needs 66 = .ok (.iload_n 3, 1) := by decide +kernel
theorem dX12_needs_67 : decode cX12_needs 67 = .ok (.ireturn, 1) := by decide +kernel
theorem dX12_needs_68 : decode cX12_needs 68 = .ok (.iinc 3 1, 3) := by decide +kernel
theorem dX12_needs_71 : decode cX12_needs 71 = .ok (.goto (-35), 3) := by decide +kernel
theorem dX12_needs_74 : decode cX12_needs 74 = .ok (.iconst (-1), 1) := by decide +kernel
theorem dX12_needs_75 : decode cX12_needs 75 = .ok (.ireturn, 1) := by decide +kernel
theorem dX12_heard_0 : decode cX12_heard 0 = .ok (.aload_n 0, 1) := by decide +kernel
theorem dX12_heard_1 : decode cX12_heard 1 = .ok (.iconst 0, 1) := by decide +kernel
theorem dX12_heard_2 : decode cX12_heard 2 = .ok (.putfield 111, 3) := by decide +kernel
theorem dX12_heard_5 : decode cX12_heard 5 = .ok (.aload_n 0, 1) := by decide +kernel
theorem dX12_heard_6 : decode cX12_heard 6 = .ok (.iload_n 1, 1) := by decide +kernel
theorem dX12_heard_7 : decode cX12_heard 7 = .ok (.invokevirtual 412, 3) := by decide +kernel
theorem dX12_heard_10 : decode cX12_heard 10 = .ok (.ifCond .ne 5, 3) := by decide +kernel
theorem dX12_heard_13 : decode cX12_heard 13 = .ok (.iconst (-1), 1) := by decide +kernel
theorem dX12_heard_14 : decode cX12_heard 14 = .ok (.ireturn, 1) := by decide +kernel
theorem dX12_heard_15 : decode cX12_heard 15 = .ok (.iconst 0, 1) := by decide +kernel
theorem dX12_heard_16 : decode cX12_heard 16 = .ok (.istore_n 2, 1) := by decide +kernel
theorem dX12_heard_17 : decode cX12_heard 17 = .ok (.iconst 0, 1) := by decide +kernel
theorem dX12_heard_18 : decode cX12_heard 18 = .ok (.istore_n 3, 1) := by decide +kernel
theorem dX12_heard_19 : decode cX12_heard 19 = .ok (.iload_n 3, 1) := by decide +kernel
theorem dX12_heard_20 : decode cX12_heard 20 = .ok (.aload_n 0, 1) := by decide +kernel
theorem dX12_heard_21 : decode cX12_heard 21 = .ok (.getfield 309, 3) := by decide +kernel
theorem dX12_heard_24 : decode cX12_heard 24 = .ok (.if_icmp .ge 33, 3) := by decide +kernel
theorem dX12_heard_27 : decode cX12_heard 27 = .ok (.iload_n 2, 1) := by decide +kernel
theorem dX12_heard_28 : decode cX12_heard 28 = .ok (.aload_n 0, 1) := by decide +kernel
theorem dX12_heard_29 : decode cX12_heard 29 = .ok (.aload_n 0, 1) := by decide +kernel
theorem dX12_heard_30 : decode cX12_heard 30 = .ok (.getfield 61, 3) := by decide +kernel
theorem dX12_heard_33 : decode cX12_heard 33 = .ok (.iload_n 1, 1) := by decide +kernel
theorem dX12_heard_34 : decode cX12_heard 34 = .ok (.iload_n 3, 1) := by decide +kernel
theorem dX12_heard_35 : decode cX12_heard 35 = .ok (.invokevirtual 370, 3) := by decide +kernel
theorem dX12_heard_38 : decode cX12_heard 38 = .ok (.iconst 1, 1) := by decide +kernel
theorem dX12_heard_39 : decode cX12_heard 39 = .ok (.if_icmp .gt 9, 3) := by decide +kernel
theorem dX12_heard_42 : decode cX12_heard 42 = .ok (.iconst 1, 1) := by decide +kernel
theorem dX12_heard_43 : decode cX12_heard 43 = .ok (.iload_n 3, 1) := by decide +kernel
theorem dX12_heard_44 : decode cX12_heard 44 = .ok (.ishl, 1) := by decide +kernel
theorem dX12_heard_45 : decode cX12_heard 45 = .ok (.goto 4, 3) := by decide +kernel
theorem dX12_heard_48 : decode cX12_heard 48 = .ok (.iconst 0, 1) := by decide +kernel
theorem dX12_heard_49 : decode cX12_heard 49 = .ok (.ior, 1) := by decide +kernel
theorem dX12_heard_50 : decode cX12_heard 50 = .ok (.istore_n 2, 1) := by decide +kernel
theorem dX12_heard_51 : decode cX12_heard 51 = .ok (.iinc 3 1, 3) := by decide +kernel
theorem dX12_heard_54 : decode cX12_heard 54 = .ok (.goto (-35), 3) := by decide +kernel
theorem dX12_heard_57 : decode cX12_heard 57 = .ok (.iload_n 2, 1) := by decide +kernel
theorem dX12_heard_58 : decode cX12_heard 58 = .ok (.ireturn, 1) := by decide +kernel
theorem dX12_middle_0 : decode cX12_middle 0 = .ok (.aload_n 0, 1) := by decide +kernel
theorem dX12_middle_1 : decode cX12_middle 1 = .ok (.iconst 0, 1) := by decide +kernel
theorem dX12_middle_2 : decode cX12_middle 2 = .ok (.putfield 111, 3) := by decide +kernel
theorem dX12_middle_5 : decode cX12_middle 5 = .ok (.aload_n 0, 1) := by decide +kernel
theorem dX12_middle_6 : decode cX12_middle 6 = .ok (.getfield 309, 3) := by decide +kernel
theorem dX12_middle_9 : decode cX12_middle 9 = .ok (.ifCond .ne 5, 3) := by decide +kernel
theorem dX12_middle_12 : decode cX12_middle 12 = .ok (.iconst (-1), 1) := by decide +kernel
theorem dX12_middle_13 : decode cX12_middle 13 = .ok (.ireturn, 1) := by decide +kernel
theorem dX12_middle_14 : decode cX12_middle 14 = .ok (.iconst (-1), 1) := by decide +kernel
theorem dX12_middle_15 : decode cX12_middle 15 = .ok (.istore_n 1, 1) := by decide +kernel
theorem dX12_middle_16 : decode cX12_middle 16 = .ok (.iconst 0, 1) := by decide +kernel
theorem dX12_middle_17 : decode cX12_middle 17 = .ok (.istore_n 2, 1) := by decide +kernel
theorem dX12_middle_18 : decode cX12_middle 18 = .ok (.iconst 0, 1) := by decide +kernel
theorem dX12_middle_19 : decode cX12_middle 19 = .ok (.istore_n 3, 1) := by decide +kernel
theorem dX12_middle_20 : decode cX12_middle 20 = .ok (.iload_n 3, 1) := by decide +kernel
theorem dX12_middle_21 : decode cX12_middle 21 = .ok (.bipush 100, 2) := by decide +kernel
theorem dX12_middle_23 : decode cX12_middle 23 = .ok (.if_icmp .ge 85, 3) := by decide +kernel
theorem dX12_middle_26 : decode cX12_middle 26 = .ok (.iconst 0, 1) := by decide +kernel
theorem dX12_middle_27 : decode cX12_middle 27 = .ok (.istore 4, 2) := by decide +kernel
theorem dX12_middle_29 : decode cX12_middle 29 = .ok (.iconst 0, 1) := by decide +kernel
theorem dX12_middle_30 : decode cX12_middle 30 = .ok (.istore 5, 2) := by decide +kernel
theorem dX12_middle_32 : decode cX12_middle 32 = .ok (.iload 5, 2) := by decide +kernel
theorem dX12_middle_34 : decode cX12_middle 34 = .ok (.aload_n 0, 1) := by decide +kernel
theorem dX12_middle_35 : decode cX12_middle 35 = .ok (.getfield 309, 3) := by decide +kernel
theorem dX12_middle_38 : decode cX12_middle 38 = .ok (.if_icmp .ge 45, 3) := by decide +kernel
theorem dX12_middle_41 : decode cX12_middle 41 = .ok (.iload 4, 2) := by decide +kernel
theorem dX12_middle_43 : decode cX12_middle 43 = .ok (.aload_n 0, 1) := by decide +kernel
theorem dX12_middle_44 : decode cX12_middle 44 = .ok (.iload 5, 2) := by decide +kernel
theorem dX12_middle_46 : decode cX12_middle 46 = .ok (.iconst 0, 1) := by decide +kernel
theorem dX12_middle_47 : decode cX12_middle 47 = .ok (.invokevirtual 318, 3) := by decide +kernel
theorem dX12_middle_50 : decode cX12_middle 50 = .ok (.iload_n 3, 1) := by decide +kernel
theorem dX12_middle_51 : decode cX12_middle 51 = .ok (.bipush 10, 2) := by decide +kernel
theorem dX12_middle_53 : decode cX12_middle 53 = .ok (.irem, 1) := by decide +kernel
theorem dX12_middle_54 : decode cX12_middle 54 = .ok (.isub, 1) := by decide +kernel
theorem dX12_middle_55 : decode cX12_middle 55 = .ok (.invokestatic 334, 3) := by decide +kernel
theorem dX12_middle_58 : decode cX12_middle 58 = .ok (.aload_n 0, 1) := by decide +kernel
theorem dX12_middle_59 : decode cX12_middle 59 = .ok (.iload 5, 2) := by decide +kernel
theorem dX12_middle_61 : decode cX12_middle 61 = .ok (.iconst 1, 1) := by decide +kernel
theorem dX12_middle_62 : decode cX12_middle 62 = .ok (.invokevirtual 318, 3) := by decide +kernel
theorem dX12_middle_65 : decode cX12_middle 65 = .ok (.iload_n 3, 1) := by decide +kernel
theorem dX12_middle_66 : decode cX12_middle 66 = .ok (.bipush 10, 2) := by decide +kernel
theorem dX12_middle_68 : decode cX12_middle 68 = .ok (.idiv, 1) := by decide +kernel
theorem dX12_middle_69 : decode cX12_middle 69 = .ok (.isub, 1) := by decide +kernel
theorem dX12_middle_70 : decode cX12_middle 70 = .ok (.invokestatic 334, 3) := by decide +kernel
theorem dX12_middle_73 : decode cX12_middle 73 = .ok (.iadd, 1) := by decide +kernel
theorem dX12_middle_74 : decode cX12_middle 74 = .ok (.iadd, 1) := by decide +kernel
theorem dX12_middle_75 : decode cX12_middle 75 = .ok (.istore 4, 2) := by decide +kernel
theorem dX12_middle_77 : decode cX12_middle 77 = .ok (.iinc 5 1, 3) := by decide +kernel
theorem dX12_middle_80 : decode cX12_middle 80 = .ok (.goto (-48), 3) := by decide +kernel
theorem dX12_middle_83 : decode cX12_middle 83 = .ok (.iload_n 1, 1) := by decide +kernel
theorem dX12_middle_84 : decode cX12_middle 84 = .ok (.iconst (-1), 1) := by decide +kernel
theorem dX12_middle_85 : decode cX12_middle 85 = .ok (.if_icmp .eq 12, 3) := by decide +kernel
theorem dX12_middle_88 : decode cX12_middle 88 = .ok (.iload 4, 2) := by decide +kernel
theorem dX12_middle_90 : decode cX12_middle 90 = .ok (.iload_n 2, 1) := by decide +kernel
theorem dX12_middle_91 : decode cX12_middle 91 = .ok (.if_icmp .lt 6, 3) := by decide +kernel
theorem dX12_middle_94 : decode cX12_middle 94 = .ok (.goto 8, 3) := by decide +kernel
theorem dX12_middle_97 : decode cX12_middle 97 = .ok (.iload_n 3, 1) := by decide +kernel
theorem dX12_middle_98 : decode cX12_middle 98 = .ok (.istore_n 1, 1) := by decide +kernel
theorem dX12_middle_99 : decode cX12_middle 99 = .ok (.iload 4, 2) := by decide +kernel
theorem dX12_middle_101 : decode cX12_middle 101 = .ok (.istore_n 2, 1) := by decide +kernel
theorem dX12_middle_102 : decode cX12_middle 102 = .ok (.iinc 3 1, 3) := by decide +kernel
theorem dX12_middle_105 : decode cX12_middle 105 = .ok (.goto (-85), 3) := by decide +kernel
theorem dX12_middle_108 : decode cX12_middle 108 = .ok (.iload_n 1, 1) := by decide +kernel
theorem dX12_middle_109 : decode cX12_middle 109 = .ok (.ireturn, 1) := by decide +kernel
theorem dX12_image_0 : decode cX12_image 0 = .ok (.aload_n 0, 1) := by decide +kernel
theorem dX12_image_1 : decode cX12_image 1 = .ok (.iconst 0, 1) := by decide +kernel
theorem dX12_image_2 : decode cX12_image 2 = .ok (.putfield 111, 3) := by decide +kernel
theorem dX12_image_5 : decode cX12_image 5 = .ok (.aload_n 0, 1) := by decide +kernel
theorem dX12_image_6 : decode cX12_image 6 = .ok (.getfield 309, 3) := by decide +kernel
theorem dX12_image_9 : decode cX12_image 9 = .ok (.ifCond .ne 5, 3) := by decide +kernel
theorem dX12_image_12 : decode cX12_image 12 = .ok (.iconst (-1), 1) := by decide +kernel
theorem dX12_image_13 : decode cX12_image 13 = .ok (.ireturn, 1) := by decide +kernel
theorem dX12_image_14 : decode cX12_image 14 = .ok (.aload_n 0, 1) := by decide +kernel
theorem dX12_image_15 : decode cX12_image 15 = .ok (.getfield 61, 3) := by decide +kernel
theorem dX12_image_18 : decode cX12_image 18 = .ok (.aload_n 0, 1) := by decide +kernel
theorem dX12_image_19 : decode cX12_image 19 = .ok (.getfield 108, 3) := by decide +kernel
theorem dX12_image_22 : decode cX12_image 22 = .ok (.invokestatic 468, 3) := by decide +kernel
theorem dX12_image_25 : decode cX12_image 25 = .ok (.aload_n 0, 1) := by decide +kernel
theorem dX12_image_26 : decode cX12_image 26 = .ok (.iconst 1, 1) := by decide +kernel
theorem dX12_image_27 : decode cX12_image 27 = .ok (.putfield 327, 3) := by decide +kernel
theorem dX12_image_30 : decode cX12_image 30 = .ok (.aload_n 0, 1) := by decide +kernel
theorem dX12_image_31 : decode cX12_image 31 = .ok (.getfield 61, 3) := by decide +kernel
theorem dX12_image_34 : decode cX12_image 34 = .ok (.bipush 60, 2) := by decide +kernel
theorem dX12_image_36 : decode cX12_image 36 = .ok (.iaload, 1) := by decide +kernel
theorem dX12_image_37 : decode cX12_image 37 = .ok (.ireturn, 1) := by decide +kernel
theorem dX12_back_0 : decode cX12_back 0 = .ok (.aload_n 0, 1) := by decide +kernel
theorem dX12_back_1 : decode cX12_back 1 = .ok (.iconst 0, 1) := by decide +kernel
theorem dX12_back_2 : decode cX12_back 2 = .ok (.putfield 111, 3) := by decide +kernel
theorem dX12_back_5 : decode cX12_back 5 = .ok (.aload_n 0, 1) := by decide +kernel
theorem dX12_back_6 : decode cX12_back 6 = .ok (.getfield 327, 3) := by decide +kernel
theorem dX12_back_9 : decode cX12_back 9 = .ok (.ifCond .ne 5, 3) := by decide +kernel
theorem dX12_back_12 : decode cX12_back 12 = .ok (.iconst (-1), 1) := by decide +kernel
theorem dX12_back_13 : decode cX12_back 13 = .ok (.ireturn, 1) := by decide +kernel
theorem dX12_back_14 : decode cX12_back 14 = .ok (.aload_n 0, 1) := by decide +kernel
theorem dX12_back_15 : decode cX12_back 15 = .ok (.getfield 108, 3) := by decide +kernel
theorem dX12_back_18 : decode cX12_back 18 = .ok (.aload_n 0, 1) := by decide +kernel
theorem dX12_back_19 : decode cX12_back 19 = .ok (.getfield 61, 3) := by decide +kernel
theorem dX12_back_22 : decode cX12_back 22 = .ok (.invokestatic 468, 3) := by decide +kernel
theorem dX12_back_25 : decode cX12_back 25 = .ok (.aload_n 0, 1) := by decide +kernel
theorem dX12_back_26 : decode cX12_back 26 = .ok (.iconst 0, 1) := by decide +kernel
theorem dX12_back_27 : decode cX12_back 27 = .ok (.putfield 324, 3) := by decide +kernel
theorem dX12_back_30 : decode cX12_back 30 = .ok (.aload_n 0, 1) := by decide +kernel
theorem dX12_back_31 : decode cX12_back 31 = .ok (.getfield 61, 3) := by decide +kernel
theorem dX12_back_34 : decode cX12_back 34 = .ok (.bipush 60, 2) := by decide +kernel
theorem dX12_back_36 : decode cX12_back 36 = .ok (.iaload, 1) := by decide +kernel
theorem dX12_back_37 : decode cX12_back 37 = .ok (.ireturn, 1) := by decide +kernel
theorem dX12_count_0 : decode cX12_count 0 = .ok (.aload_n 0, 1) := by decide +kernel
theorem dX12_count_1 : decode cX12_count 1 = .ok (.iconst 0, 1) := by decide +kernel
theorem dX12_count_2 : decode cX12_count 2 = .ok (.putfield 111, 3) := by decide +kernel
theorem dX12_count_5 : decode cX12_count 5 = .ok (.iconst 0, 1) := by decide +kernel
theorem dX12_count_6 : decode cX12_count 6 = .ok (.istore_n 2, 1) := by decide +kernel
theorem dX12_count_7 : decode cX12_count 7 = .ok (.iconst 0, 1) := by decide +kernel
theorem dX12_count_8 : decode cX12_count 8 = .ok (.istore_n 3, 1) := by decide +kernel
theorem dX12_count_9 : decode cX12_count 9 = .ok (.iload_n 1, 1) := by decide +kernel
theorem dX12_count_10 : decode cX12_count 10 = .ok (.tableswitch 234 0 12 #[66, 71, 76, 81, 86, 91, 96, 104, 149, 183, 216, 221, 229], 66) := by decide +kernel
theorem dX12_count_76 : decode cX12_count 76 = .ok (.aload_n 0, 1) := by decide +kernel
theorem dX12_count_77 : decode cX12_count 77 = .ok (.getfield 309, 3) := by decide +kernel
theorem dX12_count_80 : decode cX12_count 80 = .ok (.ireturn, 1) := by decide +kernel
theorem dX12_count_81 : decode cX12_count 81 = .ok (.aload_n 0, 1) := by decide +kernel
theorem dX12_count_82 : decode cX12_count 82 = .ok (.getfield 312, 3) := by decide +kernel
theorem dX12_count_85 : decode cX12_count 85 = .ok (.ireturn, 1) := by decide +kernel
theorem dX12_count_86 : decode cX12_count 86 = .ok (.aload_n 0, 1) := by decide +kernel
theorem dX12_count_87 : decode cX12_count 87 = .ok (.getfield 301, 3) := by decide +kernel
theorem dX12_count_90 : decode cX12_count 90 = .ok (.ireturn, 1) := by decide +kernel
theorem dX12_count_91 : decode cX12_count 91 = .ok (.aload_n 0, 1) := by decide +kernel
theorem dX12_count_92 : decode cX12_count 92 = .ok (.getfield 304, 3) := by decide +kernel
theorem dX12_count_95 : decode cX12_count 95 = .ok (.ireturn, 1) := by decide +kernel
theorem dX12_count_96 : decode cX12_count 96 = .ok (.aload_n 0, 1) := by decide +kernel
theorem dX12_count_97 : decode cX12_count 97 = .ok (.getfield 124, 3) := by decide +kernel
theorem dX12_count_100 : decode cX12_count 100 = .ok (.ireturn, 1) := by decide +kernel
theorem dX12_count_101 : decode cX12_count 101 = .ok (.aload_n 0, 1) := by decide +kernel
theorem dX12_count_102 : decode cX12_count 102 = .ok (.getfield 67, 3) := by decide +kernel
theorem dX12_count_105 : decode cX12_count 105 = .ok (.ireturn, 1) := by decide +kernel
theorem dX12_count_106 : decode cX12_count 106 = .ok (.aload_n 0, 1) := by decide +kernel
theorem dX12_count_107 : decode cX12_count 107 = .ok (.getfield 61, 3) := by decide +kernel
theorem dX12_count_110 : decode cX12_count 110 = .ok (.bipush 60, 2) := by decide +kernel
theorem dX12_count_112 : decode cX12_count 112 = .ok (.iaload, 1) := by decide +kernel
theorem dX12_count_113 : decode cX12_count 113 = .ok (.ireturn, 1) := by decide +kernel
theorem dX12_count_114 : decode cX12_count 114 = .ok (.iconst 0, 1) := by decide +kernel
theorem dX12_count_115 : decode cX12_count 115 = .ok (.istore 4, 2) := by decide +kernel
theorem dX12_count_117 : decode cX12_count 117 = .ok (.iload 4, 2) := by decide +kernel
theorem dX12_count_119 : decode cX12_count 119 = .ok (.aload_n 0, 1) := by decide +kernel
theorem dX12_count_120 : decode cX12_count 120 = .ok (.getfield 309, 3) := by decide +kernel
theorem dX12_count_123 : decode cX12_count 123 = .ok (.if_icmp .ge 34, 3) := by decide +kernel
theorem dX12_count_126 : decode cX12_count 126 = .ok (.iload_n 2, 1) := by decide +kernel
theorem dX12_count_127 : decode cX12_count 127 = .ok (.aload_n 0, 1) := by decide +kernel
theorem dX12_count_128 : decode cX12_count 128 = .ok (.aload_n 0, 1) := by decide +kernel
theorem dX12_count_129 : decode cX12_count 129 = .ok (.getfield 61, 3) := by decide +kernel
theorem dX12_count_132 : decode cX12_count 132 = .ok (.iload 4, 2) := by decide +kernel
theorem dX12_count_134 : decode cX12_count 134 = .ok (.invokevirtual 386, 3) := by decide +kernel
theorem dX12_count_137 : decode cX12_count 137 = .ok (.iconst (-1), 1) := by decide +kernel
theorem dX12_count_138 : decode cX12_count 138 = .ok (.if_icmp .ne 7, 3) := by decide +kernel
theorem dX12_count_141 : decode cX12_count 141 = .ok (.iconst 0, 1) := by decide +kernel
theorem dX12_count_142 : decode cX12_count 142 = .ok (.goto 7, 3) := by decide +kernel
theorem dX12_count_145 : decode cX12_count 145 = .ok (.iconst 1, 1) := by decide +kernel
theorem dX12_count_146 : decode cX12_count 146 = .ok (.iload 4, 2) := by decide +kernel
theorem dX12_count_148 : decode cX12_count 148 = .ok (.ishl, 1) := by decide +kernel
theorem dX12_count_149 : decode cX12_count 149 = .ok (.ior, 1) := by decide +kernel
theorem dX12_count_150 : decode cX12_count 150 = .ok (.istore_n 2, 1) := by decide +kernel
theorem dX12_count_151 : decode cX12_count 151 = .ok (.iinc 4 1, 3) := by decide +kernel
theorem dX12_count_154 : decode cX12_count 154 = .ok (.goto (-37), 3) := by decide +kernel
theorem dX12_count_157 : decode cX12_count 157 = .ok (.iload_n 2, 1) := by decide +kernel
theorem dX12_count_158 : decode cX12_count 158 = .ok (.ireturn, 1) := by decide +kernel
theorem dX12_count_159 : decode cX12_count 159 = .ok (.iconst 0, 1) := by decide +kernel
theorem dX12_count_160 : decode cX12_count 160 = .ok (.istore 4, 2) := by decide +kernel
theorem dX12_count_162 : decode cX12_count 162 = .ok (.iload 4, 2) := by decide +kernel
theorem dX12_count_164 : decode cX12_count 164 = .ok (.aload_n 0, 1) := by decide +kernel
theorem dX12_count_165 : decode cX12_count 165 = .ok (.getfield 309, 3) := by decide +kernel
theorem dX12_count_168 : decode cX12_count 168 = .ok (.if_icmp .ge 23, 3) := by decide +kernel
theorem dX12_count_171 : decode cX12_count 171 = .ok (.iload_n 3, 1) := by decide +kernel
theorem dX12_count_172 : decode cX12_count 172 = .ok (.aload_n 0, 1) := by decide +kernel
theorem dX12_count_173 : decode cX12_count 173 = .ok (.getfield 61, 3) := by decide +kernel
theorem dX12_count_176 : decode cX12_count 176 = .ok (.iconst 5, 1) := by decide +kernel
theorem dX12_count_177 : decode cX12_count 177 = .ok (.iload 4, 2) := by decide +kernel
theorem dX12_count_179 : decode cX12_count 179 = .ok (.imul, 1) := by decide +kernel
theorem dX12_count_180 : decode cX12_count 180 = .ok (.iconst 4, 1) := by decide +kernel
theorem dX12_count_181 : decode cX12_count 181 = .ok (.iadd, 1) := by decide +kernel
theorem dX12_count_182 : decode cX12_count 182 = .ok (.iaload, 1) := by decide +kernel
theorem dX12_count_183 : decode cX12_count 183 = .ok (.iadd, 1) := by decide +kernel
theorem dX12_count_184 : decode cX12_count 184 = .ok (.istore_n 3, 1) := by decide +kernel
theorem dX12_count_185 : decode cX12_count 185 = .ok (.iinc 4 1, 3) := by decide +kernel
theorem dX12_count_188 : decode cX12_count 188 = .ok (.goto (-26), 3) := by decide +kernel
theorem dX12_count_191 : decode cX12_count 191 = .ok (.iload_n 3, 1) := by decide +kernel
theorem dX12_count_192 : decode cX12_count 192 = .ok (.ireturn, 1) := by decide +kernel
theorem dX12_count_193 : decode cX12_count 193 = .ok (.iconst 0, 1) := by decide +kernel
theorem dX12_count_194 : decode cX12_count 194 = .ok (.istore 4, 2) := by decide +kernel
theorem dX12_count_196 : decode cX12_count 196 = .ok (.iload 4, 2) := by decide +kernel
theorem dX12_count_198 : decode cX12_count 198 = .ok (.aload_n 0, 1) := by decide +kernel
theorem dX12_count_199 : decode cX12_count 199 = .ok (.getfield 312, 3) := by decide +kernel
theorem dX12_count_202 : decode cX12_count 202 = .ok (.if_icmp .ge 22, 3) := by decide +kernel
theorem dX12_count_205 : decode cX12_count 205 = .ok (.iload_n 3, 1) := by decide +kernel
theorem dX12_count_206 : decode cX12_count 206 = .ok (.aload_n 0, 1) := by decide +kernel
theorem dX12_count_207 : decode cX12_count 207 = .ok (.getfield 61, 3) := by decide +kernel
theorem dX12_count_210 : decode cX12_count 210 = .ok (.iload 4, 2) := by decide +kernel
theorem dX12_count_212 : decode cX12_count 212 = .ok (.iconst 4, 1) := by decide +kernel
theorem dX12_count_213 : decode cX12_count 213 = .ok (.invokestatic 330, 3) := by decide +kernel
theorem dX12_count_216 : decode cX12_count 216 = .ok (.iadd, 1) := by decide +kernel
theorem dX12_count_217 : decode cX12_count 217 = .ok (.istore_n 3, 1) := by decide +kernel
theorem dX12_count_218 : decode cX12_count 218 = .ok (.iinc 4 1, 3) := by decide +kernel
theorem dX12_count_221 : decode cX12_count 221 = .ok (.goto (-25), 3) := by decide +kernel
theorem dX12_count_224 : decode cX12_count 224 = .ok (.iload_n 3, 1) := by decide +kernel
theorem dX12_count_225 : decode cX12_count 225 = .ok (.ireturn, 1) := by decide +kernel
theorem dX12_count_226 : decode cX12_count 226 = .ok (.aload_n 0, 1) := by decide +kernel
theorem dX12_count_227 : decode cX12_count 227 = .ok (.getfield 321, 3) := by decide +kernel
theorem dX12_count_230 : decode cX12_count 230 = .ok (.ireturn, 1) := by decide +kernel
theorem dX12_count_231 : decode cX12_count 231 = .ok (.aload_n 0, 1) := by decide +kernel
theorem dX12_count_232 : decode cX12_count 232 = .ok (.getfield 61, 3) := by decide +kernel
theorem dX12_count_235 : decode cX12_count 235 = .ok (.bipush 61, 2) := by decide +kernel
theorem dX12_count_237 : decode cX12_count 237 = .ok (.iaload, 1) := by decide +kernel
theorem dX12_count_238 : decode cX12_count 238 = .ok (.ireturn, 1) := by decide +kernel
theorem dX12_count_239 : decode cX12_count 239 = .ok (.aload_n 0, 1) := by decide +kernel
theorem dX12_count_240 : decode cX12_count 240 = .ok (.getfield 324, 3) := by decide +kernel
theorem dX12_count_243 : decode cX12_count 243 = .ok (.ireturn, 1) := by decide +kernel
theorem dX12_count_244 : decode cX12_count 244 = .ok (.ldc_w 417, 3) := by decide +kernel
theorem dX12_count_247 : decode cX12_count 247 = .ok (.ireturn, 1) := by decide +kernel
