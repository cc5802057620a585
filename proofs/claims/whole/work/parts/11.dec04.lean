theorem dX11_number_0 : decode cX11_number 0 = .ok (.aload_n 0, 1) := by decide +kernel
theorem dX11_number_1 : decode cX11_number 1 = .ok (.iload_n 1, 1) := by decide +kernel
theorem dX11_number_2 : decode cX11_number 2 = .ok (.iload_n 2, 1) := by decide +kernel
theorem dX11_number_3 : decode cX11_number 3 = .ok (.invokevirtual 158, 3) := by decide +kernel
theorem dX11_number_6 : decode cX11_number 6 = .ok (.istore_n 3, 1) := by decide +kernel
theorem dX11_number_7 : decode cX11_number 7 = .ok (.aload_n 0, 1) := by decide +kernel
theorem dX11_number_8 : decode cX11_number 8 = .ok (.getfield 94, 3) := by decide +kernel
theorem dX11_number_11 : decode cX11_number 11 = .ok (.ifCond .ne 7, 3) := by decide +kernel
theorem dX11_number_14 : decode cX11_number 14 = .ok (.aload_n 0, 1) := by decide +kernel
theorem dX11_number_15 : decode cX11_number 15 = .ok (.invokevirtual 115, 3) := by decide +kernel
theorem dX11_number_18 : decode cX11_number 18 = .ok (.iload_n 3, 1) := by decide +kernel
theorem dX11_number_19 : decode cX11_number 19 = .ok (.ireturn, 1) := by decide +kernel
theorem dX11_after_0 : decode cX11_after 0 = .ok (.aload_n 0, 1) := by decide +kernel
theorem dX11_after_1 : decode cX11_after 1 = .ok (.aload_n 1, 1) := by decide +kernel
theorem dX11_after_2 : decode cX11_after 2 = .ok (.invokevirtual 161, 3) := by decide +kernel
theorem dX11_after_5 : decode cX11_after 5 = .ok (.aload_n 0, 1) := by decide +kernel
theorem dX11_after_6 : decode cX11_after 6 = .ok (.iload_n 2, 1) := by decide +kernel
theorem dX11_after_7 : decode cX11_after 7 = .ok (.iload_n 3, 1) := by decide +kernel
theorem dX11_after_8 : decode cX11_after 8 = .ok (.invokevirtual 165, 3) := by decide +kernel
theorem dX11_after_11 : decode cX11_after 11 = .ok (.ireturn, 1) := by decide +kernel
theorem dX11_oneOf_0 : decode cX11_oneOf 0 = .ok (.aload_n 0, 1) := by decide +kernel
theorem dX11_oneOf_1 : decode cX11_oneOf 1 = .ok (.aload_n 1, 1) := by decide +kernel
theorem dX11_oneOf_2 : decode cX11_oneOf 2 = .ok (.invokevirtual 111, 3) := by decide +kernel
theorem dX11_oneOf_5 : decode cX11_oneOf 5 = .ok (.ifCond .eq 7, 3) := by decide +kernel
theorem dX11_oneOf_8 : decode cX11_oneOf 8 = .ok (.iconst 0, 1) := by decide +kernel
theorem dX11_oneOf_9 : decode cX11_oneOf 9 = .ok (.goto 41, 3) := by decide +kernel
theorem dX11_oneOf_12 : decode cX11_oneOf 12 = .ok (.aload_n 0, 1) := by decide +kernel
theorem dX11_oneOf_13 : decode cX11_oneOf 13 = .ok (.aload_n 2, 1) := by decide +kernel
theorem dX11_oneOf_14 : decode cX11_oneOf 14 = .ok (.invokevirtual 111, 3) := by decide +kernel
theorem dX11_oneOf_17 : decode cX11_oneOf 17 = .ok (.ifCond .eq 7, 3) := by decide +kernel
theorem dX11_oneOf_20 : decode cX11_oneOf 20 = .ok (.iconst 1, 1) := by decide +kernel
theorem dX11_oneOf_21 : decode cX11_oneOf 21 = .ok (.goto 29, 3) := by decide +kernel
theorem dX11_oneOf_24 : decode cX11_oneOf 24 = .ok (.aload_n 0, 1) := by decide +kernel
theorem dX11_oneOf_25 : decode cX11_oneOf 25 = .ok (.aload_n 3, 1) := by decide +kernel
theorem dX11_oneOf_26 : decode cX11_oneOf 26 = .ok (.invokevirtual 111, 3) := by decide +kernel
theorem dX11_oneOf_29 : decode cX11_oneOf 29 = .ok (.ifCond .eq 7, 3) := by decide +kernel
theorem dX11_oneOf_32 : decode cX11_oneOf 32 = .ok (.iconst 2, 1) := by decide +kernel
theorem dX11_oneOf_33 : decode cX11_oneOf 33 = .ok (.goto 17, 3) := by decide +kernel
theorem dX11_oneOf_36 : decode cX11_oneOf 36 = .ok (.aload_n 0, 1) := by decide +kernel
theorem dX11_oneOf_37 : decode cX11_oneOf 37 = .ok (.aload 4, 2) := by decide +kernel
theorem dX11_oneOf_39 : decode cX11_oneOf 39 = .ok (.invokevirtual 111, 3) := by decide +kernel
theorem dX11_oneOf_42 : decode cX11_oneOf 42 = .ok (.ifCond .eq 7, 3) := by decide +kernel
theorem dX11_oneOf_45 : decode cX11_oneOf 45 = .ok (.iconst 3, 1) := by decide +kernel
theorem dX11_oneOf_46 : decode cX11_oneOf 46 = .ok (.goto 4, 3) := by decide +kernel
theorem dX11_oneOf_49 : decode cX11_oneOf 49 = .ok (.iconst (-1), 1) := by decide +kernel
theorem dX11_oneOf_50 : decode cX11_oneOf 50 = .ok (.istore 5, 2) := by decide +kernel
theorem dX11_oneOf_52 : decode cX11_oneOf 52 = .ok (.iload 5, 2) := by decide +kernel
theorem dX11_oneOf_54 : decode cX11_oneOf 54 = .ok (.ifCond .ge 12, 3) := by decide +kernel
theorem dX11_oneOf_57 : decode cX11_oneOf 57 = .ok (.aload_n 0, 1) := by decide +kernel
theorem dX11_oneOf_58 : decode cX11_oneOf 58 = .ok (.iconst 1, 1) := by decide +kernel
theorem dX11_oneOf_59 : decode cX11_oneOf 59 = .ok (.aload_n 0, 1) := by decide +kernel
theorem dX11_oneOf_60 : decode cX11_oneOf 60 = .ok (.getfield 75, 3) := by decide +kernel
theorem dX11_oneOf_63 : decode cX11_oneOf 63 = .ok (.invokevirtual 121, 3) := by decide +kernel
theorem dX11_oneOf_66 : decode cX11_oneOf 66 = .ok (.aload_n 0, 1) := by decide +kernel
theorem dX11_oneOf_67 : decode cX11_oneOf 67 = .ok (.getfield 94, 3) := by decide +kernel
theorem dX11_oneOf_70 : decode cX11_oneOf 70 = .ok (.ifCond .ne 7, 3) := by decide +kernel
theorem dX11_oneOf_73 : decode cX11_oneOf 73 = .ok (.aload_n 0, 1) := by decide +kernel
theorem dX11_oneOf_74 : decode cX11_oneOf 74 = .ok (.invokevirtual 115, 3) := by decide +kernel
theorem dX11_oneOf_77 : decode cX11_oneOf 77 = .ok (.iload 5, 2) := by decide +kernel
theorem dX11_oneOf_79 : decode cX11_oneOf 79 = .ok (.ireturn, 1) := by decide +kernel
theorem dX11_ferry_0 : decode cX11_ferry 0 = .ok (.aload_n 0, 1) := by decide +kernel
theorem dX11_ferry_1 : decode cX11_ferry 1 = .ok (.invokevirtual 168, 3) := by decide +kernel
theorem dX11_ferry_4 : decode cX11_ferry 4 = .ok (.iload_n 1, 1) := by decide +kernel
theorem dX11_ferry_5 : decode cX11_ferry 5 = .ok (.iconst 0, 1) := by decide +kernel
theorem dX11_ferry_6 : decode cX11_ferry 6 = .ok (.aload_n 0, 1) := by decide +kernel
theorem dX11_ferry_7 : decode cX11_ferry 7 = .ok (.getfield 62, 3) := by decide +kernel
theorem dX11_ferry_10 : decode cX11_ferry 10 = .ok (.invokestatic 147, 3) := by decide +kernel
theorem dX11_ferry_13 : decode cX11_ferry 13 = .ok (.ifCond .ne 9, 3) := by decide +kernel
theorem dX11_ferry_16 : decode cX11_ferry 16 = .ok (.aload_n 0, 1) := by decide +kernel
theorem dX11_ferry_17 : decode cX11_ferry 17 = .ok (.iconst 2, 1) := by decide +kernel
theorem dX11_ferry_18 : decode cX11_ferry 18 = .ok (.invokevirtual 171, 3) := by decide +kernel
theorem dX11_ferry_21 : decode cX11_ferry 21 = .ok (.ireturn, 1) := by decide +kernel
theorem dX11_ferry_22 : decode cX11_ferry 22 = .ok (.aload_n 0, 1) := by decide +kernel
theorem dX11_ferry_23 : decode cX11_ferry 23 = .ok (.iconst 0, 1) := by decide +kernel
theorem dX11_ferry_24 : decode cX11_ferry 24 = .ok (.putfield 62, 3) := by decide +kernel
theorem dX11_ferry_27 : decode cX11_ferry 27 = .ok (.aload_n 0, 1) := by decide +kernel
theorem dX11_ferry_28 : decode cX11_ferry 28 = .ok (.iconst 0, 1) := by decide +kernel
theorem dX11_ferry_29 : decode cX11_ferry 29 = .ok (.putfield 98, 3) := by decide +kernel
theorem dX11_ferry_32 : decode cX11_ferry 32 = .ok (.aload_n 0, 1) := by decide +kernel
theorem dX11_ferry_33 : decode cX11_ferry 33 = .ok (.iconst 0, 1) := by decide +kernel
theorem dX11_ferry_34 : decode cX11_ferry 34 = .ok (.putfield 94, 3) := by decide +kernel
theorem dX11_ferry_37 : decode cX11_ferry 37 = .ok (.iconst 0, 1) := by decide +kernel
theorem dX11_ferry_38 : decode cX11_ferry 38 = .ok (.istore_n 2, 1) := by decide +kernel
theorem dX11_ferry_39 : decode cX11_ferry 39 = .ok (.iload_n 2, 1) := by decide +kernel
theorem dX11_ferry_40 : decode cX11_ferry 40 = .ok (.sipush 333, 3) := by decide +kernel
theorem dX11_ferry_43 : decode cX11_ferry 43 = .ok (.if_icmp .ge 16, 3) := by decide +kernel
theorem dX11_ferry_46 : decode cX11_ferry 46 = .ok (.aload_n 0, 1) := by decide +kernel
theorem dX11_ferry_47 : decode cX11_ferry 47 = .ok (.getfield 23, 3) := by decide +kernel
theorem dX11_ferry_50 : decode cX11_ferry 50 = .ok (.iload_n 2, 1) := by decide +kernel
theorem dX11_ferry_51 : decode cX11_ferry 51 = .ok (.iconst 0, 1) := by decide +kernel
theorem dX11_ferry_52 : decode cX11_ferry 52 = .ok (.iastore, 1) := by decide +kernel
theorem dX11_ferry_53 : decode cX11_ferry 53 = .ok (.iinc 2 1, 3) := by decide +kernel
theorem dX11_ferry_56 : decode cX11_ferry 56 = .ok (.goto (-17), 3) := by decide +kernel
theorem dX11_ferry_59 : decode cX11_ferry 59 = .ok (.aload_n 0, 1) := by decide +kernel
theorem dX11_ferry_60 : decode cX11_ferry 60 = .ok (.iload_n 1, 1) := by decide +kernel
theorem dX11_ferry_61 : decode cX11_ferry 61 = .ok (.putfield 65, 3) := by decide +kernel
theorem dX11_ferry_64 : decode cX11_ferry 64 = .ok (.aload_n 0, 1) := by decide +kernel
theorem dX11_ferry_65 : decode cX11_ferry 65 = .ok (.iconst 0, 1) := by decide +kernel
theorem dX11_ferry_66 : decode cX11_ferry 66 = .ok (.putfield 68, 3) := by decide +kernel
theorem dX11_ferry_69 : decode cX11_ferry 69 = .ok (.aload_n 0, 1) := by decide +kernel
theorem dX11_ferry_70 : decode cX11_ferry 70 = .ok (.invokevirtual 115, 3) := by decide +kernel
theorem dX11_ferry_73 : decode cX11_ferry 73 = .ok (.aload_n 0, 1) := by decide +kernel
theorem dX11_ferry_74 : decode cX11_ferry 74 = .ok (.invokevirtual 174, 3) := by decide +kernel
theorem dX11_ferry_77 : decode cX11_ferry 77 = .ok (.aload_n 0, 1) := by decide +kernel
theorem dX11_ferry_78 : decode cX11_ferry 78 = .ok (.getfield 94, 3) := by decide +kernel
theorem dX11_ferry_81 : decode cX11_ferry 81 = .ok (.ifCond .ne 23, 3) := by decide +kernel
theorem dX11_ferry_84 : decode cX11_ferry 84 = .ok (.aload_n 0, 1) := by decide +kernel
theorem dX11_ferry_85 : decode cX11_ferry 85 = .ok (.getfield 84, 3) := by decide +kernel
theorem dX11_ferry_88 : decode cX11_ferry 88 = .ok (.bipush 59, 2) := by decide +kernel
theorem dX11_ferry_90 : decode cX11_ferry 90 = .ok (.if_icmp .ne 14, 3) := by decide +kernel
theorem dX11_ferry_93 : decode cX11_ferry 93 = .ok (.aload_n 0, 1) := by decide +kernel
theorem dX11_ferry_94 : decode cX11_ferry 94 = .ok (.invokevirtual 115, 3) := by decide +kernel
theorem dX11_ferry_97 : decode cX11_ferry 97 = .ok (.aload_n 0, 1) := by decide +kernel
theorem dX11_ferry_98 : decode cX11_ferry 98 = .ok (.invokevirtual 174, 3) := by decide +kernel
theorem dX11_ferry_101 : decode cX11_ferry 101 = .ok (.goto (-24), 3) := by decide +kernel
theorem dX11_ferry_104 : decode cX11_ferry 104 = .ok (.aload_n 0, 1) := by decide +kernel
theorem dX11_ferry_105 : decode cX11_ferry 105 = .ok (.getfield 94, 3) := by decide +kernel
theorem dX11_ferry_108 : decode cX11_ferry 108 = .ok (.ifCond .ne 19, 3) := by decide +kernel
theorem dX11_ferry_111 : decode cX11_ferry 111 = .ok (.aload_n 0, 1) := by decide +kernel
theorem dX11_ferry_112 : decode cX11_ferry 112 = .ok (.getfield 84, 3) := by decide +kernel
theorem dX11_ferry_115 : decode cX11_ferry 115 = .ok (.ifCond .eq 12, 3) := by decide +kernel
theorem dX11_ferry_118 : decode cX11_ferry 118 = .ok (.aload_n 0, 1) := by decide +kernel
theorem dX11_ferry_119 : decode cX11_ferry 119 = .ok (.iconst 1, 1) := by decide +kernel
theorem dX11_ferry_120 : decode cX11_ferry 120 = .ok (.aload_n 0, 1) := by decide +kernel
theorem dX11_ferry_121 : decode cX11_ferry 121 = .ok (.getfield 75, 3) := by decide +kernel
theorem dX11_ferry_124 : decode cX11_ferry 124 = .ok (.invokevirtual 121, 3) := by decide +kernel
theorem dX11_ferry_127 : decode cX11_ferry 127 = .ok (.aload_n 0, 1) := by decide +kernel
theorem dX11_ferry_128 : decode cX11_ferry 128 = .ok (.getfield 94, 3) := by decide +kernel
theorem dX11_ferry_131 : decode cX11_ferry 131 = .ok (.ifCond .ne 40, 3) := by decide +kernel
theorem dX11_ferry_134 : decode cX11_ferry 134 = .ok (.aload_n 0, 1) := by decide +kernel
theorem dX11_ferry_135 : decode cX11_ferry 135 = .ok (.getfield 23, 3) := by decide +kernel
theorem dX11_ferry_138 : decode cX11_ferry 138 = .ok (.iconst 0, 1) := by decide +kernel
theorem dX11_ferry_139 : decode cX11_ferry 139 = .ok (.iaload, 1) := by decide +kernel
theorem dX11_ferry_140 : decode cX11_ferry 140 = .ok (.ifCond .eq 21, 3) := by decide +kernel
theorem dX11_ferry_143 : decode cX11_ferry 143 = .ok (.aload_n 0, 1) := by decide +kernel
theorem dX11_ferry_144 : decode cX11_ferry 144 = .ok (.getfield 23, 3) := by decide +kernel
theorem dX11_ferry_147 : decode cX11_ferry 147 = .ok (.iconst 2, 1) := by decide +kernel
theorem dX11_ferry_148 : decode cX11_ferry 148 = .ok (.iaload, 1) := by decide +kernel
theorem dX11_ferry_149 : decode cX11_ferry 149 = .ok (.ifCond .eq 12, 3) := by decide +kernel
theorem dX11_ferry_152 : decode cX11_ferry 152 = .ok (.aload_n 0, 1) := by decide +kernel
theorem dX11_ferry_153 : decode cX11_ferry 153 = .ok (.getfield 23, 3) := by decide +kernel
theorem dX11_ferry_156 : decode cX11_ferry 156 = .ok (.iconst 3, 1) := by decide +kernel
theorem dX11_ferry_157 : decode cX11_ferry 157 = .ok (.iaload, 1) := by decide +kernel
theorem dX11_ferry_158 : decode cX11_ferry 158 = .ok (.ifCond .ne 13, 3) := by decide +kernel
theorem dX11_ferry_161 : decode cX11_ferry 161 = .ok (.aload_n 0, 1) := by decide +kernel
theorem dX11_ferry_162 : decode cX11_ferry 162 = .ok (.bipush 6, 2) := by decide +kernel
theorem dX11_ferry_164 : decode cX11_ferry 164 = .ok (.aload_n 0, 1) := by decide +kernel
theorem dX11_ferry_165 : decode cX11_ferry 165 = .ok (.getfield 75, 3) := by decide +kernel
theorem dX11_ferry_168 : decode cX11_ferry 168 = .ok (.invokevirtual 121, 3) := by decide +kernel
theorem dX11_ferry_171 : decode cX11_ferry 171 = .ok (.aload_n 0, 1) := by decide +kernel
theorem dX11_ferry_172 : decode cX11_ferry 172 = .ok (.getfield 94, 3) := by decide +kernel
theorem dX11_ferry_175 : decode cX11_ferry 175 = .ok (.ifCond .eq 9, 3) := by decide +kernel
theorem dX11_ferry_178 : decode cX11_ferry 178 = .ok (.aload_n 0, 1) := by decide +kernel
theorem dX11_ferry_179 : decode cX11_ferry 179 = .ok (.iconst 4, 1) := by decide +kernel
theorem dX11_ferry_180 : decode cX11_ferry 180 = .ok (.invokevirtual 171, 3) := by decide +kernel
theorem dX11_ferry_183 : decode cX11_ferry 183 = .ok (.ireturn, 1) := by decide +kernel
theorem dX11_ferry_184 : decode cX11_ferry 184 = .ok (.aload_n 0, 1) := by decide +kernel
theorem dX11_ferry_185 : decode cX11_ferry 185 = .ok (.getfield 23, 3) := by decide +kernel
theorem dX11_ferry_188 : decode cX11_ferry 188 = .ok (.iconst 0, 1) := by decide +kernel
theorem dX11_ferry_189 : decode cX11_ferry 189 = .ok (.aload_n 0, 1) := by decide +kernel
theorem dX11_ferry_190 : decode cX11_ferry 190 = .ok (.getfield 20, 3) := by decide +kernel
theorem dX11_ferry_193 : decode cX11_ferry 193 = .ok (.iconst 0, 1) := by decide +kernel
theorem dX11_ferry_194 : decode cX11_ferry 194 = .ok (.sipush 333, 3) := by decide +kernel
theorem dX11_ferry_197 : decode cX11_ferry 197 = .ok (.invokestatic 177, 3) := by decide +kernel
theorem dX11_ferry_200 : decode cX11_ferry 200 = .ok (.iconst 0, 1) := by decide +kernel
theorem dX11_ferry_201 : decode cX11_ferry 201 = .ok (.istore_n 2, 1) := by decide +kernel
theorem dX11_ferry_202 : decode cX11_ferry 202 = .ok (.iload_n 2, 1) := by decide +kernel
theorem dX11_ferry_203 : decode cX11_ferry 203 = .ok (.bipush 26, 2) := by decide +kernel
theorem dX11_ferry_205 : decode cX11_ferry 205 = .ok (.if_icmp .ge 16, 3) := by decide +kernel
theorem dX11_ferry_208 : decode cX11_ferry 208 = .ok (.aload_n 0, 1) := by decide +kernel
theorem dX11_ferry_209 : decode cX11_ferry 209 = .ok (.getfield 26, 3) := by decide +kernel
theorem dX11_ferry_212 : decode cX11_ferry 212 = .ok (.iload_n 2, 1) := by decide +kernel
theorem dX11_ferry_213 : decode cX11_ferry 213 = .ok (.iconst 0, 1) := by decide +kernel
theorem dX11_ferry_214 : decode cX11_ferry 214 = .ok (.iastore, 1) := by decide +kernel
theorem dX11_ferry_215 : decode cX11_ferry 215 = .ok (.iinc 2 1, 3) := by decide +kernel
theorem dX11_ferry_218 : decode cX11_ferry 218 = .ok (.goto (-16), 3) := by decide +kernel
theorem dX11_ferry_221 : decode cX11_ferry 221 = .ok (.iconst 0, 1) := by decide +kernel
theorem dX11_ferry_222 : decode cX11_ferry 222 = .ok (.istore_n 2, 1) := by decide +kernel
theorem dX11_ferry_223 : decode cX11_ferry 223 = .ok (.iload_n 2, 1) := by decide +kernel
theorem dX11_ferry_224 : decode cX11_ferry 224 = .ok (.aload_n 0, 1) := by decide +kernel
theorem dX11_ferry_225 : decode cX11_ferry 225 = .ok (.getfield 20, 3) := by decide +kernel
theorem dX11_ferry_228 : decode cX11_ferry 228 = .ok (.iconst 3, 1) := by decide +kernel
theorem dX11_ferry_229 : decode cX11_ferry 229 = .ok (.iaload, 1) := by decide +kernel
theorem dX11_ferry_230 : decode cX11_ferry 230 = .ok (.if_icmp .ge 50, 3) := by decide +kernel
theorem dX11_ferry_233 : decode cX11_ferry 233 = .ok (.aload_n 0, 1) := by decide +kernel
theorem dX11_ferry_234 : decode cX11_ferry 234 = .ok (.getfield 26, 3) := by decide +kernel
theorem dX11_ferry_237 : decode cX11_ferry 237 = .ok (.iload_n 2, 1) := by decide +kernel
theorem dX11_ferry_238 : decode cX11_ferry 238 = .ok (.aload_n 0, 1) := by decide +kernel
theorem dX11_ferry_239 : decode cX11_ferry 239 = .ok (.getfield 20, 3) := by decide +kernel
theorem dX11_ferry_242 : decode cX11_ferry 242 = .ok (.bipush 89, 2) := by decide +kernel
theorem dX11_ferry_244 : decode cX11_ferry 244 = .ok (.iconst 4, 1) := by decide +kernel
theorem dX11_ferry_245 : decode cX11_ferry 245 = .ok (.iload_n 2, 1) := by decide +kernel
theorem dX11_ferry_246 : decode cX11_ferry 246 = .ok (.imul, 1) := by decide +kernel
theorem dX11_ferry_247 : decode cX11_ferry 247 = .ok (.iadd, 1) := by decide +kernel
theorem dX11_ferry_248 : decode cX11_ferry 248 = .ok (.iconst 1, 1) := by decide +kernel
theorem dX11_ferry_249 : decode cX11_ferry 249 = .ok (.iadd, 1) := by decide +kernel
theorem dX11_ferry_250 : decode cX11_ferry 250 = .ok (.iaload, 1) := by decide +kernel
theorem dX11_ferry_251 : decode cX11_ferry 251 = .ok (.iastore, 1) := by decide +kernel
theorem dX11_ferry_252 : decode cX11_ferry 252 = .ok (.aload_n 0, 1) := by decide +kernel
theorem dX11_ferry_253 : decode cX11_ferry 253 = .ok (.getfield 26, 3) := by decide +kernel
theorem dX11_ferry_256 : decode cX11_ferry 256 = .ok (.bipush 8, 2) := by decide +kernel
theorem dX11_ferry_258 : decode cX11_ferry 258 = .ok (.iload_n 2, 1) := by decide +kernel
theorem dX11_ferry_259 : decode cX11_ferry 259 = .ok (.iadd, 1) := by decide +kernel
theorem dX11_ferry_260 : decode cX11_ferry 260 = .ok (.aload_n 0, 1) := by decide +kernel
theorem dX11_ferry_261 : decode cX11_ferry 261 = .ok (.getfield 20, 3) := by decide +kernel
theorem dX11_ferry_264 : decode cX11_ferry 264 = .ok (.bipush 89, 2) := by decide +kernel
theorem dX11_ferry_266 : decode cX11_ferry 266 = .ok (.iconst 4, 1) := by decide +kernel
theorem dX11_ferry_267 : decode cX11_ferry 267 = .ok (.iload_n 2, 1) := by decide +kernel
theorem dX11_ferry_268 : decode cX11_ferry 268 = .ok (.imul, 1) := by decide +kernel
theorem dX11_ferry_269 : decode cX11_ferry 269 = .ok (.iadd, 1) := by decide +kernel
theorem dX11_ferry_270 : decode cX11_ferry 270 = .ok (.iconst 2, 1) := by decide +kernel
theorem dX11_ferry_271 : decode cX11_ferry 271 = .ok (.iadd, 1) := by decide +kernel
theorem dX11_ferry_272 : decode cX11_ferry 272 = .ok (.iaload, 1) := by decide +kernel
theorem dX11_ferry_273 : decode cX11_ferry 273 = .ok (.iastore, 1) := by decide +kernel
theorem dX11_ferry_274 : decode cX11_ferry 274 = .ok (.iinc 2 1, 3) := by decide +kernel
theorem dX11_ferry_277 : decode cX11_ferry 277 = .ok (.goto (-54), 3) := by decide +kernel
theorem dX11_ferry_280 : decode cX11_ferry 280 = .ok (.aload_n 0, 1) := by decide +kernel
theorem dX11_ferry_281 : decode cX11_ferry 281 = .ok (.iconst 1, 1) := by decide +kernel
theorem dX11_ferry_282 : decode cX11_ferry 282 = .ok (.putfield 181, 3) := by decide +kernel
theorem dX11_ferry_285 : decode cX11_ferry 285 = .ok (.aload_n 0, 1) := by decide +kernel
theorem dX11_ferry_286 : decode cX11_ferry 286 = .ok (.iconst 0, 1) := by decide +kernel
theorem dX11_ferry_287 : decode cX11_ferry 287 = .ok (.putfield 184, 3) := by decide +kernel
theorem dX11_ferry_290 : decode cX11_ferry 290 = .ok (.aload_n 0, 1) := by decide +kernel
theorem dX11_ferry_291 : decode cX11_ferry 291 = .ok (.iconst 0, 1) := by decide +kernel
theorem dX11_ferry_292 : decode cX11_ferry 292 = .ok (.putfield 187, 3) := by decide +kernel
theorem dX11_ferry_295 : decode cX11_ferry 295 = .ok (.aload_n 0, 1) := by decide +kernel
theorem dX11_ferry_296 : decode cX11_ferry 296 = .ok (.getfield 20, 3) := by decide +kernel
theorem dX11_ferry_299 : decode cX11_ferry 299 = .ok (.iconst 3, 1) := by decide +kernel
theorem dX11_ferry_300 : decode cX11_ferry 300 = .ok (.iaload, 1) := by decide +kernel
theorem dX11_ferry_301 : decode cX11_ferry 301 = .ok (.ireturn, 1) := by decide +kernel
theorem dX11_begins_0 : decode cX11_begins 0 = .ok (.aload_n 0, 1) := by decide +kernel
theorem dX11_begins_1 : decode cX11_begins 1 = .ok (.aload_n 1, 1) := by decide +kernel
theorem dX11_begins_2 : decode cX11_begins 2 = .ok (.invokevirtual 111, 3) := by decide +kernel
theorem dX11_begins_5 : decode cX11_begins 5 = .ok (.ifCond .ne 5, 3) := by decide +kernel
theorem dX11_begins_8 : decode cX11_begins 8 = .ok (.iconst 0, 1) := by decide +kernel
theorem dX11_begins_9 : decode cX11_begins 9 = .ok (.ireturn, 1) := by decide +kernel
theorem dX11_begins_10 : decode cX11_begins 10 = .ok (.iload_n 2, 1) := by decide +kernel
theorem dX11_begins_11 : decode cX11_begins 11 = .ok (.ifCond .ne 12, 3) := by decide +kernel
theorem dX11_begins_14 : decode cX11_begins 14 = .ok (.aload_n 0, 1) := by decide +kernel
theorem dX11_begins_15 : decode cX11_begins 15 = .ok (.iconst 5, 1) := by decide +kernel
theorem dX11_begins_16 : decode cX11_begins 16 = .ok (.aload_n 0, 1) := by decide +kernel
theorem dX11_begins_17 : decode cX11_begins 17 = .ok (.getfield 75, 3) := by decide +kernel
theorem dX11_begins_20 : decode cX11_begins 20 = .ok (.invokevirtual 121, 3) := by decide +kernel
theorem dX11_begins_23 : decode cX11_begins 23 = .ok (.aload_n 0, 1) := by decide +kernel
theorem dX11_begins_24 : decode cX11_begins 24 = .ok (.getfield 23, 3) := by decide +kernel
theorem dX11_begins_27 : decode cX11_begins 27 = .ok (.iconst 0, 1) := by decide +kernel
theorem dX11_begins_28 : decode cX11_begins 28 = .ok (.iaload, 1) := by decide +kernel
theorem dX11_begins_29 : decode cX11_begins 29 = .ok (.ifCond .ne 13, 3) := by decide +kernel
theorem dX11_begins_32 : decode cX11_begins 32 = .ok (.aload_n 0, 1) := by decide +kernel
theorem dX11_begins_33 : decode cX11_begins 33 = .ok (.bipush 6, 2) := by decide +kernel
theorem dX11_begins_35 : decode cX11_begins 35 = .ok (.aload_n 0, 1) := by decide +kernel
theorem dX11_begins_36 : decode cX11_begins 36 = .ok (.getfield 75, 3) := by decide +kernel
theorem dX11_begins_39 : decode cX11_begins 39 = .ok (.invokevirtual 121, 3) := by decide +kernel
theorem dX11_begins_42 : decode cX11_begins 42 = .ok (.aload_n 0, 1) := by decide +kernel
theorem dX11_begins_43 : decode cX11_begins 43 = .ok (.getfield 94, 3) := by decide +kernel
theorem dX11_begins_46 : decode cX11_begins 46 = .ok (.ifCond .ne 7, 3) := by decide +kernel
theorem dX11_begins_49 : decode cX11_begins 49 = .ok (.aload_n 0, 1) := by decide +kernel
theorem dX11_begins_50 : decode cX11_begins 50 = .ok (.invokevirtual 115, 3) := by decide +kernel
theorem dX11_begins_53 : decode cX11_begins 53 = .ok (.iconst 1, 1) := by decide +kernel
theorem dX11_begins_54 : decode cX11_begins 54 = .ok (.ireturn, 1) := by decide +kernel
theorem dX11_readLine_0 : decode cX11_readLine 0 = .ok (.aload_n 0, 1) := by decide +kernel
theorem dX11_readLine_1 : decode cX11_readLine 1 = .ok (.ldc 125, 2) := by decide +kernel
theorem dX11_readLine_3 : decode cX11_readLine 3 = .ok (.invokevirtual 111, 3) := by decide +kernel
theorem dX11_readLine_6 : decode cX11_readLine 6 = .ok (.ifCond .eq 10, 3) := by decide +kernel
theorem dX11_readLine_9 : decode cX11_readLine 9 = .ok (.aload_n 0, 1) := by decide +kernel
theorem dX11_readLine_10 : decode cX11_readLine 10 = .ok (.invokevirtual 190, 3) := by decide +kernel
theorem dX11_readLine_13 : decode cX11_readLine 13 = .ok (.goto 222, 3) := by decide +kernel
theorem dX11_readLine_16 : decode cX11_readLine 16 = .ok (.aload_n 0, 1) := by decide +kernel
theorem dX11_readLine_17 : decode cX11_readLine 17 = .ok (.ldc 127, 2) := by decide +kernel
theorem dX11_readLine_19 : decode cX11_readLine 19 = .ok (.aload_n 0, 1) := by decide +kernel
theorem dX11_readLine_20 : decode cX11_readLine 20 = .ok (.getfield 23, 3) := by decide +kernel
theorem dX11_readLine_23 : decode cX11_readLine 23 = .ok (.iconst 2, 1) := by decide +kernel
theorem dX11_readLine_24 : decode cX11_readLine 24 = .ok (.iaload, 1) := by decide +kernel
theorem dX11_readLine_25 : decode cX11_readLine 25 = .ok (.bipush 10, 2) := by decide +kernel
theorem dX11_readLine_27 : decode cX11_readLine 27 = .ok (.if_icmp .ge 7, 3) := by decide +kernel
theorem dX11_readLine_30 : decode cX11_readLine 30 = .ok (.iconst 1, 1) := by decide +kernel
theorem dX11_readLine_31 : decode cX11_readLine 31 = .ok (.goto 4, 3) := by decide +kernel
theorem dX11_readLine_34 : decode cX11_readLine 34 = .ok (.iconst 0, 1) := by decide +kernel
theorem dX11_readLine_35 : decode cX11_readLine 35 = .ok (.invokevirtual 193, 3) := by decide +kernel
theorem dX11_readLine_38 : decode cX11_readLine 38 = .ok (.ifCond .eq 10, 3) := by decide +kernel
theorem dX11_readLine_41 : decode cX11_readLine 41 = .ok (.aload_n 0, 1) := by decide +kernel
theorem dX11_readLine_42 : decode cX11_readLine 42 = .ok (.invokevirtual 197, 3) := by decide +kernel
theorem dX11_readLine_45 : decode cX11_readLine 45 = .ok (.goto 190, 3) := by decide +kernel
theorem dX11_readLine_48 : decode cX11_readLine 48 = .ok (.aload_n 0, 1) := by decide +kernel
theorem dX11_readLine_49 : decode cX11_readLine 49 = .ok (.ldc 129, 2) := by decide +kernel
theorem dX11_readLine_51 : decode cX11_readLine 51 = .ok (.aload_n 0, 1) := by decide +kernel
theorem dX11_readLine_52 : decode cX11_readLine 52 = .ok (.getfield 23, 3) := by decide +kernel
theorem dX11_readLine_55 : decode cX11_readLine 55 = .ok (.iconst 3, 1) := by decide +kernel
theorem dX11_readLine_56 : decode cX11_readLine 56 = .ok (.iaload, 1) := by decide +kernel
theorem dX11_readLine_57 : decode cX11_readLine 57 = .ok (.bipush 8, 2) := by decide +kernel
theorem dX11_readLine_59 : decode cX11_readLine 59 = .ok (.if_icmp .ge 7, 3) := by decide +kernel
theorem dX11_readLine_62 : decode cX11_readLine 62 = .ok (.iconst 1, 1) := by decide +kernel
theorem dX11_readLine_63 : decode cX11_readLine 63 = .ok (.goto 4, 3) := by decide +kernel
theorem dX11_readLine_66 : decode cX11_readLine 66 = .ok (.iconst 0, 1) := by decide +kernel
theorem dX11_readLine_67 : decode cX11_readLine 67 = .ok (.invokevirtual 193, 3) := by decide +kernel
theorem dX11_readLine_70 : decode cX11_readLine 70 = .ok (.ifCond .eq 10, 3) := by decide +kernel
theorem dX11_readLine_73 : decode cX11_readLine 73 = .ok (.aload_n 0, 1) := by decide +kernel
theorem dX11_readLine_74 : decode cX11_readLine 74 = .ok (.invokevirtual 200, 3) := by decide +kernel
theorem dX11_readLine_77 : decode cX11_readLine 77 = .ok (.goto 158, 3) := by decide +kernel
theorem dX11_readLine_80 : decode cX11_readLine 80 = .ok (.aload_n 0, 1) := by decide +kernel
theorem dX11_readLine_81 : decode cX11_readLine 81 = .ok (.ldc 131, 2) := by decide +kernel
theorem dX11_readLine_83 : decode cX11_readLine 83 = .ok (.aload_n 0, 1) := by decide +kernel
theorem dX11_readLine_84 : decode cX11_readLine 84 = .ok (.getfield 23, 3) := by decide +kernel
theorem dX11_readLine_87 : decode cX11_readLine 87 = .ok (.bipush 8, 2) := by decide +kernel
theorem dX11_readLine_89 : decode cX11_readLine 89 = .ok (.iaload, 1) := by decide +kernel
theorem dX11_readLine_90 : decode cX11_readLine 90 = .ok (.bipush 8, 2) := by decide +kernel
theorem dX11_readLine_92 : decode cX11_readLine 92 = .ok (.if_icmp .ge 7, 3) := by decide +kernel
theorem dX11_readLine_95 : decode cX11_readLine 95 = .ok (.iconst 1, 1) := by decide +kernel
theorem dX11_readLine_96 : decode cX11_readLine 96 = .ok (.goto 4, 3) := by decide +kernel
theorem dX11_readLine_99 : decode cX11_readLine 99 = .ok (.iconst 0, 1) := by decide +kernel
theorem dX11_readLine_100 : decode cX11_readLine 100 = .ok (.invokevirtual 193, 3) := by decide +kernel
theorem dX11_readLine_103 : decode cX11_readLine 103 = .ok (.ifCond .eq 10, 3) := by decide +kernel
theorem dX11_readLine_106 : decode cX11_readLine 106 = .ok (.aload_n 0, 1) := by decide +kernel
theorem dX11_readLine_107 : decode cX11_readLine 107 = .ok (.invokevirtual 203, 3) := by decide +kernel
theorem dX11_readLine_110 : decode cX11_readLine 110 = .ok (.goto 125, 3) := by decide +kernel
theorem dX11_readLine_113 : decode cX11_readLine 113 = .ok (.aload_n 0, 1) := by decide +kernel
theorem dX11_readLine_114 : decode cX11_readLine 114 = .ok (.ldc 133, 2) := by decide +kernel
theorem dX11_readLine_116 : decode cX11_readLine 116 = .ok (.aload_n 0, 1) := by decide +kernel
theorem dX11_readLine_117 : decode cX11_readLine 117 = .ok (.getfield 23, 3) := by decide +kernel
theorem dX11_readLine_120 : decode cX11_readLine 120 = .ok (.iconst 4, 1) := by decide +kernel
theorem dX11_readLine_121 : decode cX11_readLine 121 = .ok (.iaload, 1) := by decide +kernel
theorem dX11_readLine_122 : decode cX11_readLine 122 = .ok (.iconst 4, 1) := by decide +kernel
theorem dX11_readLine_123 : decode cX11_readLine 123 = .ok (.if_icmp .ge 7, 3) := by decide +kernel
theorem dX11_readLine_126 : decode cX11_readLine 126 = .ok (.iconst 1, 1) := by decide +kernel
theorem dX11_readLine_127 : decode cX11_readLine 127 = .ok (.goto 4, 3) := by decide +kernel
theorem dX11_readLine_130 : decode cX11_readLine 130 = .ok (.iconst 0, 1) := by decide +kernel
theorem dX11_readLine_131 : decode cX11_readLine 131 = .ok (.invokevirtual 193, 3) := by decide +kernel
theorem dX11_readLine_134 : decode cX11_readLine 134 = .ok (.ifCond .eq 10, 3) := by decide +kernel
theorem dX11_readLine_137 : decode cX11_readLine 137 = .ok (.aload_n 0, 1) := by decide +kernel
theorem dX11_readLine_138 : decode cX11_readLine 138 = .ok (.invokevirtual 206, 3) := by decide +kernel
theorem dX11_readLine_141 : decode cX11_readLine 141 = .ok (.goto 94, 3) := by decide +kernel
theorem dX11_readLine_144 : decode cX11_readLine 144 = .ok (.aload_n 0, 1) := by decide +kernel
theorem dX11_readLine_145 : decode cX11_readLine 145 = .ok (.ldc 135, 2) := by decide +kernel
theorem dX11_readLine_147 : decode cX11_readLine 147 = .ok (.aload_n 0, 1) := by decide +kernel
theorem dX11_readLine_148 : decode cX11_readLine 148 = .ok (.getfield 23, 3) := by decide +kernel
theorem dX11_readLine_151 : decode cX11_readLine 151 = .ok (.iconst 5, 1) := by decide +kernel
theorem dX11_readLine_152 : decode cX11_readLine 152 = .ok (.iaload, 1) := by decide +kernel
theorem dX11_readLine_153 : decode cX11_readLine 153 = .ok (.bipush 8, 2) := by decide +kernel
theorem dX11_readLine_155 : decode cX11_readLine 155 = .ok (.if_icmp .ge 7, 3) := by decide +kernel
theorem dX11_readLine_158 : decode cX11_readLine 158 = .ok (.iconst 1, 1) := by decide +kernel
theorem dX11_readLine_159 : decode cX11_readLine 159 = .ok (.goto 4, 3) := by decide +kernel
theorem dX11_readLine_162 : decode cX11_readLine 162 = .ok (.iconst 0, 1) := by decide +kernel
theorem dX11_readLine_163 : decode cX11_readLine 163 = .ok (.invokevirtual 193, 3) := by decide +kernel
theorem dX11_readLine_166 : decode cX11_readLine 166 = .ok (.ifCond .eq 10, 3) := by decide +kernel
theorem dX11_readLine_169 : decode cX11_readLine 169 = .ok (.aload_n 0, 1) := by decide +kernel
theorem dX11_readLine_170 : decode cX11_readLine 170 = .ok (.invokevirtual 209, 3) := by decide +kernel
theorem dX11_readLine_173 : decode cX11_readLine 173 = .ok (.goto 62, 3) := by decide +kernel
theorem dX11_readLine_176 : decode cX11_readLine 176 = .ok (.aload_n 0, 1) := by decide +kernel
theorem dX11_readLine_177 : decode cX11_readLine 177 = .ok (.ldc 137, 2) := by decide +kernel
theorem dX11_readLine_179 : decode cX11_readLine 179 = .ok (.iconst 1, 1) := by decide +kernel
theorem dX11_readLine_180 : decode cX11_readLine 180 = .ok (.invokevirtual 193, 3) := by decide +kernel
theorem dX11_readLine_183 : decode cX11_readLine 183 = .ok (.ifCond .eq 10, 3) := by decide +kernel
theorem dX11_readLine_186 : decode cX11_readLine 186 = .ok (.aload_n 0, 1) := by decide +kernel
theorem dX11_readLine_187 : decode cX11_readLine 187 = .ok (.invokevirtual 212, 3) := by decide +kernel
theorem dX11_readLine_190 : decode cX11_readLine 190 = .ok (.goto 45, 3) := by decide +kernel
theorem dX11_readLine_193 : decode cX11_readLine 193 = .ok (.aload_n 0, 1) := by decide +kernel
theorem dX11_readLine_194 : decode cX11_readLine 194 = .ok (.ldc 139, 2) := by decide +kernel
theorem dX11_readLine_196 : decode cX11_readLine 196 = .ok (.aload_n 0, 1) := by decide +kernel
theorem dX11_readLine_197 : decode cX11_readLine 197 = .ok (.getfield 23, 3) := by decide +kernel
theorem dX11_readLine_200 : decode cX11_readLine 200 = .ok (.bipush 7, 2) := by decide +kernel
theorem dX11_readLine_202 : decode cX11_readLine 202 = .ok (.iaload, 1) := by decide +kernel
theorem dX11_readLine_203 : decode cX11_readLine 203 = .ok (.bipush 6, 2) := by decide +kernel
theorem dX11_readLine_205 : decode cX11_readLine 205 = .ok (.if_icmp .ge 7, 3) := by decide +kernel
theorem dX11_readLine_208 : decode cX11_readLine 208 = .ok (.iconst 1, 1) := by decide +kernel
theorem dX11_readLine_209 : decode cX11_readLine 209 = .ok (.goto 4, 3) := by decide +kernel
theorem dX11_readLine_212 : decode cX11_readLine 212 = .ok (.iconst 0, 1) := by decide +kernel
theorem dX11_readLine_213 : decode cX11_readLine 213 = .ok (.invokevirtual 193, 3) := by decide +kernel
theorem dX11_readLine_216 : decode cX11_readLine 216 = .ok (.ifCond .eq 10, 3) := by decide +kernel
theorem dX11_readLine_219 : decode cX11_readLine 219 = .ok (.aload_n 0, 1) := by decide +kernel
theorem dX11_readLine_220 : decode cX11_readLine 220 = .ok (.invokevirtual 215, 3) := by decide +kernel
theorem dX11_readLine_223 : decode cX11_readLine 223 = .ok (.goto 12, 3) := by decide +kernel
theorem dX11_readLine_226 : decode cX11_readLine 226 = .ok (.aload_n 0, 1) := by decide +kernel
theorem dX11_readLine_227 : decode cX11_readLine 227 = .ok (.iconst 1, 1) := by decide +kernel
theorem dX11_readLine_228 : decode cX11_readLine 228 = .ok (.aload_n 0, 1) := by decide +kernel
theorem dX11_readLine_229 : decode cX11_readLine 229 = .ok (.getfield 75, 3) := by decide +kernel
theorem dX11_readLine_232 : decode cX11_readLine 232 = .ok (.invokevirtual 121, 3) := by decide +kernel
theorem dX11_readLine_235 : decode cX11_readLine 235 = .ok (.return_, 1) := by decide +kernel
theorem dX11_ferryLine_0 : decode cX11_ferryLine 0 = .ok (.aload_n 0, 1) := by decide +kernel
theorem dX11_ferryLine_1 : decode cX11_ferryLine 1 = .ok (.getfield 23, 3) := by decide +kernel
theorem dX11_ferryLine_4 : decode cX11_ferryLine 4 = .ok (.iconst 0, 1) := by decide +kernel
theorem dX11_ferryLine_5 : decode cX11_ferryLine 5 = .ok (.iaload, 1) := by decide +kernel
theorem dX11_ferryLine_6 : decode cX11_ferryLine 6 = .ok (.ifCond .le 12, 3) := by decide +kernel
theorem dX11_ferryLine_9 : decode cX11_ferryLine 9 = .ok (.aload_n 0, 1) := by decide +kernel
theorem dX11_ferryLine_10 : decode cX11_ferryLine 10 = .ok (.iconst 3, 1) := by decide +kernel
theorem dX11_ferryLine_11 : decode cX11_ferryLine 11 = .ok (.aload_n 0, 1) := by decide +kernel
theorem dX11_ferryLine_12 : decode cX11_ferryLine 12 = .ok (.getfield 75, 3) := by decide +kernel
theorem dX11_ferryLine_15 : decode cX11_ferryLine 15 = .ok (.invokevirtual 121, 3) := by decide +kernel
theorem dX11_ferryLine_18 : decode cX11_ferryLine 18 = .ok (.aload_n 0, 1) := by decide +kernel
theorem dX11_ferryLine_19 : decode cX11_ferryLine 19 = .ok (.getfield 94, 3) := by decide +kernel
theorem dX11_ferryLine_22 : decode cX11_ferryLine 22 = .ok (.ifCond .eq 4, 3) := by decide +kernel
theorem dX11_ferryLine_25 : decode cX11_ferryLine 25 = .ok (.return_, 1) := by decide +kernel
theorem dX11_ferryLine_26 : decode cX11_ferryLine 26 = .ok (.aload_n 0, 1) := by decide +kernel
theorem dX11_ferryLine_27 : decode cX11_ferryLine 27 = .ok (.invokevirtual 115, 3) := by decide +kernel
theorem dX11_ferryLine_30 : decode cX11_ferryLine 30 = .ok (.aload_n 0, 1) := by decide +kernel
theorem dX11_ferryLine_31 : decode cX11_ferryLine 31 = .ok (.ldc 218, 2) := by decide +kernel
theorem dX11_ferryLine_33 : decode cX11_ferryLine 33 = .ok (.iconst 2, 1) := by decide +kernel
theorem dX11_ferryLine_34 : decode cX11_ferryLine 34 = .ok (.iconst 5, 1) := by decide +kernel
theorem dX11_ferryLine_35 : decode cX11_ferryLine 35 = .ok (.invokevirtual 220, 3) := by decide +kernel
theorem dX11_ferryLine_38 : decode cX11_ferryLine 38 = .ok (.istore_n 1, 1) := by decide +kernel
theorem dX11_ferryLine_39 : decode cX11_ferryLine 39 = .ok (.aload_n 0, 1) := by decide +kernel
theorem dX11_ferryLine_40 : decode cX11_ferryLine 40 = .ok (.getfield 23, 3) := by decide +kernel
theorem dX11_ferryLine_43 : decode cX11_ferryLine 43 = .ok (.iconst 1, 1) := by decide +kernel
theorem dX11_ferryLine_44 : decode cX11_ferryLine 44 = .ok (.aload_n 0, 1) := by decide +kernel
theorem dX11_ferryLine_45 : decode cX11_ferryLine 45 = .ok (.ldc 224, 2) := by decide +kernel
theorem dX11_ferryLine_47 : decode cX11_ferryLine 47 = .ok (.iconst 1, 1) := by decide +kernel
theorem dX11_ferryLine_48 : decode cX11_ferryLine 48 = .ok (.iconst 3, 1) := by decide +kernel
theorem dX11_ferryLine_49 : decode cX11_ferryLine 49 = .ok (.invokevirtual 220, 3) := by decide +kernel
theorem dX11_ferryLine_52 : decode cX11_ferryLine 52 = .ok (.iastore, 1) := by decide +kernel
theorem dX11_ferryLine_53 : decode cX11_ferryLine 53 = .ok (.aload_n 0, 1) := by decide +kernel
theorem dX11_ferryLine_54 : decode cX11_ferryLine 54 = .ok (.getfield 94, 3) := by decide +kernel
theorem dX11_ferryLine_57 : decode cX11_ferryLine 57 = .ok (.ifCond .ne 10, 3) := by decide +kernel
theorem dX11_ferryLine_60 : decode cX11_ferryLine 60 = .ok (.aload_n 0, 1) := by decide +kernel
theorem dX11_ferryLine_61 : decode cX11_ferryLine 61 = .ok (.getfield 23, 3) := by decide +kernel
theorem dX11_ferryLine_64 : decode cX11_ferryLine 64 = .ok (.iconst 0, 1) := by decide +kernel
theorem dX11_ferryLine_65 : decode cX11_ferryLine 65 = .ok (.iload_n 1, 1) := by decide +kernel
theorem dX11_ferryLine_66 : decode cX11_ferryLine 66 = .ok (.iastore, 1) := by decide +kernel
theorem dX11_ferryLine_67 : decode cX11_ferryLine 67 = .ok (.return_, 1) := by decide +kernel
theorem dX11_areLetters_0 : decode cX11_areLetters 0 = .ok (.iconst 1, 1) := by decide +kernel
theorem dX11_areLetters_1 : decode cX11_areLetters 1 = .ok (.istore_n 1, 1) := by decide +kernel
theorem dX11_areLetters_2 : decode cX11_areLetters 2 = .ok (.iconst 0, 1) := by decide +kernel
theorem dX11_areLetters_3 : decode cX11_areLetters 3 = .ok (.istore_n 2, 1) := by decide +kernel
theorem dX11_areLetters_4 : decode cX11_areLetters 4 = .ok (.iload_n 2, 1) := by decide +kernel
theorem dX11_areLetters_5 : decode cX11_areLetters 5 = .ok (.aload_n 0, 1) := by decide +kernel
theorem dX11_areLetters_6 : decode cX11_areLetters 6 = .ok (.getfield 78, 3) := by decide +kernel
theorem dX11_areLetters_9 : decode cX11_areLetters 9 = .ok (.if_icmp .ge 35, 3) := by decide +kernel
theorem dX11_areLetters_12 : decode cX11_areLetters 12 = .ok (.iload_n 1, 1) := by decide +kernel
theorem dX11_areLetters_13 : decode cX11_areLetters 13 = .ok (.ifCond .eq 23, 3) := by decide +kernel
theorem dX11_areLetters_16 : decode cX11_areLetters 16 = .ok (.aload_n 0, 1) := by decide +kernel
theorem dX11_areLetters_17 : decode cX11_areLetters 17 = .ok (.getfield 17, 3) := by decide +kernel
theorem dX11_areLetters_20 : decode cX11_areLetters 20 = .ok (.iload_n 2, 1) := by decide +kernel
theorem dX11_areLetters_21 : decode cX11_areLetters 21 = .ok (.iaload, 1) := by decide +kernel
theorem dX11_areLetters_22 : decode cX11_areLetters 22 = .ok (.bipush 97, 2) := by decide +kernel
theorem dX11_areLetters_24 : decode cX11_areLetters 24 = .ok (.bipush 104, 2) := by decide +kernel
theorem dX11_areLetters_26 : decode cX11_areLetters 26 = .ok (.invokestatic 147, 3) := by decide +kernel
theorem dX11_areLetters_29 : decode cX11_areLetters 29 = .ok (.ifCond .eq 7, 3) := by decide +kernel
theorem dX11_areLetters_32 : decode cX11_areLetters 32 = .ok (.iconst 1, 1) := by decide +kernel
theorem dX11_areLetters_33 : decode cX11_areLetters 33 = .ok (.goto 4, 3) := by decide +kernel
theorem dX11_areLetters_36 : decode cX11_areLetters 36 = .ok (.iconst 0, 1) := by decide +kernel
theorem dX11_areLetters_37 : decode cX11_areLetters 37 = .ok (.istore_n 1, 1) := by decide +kernel
theorem dX11_areLetters_38 : decode cX11_areLetters 38 = .ok (.iinc 2 1, 3) := by decide +kernel
theorem dX11_areLetters_41 : decode cX11_areLetters 41 = .ok (.goto (-37), 3) := by decide +kernel
theorem dX11_areLetters_44 : decode cX11_areLetters 44 = .ok (.iload_n 1, 1) := by decide +kernel
theorem dX11_areLetters_45 : decode cX11_areLetters 45 = .ok (.ireturn, 1) := by decide +kernel
theorem dX11_wordLine_0 : decode cX11_wordLine 0 = .ok (.aload_n 0, 1) := by decide +kernel
theorem dX11_wordLine_1 : decode cX11_wordLine 1 = .ok (.getfield 94, 3) := by decide +kernel
theorem dX11_wordLine_4 : decode cX11_wordLine 4 = .ok (.ifCond .eq 4, 3) := by decide +kernel
theorem dX11_wordLine_7 : decode cX11_wordLine 7 = .ok (.return_, 1) := by decide +kernel
theorem dX11_wordLine_8 : decode cX11_wordLine 8 = .ok (.bipush 9, 2) := by decide +kernel
theorem dX11_wordLine_10 : decode cX11_wordLine 10 = .ok (.bipush 8, 2) := by decide +kernel
theorem dX11_wordLine_12 : decode cX11_wordLine 12 = .ok (.aload_n 0, 1) := by decide +kernel
theorem dX11_wordLine_13 : decode cX11_wordLine 13 = .ok (.getfield 23, 3) := by decide +kernel
theorem dX11_wordLine_16 : decode cX11_wordLine 16 = .ok (.iconst 2, 1) := by decide +kernel
theorem dX11_wordLine_17 : decode cX11_wordLine 17 = .ok (.iaload, 1) := by decide +kernel
theorem dX11_wordLine_18 : decode cX11_wordLine 18 = .ok (.imul, 1) := by decide +kernel
theorem dX11_wordLine_19 : decode cX11_wordLine 19 = .ok (.iadd, 1) := by decide +kernel
theorem dX11_wordLine_20 : decode cX11_wordLine 20 = .ok (.istore_n 1, 1) := by decide +kernel
theorem dX11_wordLine_21 : decode cX11_wordLine 21 = .ok (.aload_n 0, 1) := by decide +kernel
theorem dX11_wordLine_22 : decode cX11_wordLine 22 = .ok (.aload_n 0, 1) := by decide +kernel
theorem dX11_wordLine_23 : decode cX11_wordLine 23 = .ok (.getfield 23, 3) := by decide +kernel
theorem dX11_wordLine_26 : decode cX11_wordLine 26 = .ok (.iconst 2, 1) := by decide +kernel
theorem dX11_wordLine_27 : decode cX11_wordLine 27 = .ok (.iaload, 1) := by decide +kernel
theorem dX11_wordLine_28 : decode cX11_wordLine 28 = .ok (.invokevirtual 226, 3) := by decide +kernel
theorem dX11_wordLine_31 : decode cX11_wordLine 31 = .ok (.aload_n 0, 1) := by decide +kernel
theorem dX11_wordLine_32 : decode cX11_wordLine 32 = .ok (.ldc 230, 2) := by decide +kernel
theorem dX11_wordLine_34 : decode cX11_wordLine 34 = .ok (.invokevirtual 161, 3) := by decide +kernel
theorem dX11_wordLine_37 : decode cX11_wordLine 37 = .ok (.aload_n 0, 1) := by decide +kernel
theorem dX11_wordLine_38 : decode cX11_wordLine 38 = .ok (.getfield 94, 3) := by decide +kernel
theorem dX11_wordLine_41 : decode cX11_wordLine 41 = .ok (.ifCond .ne 20, 3) := by decide +kernel
theorem dX11_wordLine_44 : decode cX11_wordLine 44 = .ok (.aload_n 0, 1) := by decide +kernel
theorem dX11_wordLine_45 : decode cX11_wordLine 45 = .ok (.getfield 84, 3) := by decide +kernel
theorem dX11_wordLine_48 : decode cX11_wordLine 48 = .ok (.iconst 2, 1) := by decide +kernel
theorem dX11_wordLine_49 : decode cX11_wordLine 49 = .ok (.if_icmp .eq 12, 3) := by decide +kernel
theorem dX11_wordLine_52 : decode cX11_wordLine 52 = .ok (.aload_n 0, 1) := by decide +kernel
theorem dX11_wordLine_53 : decode cX11_wordLine 53 = .ok (.iconst 1, 1) := by decide +kernel
theorem dX11_wordLine_54 : decode cX11_wordLine 54 = .ok (.aload_n 0, 1) := by decide +kernel
theorem dX11_wordLine_55 : decode cX11_wordLine 55 = .ok (.getfield 75, 3) := by decide +kernel
theorem dX11_wordLine_58 : decode cX11_wordLine 58 = .ok (.invokevirtual 121, 3) := by decide +kernel
theorem dX11_wordLine_61 : decode cX11_wordLine 61 = .ok (.aload_n 0, 1) := by decide +kernel
theorem dX11_wordLine_62 : decode cX11_wordLine 62 = .ok (.getfield 94, 3) := by decide +kernel
theorem dX11_wordLine_65 : decode cX11_wordLine 65 = .ok (.ifCond .ne 33, 3) := by decide +kernel
theorem dX11_wordLine_68 : decode cX11_wordLine 68 = .ok (.aload_n 0, 1) := by decide +kernel
theorem dX11_wordLine_69 : decode cX11_wordLine 69 = .ok (.getfield 78, 3) := by decide +kernel
theorem dX11_wordLine_72 : decode cX11_wordLine 72 = .ok (.iconst 2, 1) := by decide +kernel
theorem dX11_wordLine_73 : decode cX11_wordLine 73 = .ok (.bipush 6, 2) := by decide +kernel
theorem dX11_wordLine_75 : decode cX11_wordLine 75 = .ok (.invokestatic 147, 3) := by decide +kernel
theorem dX11_wordLine_78 : decode cX11_wordLine 78 = .ok (.ifCond .eq 10, 3) := by decide +kernel
theorem dX11_wordLine_81 : decode cX11_wordLine 81 = .ok (.aload_n 0, 1) := by decide +kernel
theorem dX11_wordLine_82 : decode cX11_wordLine 82 = .ok (.invokevirtual 232, 3) := by decide +kernel
theorem dX11_wordLine_85 : decode cX11_wordLine 85 = .ok (.ifCond .ne 13, 3) := by decide +kernel
theorem dX11_wordLine_88 : decode cX11_wordLine 88 = .ok (.aload_n 0, 1) := by decide +kernel
theorem dX11_wordLine_89 : decode cX11_wordLine 89 = .ok (.bipush 7, 2) := by decide +kernel
theorem dX11_wordLine_91 : decode cX11_wordLine 91 = .ok (.aload_n 0, 1) := by decide +kernel
theorem dX11_wordLine_92 : decode cX11_wordLine 92 = .ok (.getfield 75, 3) := by decide +kernel
theorem dX11_wordLine_95 : decode cX11_wordLine 95 = .ok (.invokevirtual 121, 3) := by decide +kernel
theorem dX11_wordLine_98 : decode cX11_wordLine 98 = .ok (.aload_n 0, 1) := by decide +kernel
theorem dX11_wordLine_99 : decode cX11_wordLine 99 = .ok (.getfield 94, 3) := by decide +kernel
theorem dX11_wordLine_102 : decode cX11_wordLine 102 = .ok (.ifCond .eq 4, 3) := by decide +kernel
theorem dX11_wordLine_105 : decode cX11_wordLine 105 = .ok (.return_, 1) := by decide +kernel
theorem dX11_wordLine_106 : decode cX11_wordLine 106 = .ok (.aload_n 0, 1) := by decide +kernel
theorem dX11_wordLine_107 : decode cX11_wordLine 107 = .ok (.getfield 23, 3) := by decide +kernel
theorem dX11_wordLine_110 : decode cX11_wordLine 110 = .ok (.iload_n 1, 1) := by decide +kernel
theorem dX11_wordLine_111 : decode cX11_wordLine 111 = .ok (.iconst 1, 1) := by decide +kernel
theorem dX11_wordLine_112 : decode cX11_wordLine 112 = .ok (.iadd, 1) := by decide +kernel
theorem dX11_wordLine_113 : decode cX11_wordLine 113 = .ok (.aload_n 0, 1) := by decide +kernel
theorem dX11_wordLine_114 : decode cX11_wordLine 114 = .ok (.getfield 78, 3) := by decide +kernel
theorem dX11_wordLine_117 : decode cX11_wordLine 117 = .ok (.iastore, 1) := by decide +kernel
theorem dX11_wordLine_118 : decode cX11_wordLine 118 = .ok (.iconst 0, 1) := by decide +kernel
theorem dX11_wordLine_119 : decode cX11_wordLine 119 = .ok (.istore_n 2, 1) := by decide +kernel
theorem dX11_wordLine_120 : decode cX11_wordLine 120 = .ok (.iload_n 2, 1) := by decide +kernel
theorem dX11_wordLine_121 : decode cX11_wordLine 121 = .ok (.aload_n 0, 1) := by decide +kernel
theorem dX11_wordLine_122 : decode cX11_wordLine 122 = .ok (.getfield 78, 3) := by decide +kernel
theorem dX11_wordLine_125 : decode cX11_wordLine 125 = .ok (.if_icmp .ge 28, 3) := by decide +kernel
theorem dX11_wordLine_128 : decode cX11_wordLine 128 = .ok (.aload_n 0, 1) := by decide +kernel
theorem dX11_wordLine_129 : decode cX11_wordLine 129 = .ok (.getfield 23, 3) := by decide +kernel
theorem dX11_wordLine_132 : decode cX11_wordLine 132 = .ok (.iload_n 1, 1) := by decide +kernel
theorem dX11_wordLine_133 : decode cX11_wordLine 133 = .ok (.iconst 2, 1) := by decide +kernel
theorem dX11_wordLine_134 : decode cX11_wordLine 134 = .ok (.iadd, 1) := by decide +kernel
theorem dX11_wordLine_135 : decode cX11_wordLine 135 = .ok (.iload_n 2, 1) := by decide +kernel
theorem dX11_wordLine_136 : decode cX11_wordLine 136 = .ok (.iadd, 1) := by decide +kernel
theorem dX11_wordLine_137 : decode cX11_wordLine 137 = .ok (.aload_n 0, 1) := by decide +kernel
theorem dX11_wordLine_138 : decode cX11_wordLine 138 = .ok (.getfield 17, 3) := by decide +kernel
theorem dX11_wordLine_141 : decode cX11_wordLine 141 = .ok (.iload_n 2, 1) := by decide +kernel
theorem dX11_wordLine_142 : decode cX11_wordLine 142 = .ok (.iaload, 1) := by decide +kernel
theorem dX11_wordLine_143 : decode cX11_wordLine 143 = .ok (.bipush 97, 2) := by decide +kernel
theorem dX11_wordLine_145 : decode cX11_wordLine 145 = .ok (.isub, 1) := by decide +kernel
theorem dX11_wordLine_146 : decode cX11_wordLine 146 = .ok (.iastore, 1) := by decide +kernel
theorem dX11_wordLine_147 : decode cX11_wordLine 147 = .ok (.iinc 2 1, 3) := by decide +kernel
theorem dX11_wordLine_150 : decode cX11_wordLine 150 = .ok (.goto (-30), 3) := by decide +kernel
theorem dX11_wordLine_153 : decode cX11_wordLine 153 = .ok (.aload_n 0, 1) := by decide +kernel
theorem dX11_wordLine_154 : decode cX11_wordLine 154 = .ok (.invokevirtual 115, 3) := by decide +kernel
theorem dX11_wordLine_157 : decode cX11_wordLine 157 = .ok (.aload_n 0, 1) := by decide +kernel
theorem dX11_wordLine_158 : decode cX11_wordLine 158 = .ok (.getfield 23, 3) := by decide +kernel
theorem dX11_wordLine_161 : decode cX11_wordLine 161 = .ok (.iload_n 1, 1) := by decide +kernel
theorem dX11_wordLine_162 : decode cX11_wordLine 162 = .ok (.aload_n 0, 1) := by decide +kernel
theorem dX11_wordLine_163 : decode cX11_wordLine 163 = .ok (.ldc 236, 2) := by decide +kernel
theorem dX11_wordLine_165 : decode cX11_wordLine 165 = .ok (.iconst 0, 1) := by decide +kernel
theorem dX11_wordLine_166 : decode cX11_wordLine 166 = .ok (.bipush 99, 2) := by decide +kernel
theorem dX11_wordLine_168 : decode cX11_wordLine 168 = .ok (.invokevirtual 220, 3) := by decide +kernel
theorem dX11_wordLine_171 : decode cX11_wordLine 171 = .ok (.iastore, 1) := by decide +kernel
theorem dX11_wordLine_172 : decode cX11_wordLine 172 = .ok (.aload_n 0, 1) := by decide +kernel
theorem dX11_wordLine_173 : decode cX11_wordLine 173 = .ok (.getfield 94, 3) := by decide +kernel
theorem dX11_wordLine_176 : decode cX11_wordLine 176 = .ok (.ifCond .ne 13, 3) := by decide +kernel
theorem dX11_wordLine_179 : decode cX11_wordLine 179 = .ok (.aload_n 0, 1) := by decide +kernel
theorem dX11_wordLine_180 : decode cX11_wordLine 180 = .ok (.getfield 23, 3) := by decide +kernel
theorem dX11_wordLine_183 : decode cX11_wordLine 183 = .ok (.iconst 2, 1) := by decide +kernel
theorem dX11_wordLine_184 : decode cX11_wordLine 184 = .ok (.dup2, 1) := by decide +kernel
theorem dX11_wordLine_185 : decode cX11_wordLine 185 = .ok (.iaload, 1) := by decide +kernel
theorem dX11_wordLine_186 : decode cX11_wordLine 186 = .ok (.iconst 1, 1) := by decide +kernel
theorem dX11_wordLine_187 : decode cX11_wordLine 187 = .ok (.iadd, 1) := by decide +kernel
theorem dX11_wordLine_188 : decode cX11_wordLine 188 = .ok (.iastore, 1) := by decide +kernel
theorem dX11_wordLine_189 : decode cX11_wordLine 189 = .ok (.return_, 1) := by decide +kernel
theorem dX11_personLine_0 : decode cX11_personLine 0 = .ok (.aload_n 0, 1) := by decide +kernel
theorem dX11_personLine_1 : decode cX11_personLine 1 = .ok (.getfield 94, 3) := by decide +kernel
theorem dX11_personLine_4 : decode cX11_personLine 4 = .ok (.ifCond .eq 4, 3) := by decide +kernel
theorem dX11_personLine_7 : decode cX11_personLine 7 = .ok (.return_, 1) := by decide +kernel
theorem dX11_personLine_8 : decode cX11_personLine 8 = .ok (.bipush 89, 2) := by decide +kernel
theorem dX11_personLine_10 : decode cX11_personLine 10 = .ok (.iconst 4, 1) := by decide +kernel
theorem dX11_personLine_11 : decode cX11_personLine 11 = .ok (.aload_n 0, 1) := by decide +kernel
theorem dX11_personLine_12 : decode cX11_personLine 12 = .ok (.getfield 23, 3) := by decide +kernel
theorem dX11_personLine_15 : decode cX11_personLine 15 = .ok (.iconst 3, 1) := by decide +kernel
theorem dX11_personLine_16 : decode cX11_personLine 16 = .ok (.iaload, 1) := by decide +kernel
theorem dX11_personLine_17 : decode cX11_personLine 17 = .ok (.imul, 1) := by decide +kernel
theorem dX11_personLine_18 : decode cX11_personLine 18 = .ok (.iadd, 1) := by decide +kernel
theorem dX11_personLine_19 : decode cX11_personLine 19 = .ok (.istore_n 1, 1) := by decide +kernel
theorem dX11_personLine_20 : decode cX11_personLine 20 = .ok (.aload_n 0, 1) := by decide +kernel
theorem dX11_personLine_21 : decode cX11_personLine 21 = .ok (.bipush 10, 2) := by decide +kernel
theorem dX11_personLine_23 : decode cX11_personLine 23 = .ok (.aload_n 0, 1) := by decide +kernel
theorem dX11_personLine_24 : decode cX11_personLine 24 = .ok (.getfield 23, 3) := by decide +kernel
theorem dX11_personLine_27 : decode cX11_personLine 27 = .ok (.iconst 3, 1) := by decide +kernel
theorem dX11_personLine_28 : decode cX11_personLine 28 = .ok (.iaload, 1) := by decide +kernel
theorem dX11_personLine_29 : decode cX11_personLine 29 = .ok (.iadd, 1) := by decide +kernel
theorem dX11_personLine_30 : decode cX11_personLine 30 = .ok (.invokevirtual 226, 3) := by decide +kernel
theorem dX11_personLine_33 : decode cX11_personLine 33 = .ok (.aload_n 0, 1) := by decide +kernel
theorem dX11_personLine_34 : decode cX11_personLine 34 = .ok (.getfield 94, 3) := by decide +kernel
theorem dX11_personLine_37 : decode cX11_personLine 37 = .ok (.ifCond .ne 21, 3) := by decide +kernel
theorem dX11_personLine_40 : decode cX11_personLine 40 = .ok (.aload_n 0, 1) := by decide +kernel
theorem dX11_personLine_41 : decode cX11_personLine 41 = .ok (.getfield 23, 3) := by decide +kernel
theorem dX11_personLine_44 : decode cX11_personLine 44 = .ok (.iload_n 1, 1) := by decide +kernel
theorem dX11_personLine_45 : decode cX11_personLine 45 = .ok (.aload_n 0, 1) := by decide +kernel
theorem dX11_personLine_46 : decode cX11_personLine 46 = .ok (.ldc 238, 2) := by decide +kernel
theorem dX11_personLine_48 : decode cX11_personLine 48 = .ok (.ldc 240, 2) := by decide +kernel
theorem dX11_personLine_50 : decode cX11_personLine 50 = .ok (.ldc 242, 2) := by decide +kernel
theorem dX11_personLine_52 : decode cX11_personLine 52 = .ok (.ldc 244, 2) := by decide +kernel
theorem dX11_personLine_54 : decode cX11_personLine 54 = .ok (.invokevirtual 246, 3) := by decide +kernel
theorem dX11_personLine_57 : decode cX11_personLine 57 = .ok (.iastore, 1) := by decide +kernel
theorem dX11_personLine_58 : decode cX11_personLine 58 = .ok (.aload_n 0, 1) := by decide +kernel
theorem dX11_personLine_59 : decode cX11_personLine 59 = .ok (.ldc 250, 2) := by decide +kernel
theorem dX11_personLine_61 : decode cX11_personLine 61 = .ok (.invokevirtual 161, 3) := by decide +kernel
theorem dX11_personLine_64 : decode cX11_personLine 64 = .ok (.aload_n 0, 1) := by decide +kernel
theorem dX11_personLine_65 : decode cX11_personLine 65 = .ok (.getfield 94, 3) := by decide +kernel
theorem dX11_personLine_68 : decode cX11_personLine 68 = .ok (.ifCond .ne 25, 3) := by decide +kernel
theorem dX11_personLine_71 : decode cX11_personLine 71 = .ok (.aload_n 0, 1) := by decide +kernel
theorem dX11_personLine_72 : decode cX11_personLine 72 = .ok (.getfield 23, 3) := by decide +kernel
theorem dX11_personLine_75 : decode cX11_personLine 75 = .ok (.iload_n 1, 1) := by decide +kernel
theorem dX11_personLine_76 : decode cX11_personLine 76 = .ok (.iconst 1, 1) := by decide +kernel
theorem dX11_personLine_77 : decode cX11_personLine 77 = .ok (.iadd, 1) := by decide +kernel
theorem dX11_personLine_78 : decode cX11_personLine 78 = .ok (.aload_n 0, 1) := by decide +kernel
theorem dX11_personLine_79 : decode cX11_personLine 79 = .ok (.ldc 252, 2) := by decide +kernel
theorem dX11_personLine_81 : decode cX11_personLine 81 = .ok (.ldc 254, 2) := by decide +kernel
theorem dX11_personLine_83 : decode cX11_personLine 83 = .ok (.ldc_w 256, 3) := by decide +kernel
theorem dX11_personLine_86 : decode cX11_personLine 86 = .ok (.ldc_w 256, 3) := by decide +kernel
theorem dX11_personLine_89 : decode cX11_personLine 89 = .ok (.invokevirtual 246, 3) := by decide +kernel
theorem dX11_personLine_92 : decode cX11_personLine 92 = .ok (.iastore, 1) := by decide +kernel
theorem dX11_personLine_93 : decode cX11_personLine 93 = .ok (.aload_n 0, 1) := by decide +kernel
theorem dX11_personLine_94 : decode cX11_personLine 94 = .ok (.ldc_w 258, 3) := by decide +kernel
theorem dX11_personLine_97 : decode cX11_personLine 97 = .ok (.invokevirtual 161, 3) := by decide +kernel
theorem dX11_personLine_100 : decode cX11_personLine 100 = .ok (.aload_n 0, 1) := by decide +kernel
theorem dX11_personLine_101 : decode cX11_personLine 101 = .ok (.invokevirtual 260, 3) := by decide +kernel
theorem dX11_personLine_104 : decode cX11_personLine 104 = .ok (.istore_n 2, 1) := by decide +kernel
theorem dX11_personLine_105 : decode cX11_personLine 105 = .ok (.aload_n 0, 1) := by decide +kernel
theorem dX11_personLine_106 : decode cX11_personLine 106 = .ok (.getfield 94, 3) := by decide +kernel
theorem dX11_personLine_109 : decode cX11_personLine 109 = .ok (.ifCond .eq 4, 3) := by decide +kernel
theorem dX11_personLine_112 : decode cX11_personLine 112 = .ok (.return_, 1) := by decide +kernel
theorem dX11_personLine_113 : decode cX11_personLine 113 = .ok (.aload_n 0, 1) := by decide +kernel
theorem dX11_personLine_114 : decode cX11_personLine 114 = .ok (.invokevirtual 115, 3) := by decide +kernel
theorem dX11_personLine_117 : decode cX11_personLine 117 = .ok (.aload_n 0, 1) := by decide +kernel
theorem dX11_personLine_118 : decode cX11_personLine 118 = .ok (.getfield 23, 3) := by decide +kernel
theorem dX11_personLine_121 : decode cX11_personLine 121 = .ok (.iload_n 1, 1) := by decide +kernel
theorem dX11_personLine_122 : decode cX11_personLine 122 = .ok (.iconst 2, 1) := by decide +kernel
theorem dX11_personLine_123 : decode cX11_personLine 123 = .ok (.iadd, 1) := by decide +kernel
theorem dX11_personLine_124 : decode cX11_personLine 124 = .ok (.iconst 1, 1) := by decide +kernel
theorem dX11_personLine_125 : decode cX11_personLine 125 = .ok (.iload_n 2, 1) := by decide +kernel
theorem dX11_personLine_126 : decode cX11_personLine 126 = .ok (.ishl, 1) := by decide +kernel
theorem dX11_personLine_127 : decode cX11_personLine 127 = .ok (.iastore, 1) := by decide +kernel
theorem dX11_personLine_128 : decode cX11_personLine 128 = .ok (.aload_n 0, 1) := by decide +kernel
theorem dX11_personLine_129 : decode cX11_personLine 129 = .ok (.getfield 23, 3) := by decide +kernel
theorem dX11_personLine_132 : decode cX11_personLine 132 = .ok (.iload_n 1, 1) := by decide +kernel
theorem dX11_personLine_133 : decode cX11_personLine 133 = .ok (.iconst 3, 1) := by decide +kernel
theorem dX11_personLine_134 : decode cX11_personLine 134 = .ok (.iadd, 1) := by decide +kernel
theorem dX11_personLine_135 : decode cX11_personLine 135 = .ok (.iconst 0, 1) := by decide +kernel
theorem dX11_personLine_136 : decode cX11_personLine 136 = .ok (.iastore, 1) := by decide +kernel
theorem dX11_personLine_137 : decode cX11_personLine 137 = .ok (.aload_n 0, 1) := by decide +kernel
theorem dX11_personLine_138 : decode cX11_personLine 138 = .ok (.getfield 23, 3) := by decide +kernel
theorem dX11_personLine_141 : decode cX11_personLine 141 = .ok (.iconst 3, 1) := by decide +kernel
theorem dX11_personLine_142 : decode cX11_personLine 142 = .ok (.dup2, 1) := by decide +kernel
theorem dX11_personLine_143 : decode cX11_personLine 143 = .ok (.iaload, 1) := by decide +kernel
theorem dX11_personLine_144 : decode cX11_personLine 144 = .ok (.iconst 1, 1) := by decide +kernel
theorem dX11_personLine_145 : decode cX11_personLine 145 = .ok (.iadd, 1) := by decide +kernel
theorem dX11_personLine_146 : decode cX11_personLine 146 = .ok (.iastore, 1) := by decide +kernel
theorem dX11_personLine_147 : decode cX11_personLine 147 = .ok (.return_, 1) := by decide +kernel
theorem dX11_knowsLine_0 : decode cX11_knowsLine 0 = .ok (.aload_n 0, 1) := by decide +kernel
theorem dX11_knowsLine_1 : decode cX11_knowsLine 1 = .ok (.getfield 94, 3) := by decide +kernel
theorem dX11_knowsLine_4 : decode cX11_knowsLine 4 = .ok (.ifCond .eq 4, 3) := by decide +kernel
theorem dX11_knowsLine_7 : decode cX11_knowsLine 7 = .ok (.return_, 1) := by decide +kernel
theorem dX11_knowsLine_8 : decode cX11_knowsLine 8 = .ok (.aload_n 0, 1) := by decide +kernel
theorem dX11_knowsLine_9 : decode cX11_knowsLine 9 = .ok (.invokevirtual 263, 3) := by decide +kernel
theorem dX11_knowsLine_12 : decode cX11_knowsLine 12 = .ok (.istore_n 1, 1) := by decide +kernel
theorem dX11_knowsLine_13 : decode cX11_knowsLine 13 = .ok (.aload_n 0, 1) := by decide +kernel
theorem dX11_knowsLine_14 : decode cX11_knowsLine 14 = .ok (.invokevirtual 260, 3) := by decide +kernel
theorem dX11_knowsLine_17 : decode cX11_knowsLine 17 = .ok (.istore_n 2, 1) := by decide +kernel
theorem dX11_knowsLine_18 : decode cX11_knowsLine 18 = .ok (.aload_n 0, 1) := by decide +kernel
theorem dX11_knowsLine_19 : decode cX11_knowsLine 19 = .ok (.getfield 94, 3) := by decide +kernel
theorem dX11_knowsLine_22 : decode cX11_knowsLine 22 = .ok (.ifCond .ne 32, 3) := by decide +kernel
theorem dX11_knowsLine_25 : decode cX11_knowsLine 25 = .ok (.aload_n 0, 1) := by decide +kernel
theorem dX11_knowsLine_26 : decode cX11_knowsLine 26 = .ok (.getfield 23, 3) := by decide +kernel
theorem dX11_knowsLine_29 : decode cX11_knowsLine 29 = .ok (.bipush 89, 2) := by decide +kernel
theorem dX11_knowsLine_31 : decode cX11_knowsLine 31 = .ok (.iconst 4, 1) := by decide +kernel
theorem dX11_knowsLine_32 : decode cX11_knowsLine 32 = .ok (.iload_n 1, 1) := by decide +kernel
theorem dX11_knowsLine_33 : decode cX11_knowsLine 33 = .ok (.imul, 1) := by decide +kernel
theorem dX11_knowsLine_34 : decode cX11_knowsLine 34 = .ok (.iadd, 1) := by decide +kernel
theorem dX11_knowsLine_35 : decode cX11_knowsLine 35 = .ok (.iconst 2, 1) := by decide +kernel
theorem dX11_knowsLine_36 : decode cX11_knowsLine 36 = .ok (.iadd, 1) := by decide +kernel
theorem dX11_knowsLine_37 : decode cX11_knowsLine 37 = .ok (.iaload, 1) := by decide +kernel
theorem dX11_knowsLine_38 : decode cX11_knowsLine 38 = .ok (.iload_n 2, 1) := by decide +kernel
theorem dX11_knowsLine_39 : decode cX11_knowsLine 39 = .ok (.invokestatic 266, 3) := by decide +kernel
theorem dX11_knowsLine_42 : decode cX11_knowsLine 42 = .ok (.ifCond .eq 12, 3) := by decide +kernel
theorem dX11_knowsLine_45 : decode cX11_knowsLine 45 = .ok (.aload_n 0, 1) := by decide +kernel
theorem dX11_knowsLine_46 : decode cX11_knowsLine 46 = .ok (.iconst 3, 1) := by decide +kernel
theorem dX11_knowsLine_47 : decode cX11_knowsLine 47 = .ok (.aload_n 0, 1) := by decide +kernel
theorem dX11_knowsLine_48 : decode cX11_knowsLine 48 = .ok (.getfield 75, 3) := by decide +kernel
theorem dX11_knowsLine_51 : decode cX11_knowsLine 51 = .ok (.invokevirtual 121, 3) := by decide +kernel
theorem dX11_knowsLine_54 : decode cX11_knowsLine 54 = .ok (.aload_n 0, 1) := by decide +kernel
theorem dX11_knowsLine_55 : decode cX11_knowsLine 55 = .ok (.getfield 94, 3) := by decide +kernel
theorem dX11_knowsLine_58 : decode cX11_knowsLine 58 = .ok (.ifCond .eq 4, 3) := by decide +kernel
theorem dX11_knowsLine_61 : decode cX11_knowsLine 61 = .ok (.return_, 1) := by decide +kernel
theorem dX11_knowsLine_62 : decode cX11_knowsLine 62 = .ok (.aload_n 0, 1) := by decide +kernel
theorem dX11_knowsLine_63 : decode cX11_knowsLine 63 = .ok (.invokevirtual 115, 3) := by decide +kernel
theorem dX11_knowsLine_66 : decode cX11_knowsLine 66 = .ok (.aload_n 0, 1) := by decide +kernel
theorem dX11_knowsLine_67 : decode cX11_knowsLine 67 = .ok (.getfield 23, 3) := by decide +kernel
theorem dX11_knowsLine_70 : decode cX11_knowsLine 70 = .ok (.bipush 89, 2) := by decide +kernel
theorem dX11_knowsLine_72 : decode cX11_knowsLine 72 = .ok (.iconst 4, 1) := by decide +kernel
theorem dX11_knowsLine_73 : decode cX11_knowsLine 73 = .ok (.iload_n 1, 1) := by decide +kernel
theorem dX11_knowsLine_74 : decode cX11_knowsLine 74 = .ok (.imul, 1) := by decide +kernel
theorem dX11_knowsLine_75 : decode cX11_knowsLine 75 = .ok (.iadd, 1) := by decide +kernel
theorem dX11_knowsLine_76 : decode cX11_knowsLine 76 = .ok (.iconst 2, 1) := by decide +kernel
theorem dX11_knowsLine_77 : decode cX11_knowsLine 77 = .ok (.iadd, 1) := by decide +kernel
theorem dX11_knowsLine_78 : decode cX11_knowsLine 78 = .ok (.dup2, 1) := by decide +kernel
theorem dX11_knowsLine_79 : decode cX11_knowsLine 79 = .ok (.iaload, 1) := by decide +kernel
theorem dX11_knowsLine_80 : decode cX11_knowsLine 80 = .ok (.iconst 1, 1) := by decide +kernel
theorem dX11_knowsLine_81 : decode cX11_knowsLine 81 = .ok (.iload_n 2, 1) := by decide +kernel
theorem dX11_knowsLine_82 : decode cX11_knowsLine 82 = .ok (.ishl, 1) := by decide +kernel
theorem dX11_knowsLine_83 : decode cX11_knowsLine 83 = .ok (.ior, 1) := by decide +kernel
theorem dX11_knowsLine_84 : decode cX11_knowsLine 84 = .ok (.iastore, 1) := by decide +kernel
theorem dX11_knowsLine_85 : decode cX11_knowsLine 85 = .ok (.aload_n 0, 1) := by decide +kernel
theorem dX11_knowsLine_86 : decode cX11_knowsLine 86 = .ok (.getfield 23, 3) := by decide +kernel
theorem dX11_knowsLine_89 : decode cX11_knowsLine 89 = .ok (.bipush 8, 2) := by decide +kernel
theorem dX11_knowsLine_91 : decode cX11_knowsLine 91 = .ok (.dup2, 1) := by decide +kernel
theorem dX11_knowsLine_92 : decode cX11_knowsLine 92 = .ok (.iaload, 1) := by decide +kernel
theorem dX11_knowsLine_93 : decode cX11_knowsLine 93 = .ok (.iconst 1, 1) := by decide +kernel
theorem dX11_knowsLine_94 : decode cX11_knowsLine 94 = .ok (.iadd, 1) := by decide +kernel
theorem dX11_knowsLine_95 : decode cX11_knowsLine 95 = .ok (.iastore, 1) := by decide +kernel
theorem dX11_knowsLine_96 : decode cX11_knowsLine 96 = .ok (.return_, 1) := by decide +kernel
theorem dX11_letterHere_0 : decode cX11_letterHere 0 = .ok (.aload_n 0, 1) := by decide +kernel
theorem dX11_letterHere_1 : decode cX11_letterHere 1 = .ok (.getfield 94, 3) := by decide +kernel
theorem dX11_letterHere_4 : decode cX11_letterHere 4 = .ok (.ifCond .eq 5, 3) := by decide +kernel
theorem dX11_letterHere_7 : decode cX11_letterHere 7 = .ok (.iconst 0, 1) := by decide +kernel
theorem dX11_letterHere_8 : decode cX11_letterHere 8 = .ok (.ireturn, 1) := by decide +kernel
theorem dX11_letterHere_9 : decode cX11_letterHere 9 = .ok (.aload_n 0, 1) := by decide +kernel
theorem dX11_letterHere_10 : decode cX11_letterHere 10 = .ok (.getfield 84, 3) := by decide +kernel
theorem dX11_letterHere_13 : decode cX11_letterHere 13 = .ok (.iconst 2, 1) := by decide +kernel
theorem dX11_letterHere_14 : decode cX11_letterHere 14 = .ok (.if_icmp .eq 15, 3) := by decide +kernel
theorem dX11_letterHere_17 : decode cX11_letterHere 17 = .ok (.aload_n 0, 1) := by decide +kernel
theorem dX11_letterHere_18 : decode cX11_letterHere 18 = .ok (.iconst 1, 1) := by decide +kernel
theorem dX11_letterHere_19 : decode cX11_letterHere 19 = .ok (.aload_n 0, 1) := by decide +kernel
theorem dX11_letterHere_20 : decode cX11_letterHere 20 = .ok (.getfield 75, 3) := by decide +kernel
theorem dX11_letterHere_23 : decode cX11_letterHere 23 = .ok (.invokevirtual 121, 3) := by decide +kernel
theorem dX11_letterHere_26 : decode cX11_letterHere 26 = .ok (.goto 28, 3) := by decide +kernel
theorem dX11_letterHere_29 : decode cX11_letterHere 29 = .ok (.aload_n 0, 1) := by decide +kernel
theorem dX11_letterHere_30 : decode cX11_letterHere 30 = .ok (.getfield 78, 3) := by decide +kernel
theorem dX11_letterHere_33 : decode cX11_letterHere 33 = .ok (.iconst 1, 1) := by decide +kernel
theorem dX11_letterHere_34 : decode cX11_letterHere 34 = .ok (.if_icmp .ne 10, 3) := by decide +kernel
theorem dX11_letterHere_37 : decode cX11_letterHere 37 = .ok (.aload_n 0, 1) := by decide +kernel
theorem dX11_letterHere_38 : decode cX11_letterHere 38 = .ok (.invokevirtual 232, 3) := by decide +kernel
theorem dX11_letterHere_41 : decode cX11_letterHere 41 = .ok (.ifCond .ne 13, 3) := by decide +kernel
theorem dX11_letterHere_44 : decode cX11_letterHere 44 = .ok (.aload_n 0, 1) := by decide +kernel
theorem dX11_letterHere_45 : decode cX11_letterHere 45 = .ok (.bipush 7, 2) := by decide +kernel
theorem dX11_letterHere_47 : decode cX11_letterHere 47 = .ok (.aload_n 0, 1) := by decide +kernel
theorem dX11_letterHere_48 : decode cX11_letterHere 48 = .ok (.getfield 75, 3) := by decide +kernel
theorem dX11_letterHere_51 : decode cX11_letterHere 51 = .ok (.invokevirtual 121, 3) := by decide +kernel
theorem dX11_letterHere_54 : decode cX11_letterHere 54 = .ok (.aload_n 0, 1) := by decide +kernel
theorem dX11_letterHere_55 : decode cX11_letterHere 55 = .ok (.getfield 94, 3) := by decide +kernel
theorem dX11_letterHere_58 : decode cX11_letterHere 58 = .ok (.ifCond .eq 7, 3) := by decide +kernel
theorem dX11_letterHere_61 : decode cX11_letterHere 61 = .ok (.iconst 0, 1) := by decide +kernel
theorem dX11_letterHere_62 : decode cX11_letterHere 62 = .ok (.goto 12, 3) := by decide +kernel
theorem dX11_letterHere_65 : decode cX11_letterHere 65 = .ok (.aload_n 0, 1) := by decide +kernel
theorem dX11_letterHere_66 : decode cX11_letterHere 66 = .ok (.getfield 17, 3) := by decide +kernel
theorem dX11_letterHere_69 : decode cX11_letterHere 69 = .ok (.iconst 0, 1) := by decide +kernel
theorem dX11_letterHere_70 : decode cX11_letterHere 70 = .ok (.iaload, 1) := by decide +kernel
theorem dX11_letterHere_71 : decode cX11_letterHere 71 = .ok (.bipush 97, 2) := by decide +kernel
theorem dX11_letterHere_73 : decode cX11_letterHere 73 = .ok (.isub, 1) := by decide +kernel
theorem dX11_letterHere_74 : decode cX11_letterHere 74 = .ok (.ireturn, 1) := by decide +kernel
theorem dX11_alikeLine_0 : decode cX11_alikeLine 0 = .ok (.aload_n 0, 1) := by decide +kernel
theorem dX11_alikeLine_1 : decode cX11_alikeLine 1 = .ok (.getfield 94, 3) := by decide +kernel
theorem dX11_alikeLine_4 : decode cX11_alikeLine 4 = .ok (.ifCond .eq 4, 3) := by decide +kernel
theorem dX11_alikeLine_7 : decode cX11_alikeLine 7 = .ok (.return_, 1) := by decide +kernel
theorem dX11_alikeLine_8 : decode cX11_alikeLine 8 = .ok (.aload_n 0, 1) := by decide +kernel
theorem dX11_alikeLine_9 : decode cX11_alikeLine 9 = .ok (.invokevirtual 270, 3) := by decide +kernel
theorem dX11_alikeLine_12 : decode cX11_alikeLine 12 = .ok (.istore_n 1, 1) := by decide +kernel
theorem dX11_alikeLine_13 : decode cX11_alikeLine 13 = .ok (.aload_n 0, 1) := by decide +kernel
theorem dX11_alikeLine_14 : decode cX11_alikeLine 14 = .ok (.getfield 94, 3) := by decide +kernel
theorem dX11_alikeLine_17 : decode cX11_alikeLine 17 = .ok (.ifCond .ne 7, 3) := by decide +kernel
theorem dX11_alikeLine_20 : decode cX11_alikeLine 20 = .ok (.aload_n 0, 1) := by decide +kernel
theorem dX11_alikeLine_21 : decode cX11_alikeLine 21 = .ok (.invokevirtual 115, 3) := by decide +kernel
theorem dX11_alikeLine_24 : decode cX11_alikeLine 24 = .ok (.aload_n 0, 1) := by decide +kernel
theorem dX11_alikeLine_25 : decode cX11_alikeLine 25 = .ok (.invokevirtual 270, 3) := by decide +kernel
theorem dX11_alikeLine_28 : decode cX11_alikeLine 28 = .ok (.istore_n 2, 1) := by decide +kernel
theorem dX11_alikeLine_29 : decode cX11_alikeLine 29 = .ok (.aload_n 0, 1) := by decide +kernel
theorem dX11_alikeLine_30 : decode cX11_alikeLine 30 = .ok (.getfield 94, 3) := by decide +kernel
theorem dX11_alikeLine_33 : decode cX11_alikeLine 33 = .ok (.ifCond .ne 33, 3) := by decide +kernel
theorem dX11_alikeLine_36 : decode cX11_alikeLine 36 = .ok (.iload_n 1, 1) := by decide +kernel
theorem dX11_alikeLine_37 : decode cX11_alikeLine 37 = .ok (.iload_n 2, 1) := by decide +kernel
theorem dX11_alikeLine_38 : decode cX11_alikeLine 38 = .ok (.if_icmp .eq 19, 3) := by decide +kernel
theorem dX11_alikeLine_41 : decode cX11_alikeLine 41 = .ok (.aload_n 0, 1) := by decide +kernel
theorem dX11_alikeLine_42 : decode cX11_alikeLine 42 = .ok (.getfield 23, 3) := by decide +kernel
theorem dX11_alikeLine_45 : decode cX11_alikeLine 45 = .ok (.bipush 121, 2) := by decide +kernel
theorem dX11_alikeLine_47 : decode cX11_alikeLine 47 = .ok (.iload_n 1, 1) := by decide +kernel
theorem dX11_alikeLine_48 : decode cX11_alikeLine 48 = .ok (.iadd, 1) := by decide +kernel
theorem dX11_alikeLine_49 : decode cX11_alikeLine 49 = .ok (.iaload, 1) := by decide +kernel
theorem dX11_alikeLine_50 : decode cX11_alikeLine 50 = .ok (.iload_n 2, 1) := by decide +kernel
theorem dX11_alikeLine_51 : decode cX11_alikeLine 51 = .ok (.invokestatic 266, 3) := by decide +kernel
theorem dX11_alikeLine_54 : decode cX11_alikeLine 54 = .ok (.ifCond .eq 12, 3) := by decide +kernel
theorem dX11_alikeLine_57 : decode cX11_alikeLine 57 = .ok (.aload_n 0, 1) := by decide +kernel
theorem dX11_alikeLine_58 : decode cX11_alikeLine 58 = .ok (.iconst 3, 1) := by decide +kernel
theorem dX11_alikeLine_59 : decode cX11_alikeLine 59 = .ok (.aload_n 0, 1) := by decide +kernel
theorem dX11_alikeLine_60 : decode cX11_alikeLine 60 = .ok (.getfield 75, 3) := by decide +kernel
theorem dX11_alikeLine_63 : decode cX11_alikeLine 63 = .ok (.invokevirtual 121, 3) := by decide +kernel
theorem dX11_alikeLine_66 : decode cX11_alikeLine 66 = .ok (.aload_n 0, 1) := by decide +kernel
theorem dX11_alikeLine_67 : decode cX11_alikeLine 67 = .ok (.getfield 94, 3) := by decide +kernel
theorem dX11_alikeLine_70 : decode cX11_alikeLine 70 = .ok (.ifCond .eq 4, 3) := by decide +kernel
theorem dX11_alikeLine_73 : decode cX11_alikeLine 73 = .ok (.return_, 1) := by decide +kernel
theorem dX11_alikeLine_74 : decode cX11_alikeLine 74 = .ok (.aload_n 0, 1) := by decide +kernel
theorem dX11_alikeLine_75 : decode cX11_alikeLine 75 = .ok (.invokevirtual 115, 3) := by decide +kernel
theorem dX11_alikeLine_78 : decode cX11_alikeLine 78 = .ok (.aload_n 0, 1) := by decide +kernel
theorem dX11_alikeLine_79 : decode cX11_alikeLine 79 = .ok (.getfield 23, 3) := by decide +kernel
theorem dX11_alikeLine_82 : decode cX11_alikeLine 82 = .ok (.bipush 121, 2) := by decide +kernel
theorem dX11_alikeLine_84 : decode cX11_alikeLine 84 = .ok (.iload_n 1, 1) := by decide +kernel
theorem dX11_alikeLine_85 : decode cX11_alikeLine 85 = .ok (.iadd, 1) := by decide +kernel
theorem dX11_alikeLine_86 : decode cX11_alikeLine 86 = .ok (.dup2, 1) := by decide +kernel
theorem dX11_alikeLine_87 : decode cX11_alikeLine 87 = .ok (.iaload, 1) := by decide +kernel
theorem dX11_alikeLine_88 : decode cX11_alikeLine 88 = .ok (.iconst 1, 1) := by decide +kernel
theorem dX11_alikeLine_89 : decode cX11_alikeLine 89 = .ok (.iload_n 2, 1) := by decide +kernel
theorem dX11_alikeLine_90 : decode cX11_alikeLine 90 = .ok (.ishl, 1) := by decide +kernel
theorem dX11_alikeLine_91 : decode cX11_alikeLine 91 = .ok (.ior, 1) := by decide +kernel
theorem dX11_alikeLine_92 : decode cX11_alikeLine 92 = .ok (.iastore, 1) := by decide +kernel
theorem dX11_alikeLine_93 : decode cX11_alikeLine 93 = .ok (.aload_n 0, 1) := by decide +kernel
theorem dX11_alikeLine_94 : decode cX11_alikeLine 94 = .ok (.getfield 23, 3) := by decide +kernel
theorem dX11_alikeLine_97 : decode cX11_alikeLine 97 = .ok (.bipush 121, 2) := by decide +kernel
theorem dX11_alikeLine_99 : decode cX11_alikeLine 99 = .ok (.iload_n 2, 1) := by decide +kernel
theorem dX11_alikeLine_100 : decode cX11_alikeLine 100 = .ok (.iadd, 1) := by decide +kernel
theorem dX11_alikeLine_101 : decode cX11_alikeLine 101 = .ok (.dup2, 1) := by decide +kernel
theorem dX11_alikeLine_102 : decode cX11_alikeLine 102 = .ok (.iaload, 1) := by decide +kernel
theorem dX11_alikeLine_103 : decode cX11_alikeLine 103 = .ok (.iconst 1, 1) := by decide +kernel
theorem dX11_alikeLine_104 : decode cX11_alikeLine 104 = .ok (.iload_n 1, 1) := by decide +kernel
theorem dX11_alikeLine_105 : decode cX11_alikeLine 105 = .ok (.ishl, 1) := by decide +kernel
theorem dX11_alikeLine_106 : decode cX11_alikeLine 106 = .ok (.ior, 1) := by decide +kernel
theorem dX11_alikeLine_107 : decode cX11_alikeLine 107 = .ok (.iastore, 1) := by decide +kernel
theorem dX11_alikeLine_108 : decode cX11_alikeLine 108 = .ok (.aload_n 0, 1) := by decide +kernel
theorem dX11_alikeLine_109 : decode cX11_alikeLine 109 = .ok (.getfield 23, 3) := by decide +kernel
theorem dX11_alikeLine_112 : decode cX11_alikeLine 112 = .ok (.iconst 4, 1) := by decide +kernel
theorem dX11_alikeLine_113 : decode cX11_alikeLine 113 = .ok (.dup2, 1) := by decide +kernel
theorem dX11_alikeLine_114 : decode cX11_alikeLine 114 = .ok (.iaload, 1) := by decide +kernel
theorem dX11_alikeLine_115 : decode cX11_alikeLine 115 = .ok (.iconst 1, 1) := by decide +kernel
theorem dX11_alikeLine_116 : decode cX11_alikeLine 116 = .ok (.iadd, 1) := by decide +kernel
theorem dX11_alikeLine_117 : decode cX11_alikeLine 117 = .ok (.iastore, 1) := by decide +kernel
theorem dX11_alikeLine_118 : decode cX11_alikeLine 118 = .ok (.return_, 1) := by decide +kernel
theorem dX11_hourLine_0 : decode cX11_hourLine 0 = .ok (.aload_n 0, 1) := by decide +kernel
theorem dX11_hourLine_1 : decode cX11_hourLine 1 = .ok (.getfield 94, 3) := by decide +kernel
theorem dX11_hourLine_4 : decode cX11_hourLine 4 = .ok (.ifCond .eq 4, 3) := by decide +kernel
theorem dX11_hourLine_7 : decode cX11_hourLine 7 = .ok (.return_, 1) := by decide +kernel
theorem dX11_hourLine_8 : decode cX11_hourLine 8 = .ok (.aload_n 0, 1) := by decide +kernel
theorem dX11_hourLine_9 : decode cX11_hourLine 9 = .ok (.iconst 0, 1) := by decide +kernel
theorem dX11_hourLine_10 : decode cX11_hourLine 10 = .ok (.bipush 23, 2) := by decide +kernel
theorem dX11_hourLine_12 : decode cX11_hourLine 12 = .ok (.invokevirtual 158, 3) := by decide +kernel
theorem dX11_hourLine_15 : decode cX11_hourLine 15 = .ok (.istore_n 1, 1) := by decide +kernel
theorem dX11_hourLine_16 : decode cX11_hourLine 16 = .ok (.aload_n 0, 1) := by decide +kernel
theorem dX11_hourLine_17 : decode cX11_hourLine 17 = .ok (.getfield 94, 3) := by decide +kernel
theorem dX11_hourLine_20 : decode cX11_hourLine 20 = .ok (.ifCond .ne 25, 3) := by decide +kernel
theorem dX11_hourLine_23 : decode cX11_hourLine 23 = .ok (.aload_n 0, 1) := by decide +kernel
theorem dX11_hourLine_24 : decode cX11_hourLine 24 = .ok (.getfield 23, 3) := by decide +kernel
theorem dX11_hourLine_27 : decode cX11_hourLine 27 = .ok (.sipush 129, 3) := by decide +kernel
theorem dX11_hourLine_30 : decode cX11_hourLine 30 = .ok (.iload_n 1, 1) := by decide +kernel
theorem dX11_hourLine_31 : decode cX11_hourLine 31 = .ok (.iadd, 1) := by decide +kernel
theorem dX11_hourLine_32 : decode cX11_hourLine 32 = .ok (.iaload, 1) := by decide +kernel
theorem dX11_hourLine_33 : decode cX11_hourLine 33 = .ok (.ifCond .le 12, 3) := by decide +kernel
theorem dX11_hourLine_36 : decode cX11_hourLine 36 = .ok (.aload_n 0, 1) := by decide +kernel
theorem dX11_hourLine_37 : decode cX11_hourLine 37 = .ok (.iconst 3, 1) := by decide +kernel
theorem dX11_hourLine_38 : decode cX11_hourLine 38 = .ok (.aload_n 0, 1) := by decide +kernel
theorem dX11_hourLine_39 : decode cX11_hourLine 39 = .ok (.getfield 75, 3) := by decide +kernel
theorem dX11_hourLine_42 : decode cX11_hourLine 42 = .ok (.invokevirtual 121, 3) := by decide +kernel
theorem dX11_hourLine_45 : decode cX11_hourLine 45 = .ok (.aload_n 0, 1) := by decide +kernel
theorem dX11_hourLine_46 : decode cX11_hourLine 46 = .ok (.getfield 94, 3) := by decide +kernel
theorem dX11_hourLine_49 : decode cX11_hourLine 49 = .ok (.ifCond .eq 4, 3) := by decide +kernel
theorem dX11_hourLine_52 : decode cX11_hourLine 52 = .ok (.return_, 1) := by decide +kernel
theorem dX11_hourLine_53 : decode cX11_hourLine 53 = .ok (.aload_n 0, 1) := by decide +kernel
theorem dX11_hourLine_54 : decode cX11_hourLine 54 = .ok (.invokevirtual 115, 3) := by decide +kernel
theorem dX11_hourLine_57 : decode cX11_hourLine 57 = .ok (.aload_n 0, 1) := by decide +kernel
theorem dX11_hourLine_58 : decode cX11_hourLine 58 = .ok (.ldc 218, 2) := by decide +kernel
theorem dX11_hourLine_60 : decode cX11_hourLine 60 = .ok (.iconst 1, 1) := by decide +kernel
theorem dX11_hourLine_61 : decode cX11_hourLine 61 = .ok (.bipush 6, 2) := by decide +kernel
theorem dX11_hourLine_63 : decode cX11_hourLine 63 = .ok (.invokevirtual 220, 3) := by decide +kernel
theorem dX11_hourLine_66 : decode cX11_hourLine 66 = .ok (.istore_n 2, 1) := by decide +kernel
theorem dX11_hourLine_67 : decode cX11_hourLine 67 = .ok (.aload_n 0, 1) := by decide +kernel
theorem dX11_hourLine_68 : decode cX11_hourLine 68 = .ok (.getfield 94, 3) := by decide +kernel
theorem dX11_hourLine_71 : decode cX11_hourLine 71 = .ok (.ifCond .eq 4, 3) := by decide +kernel
theorem dX11_hourLine_74 : decode cX11_hourLine 74 = .ok (.return_, 1) := by decide +kernel
theorem dX11_hourLine_75 : decode cX11_hourLine 75 = .ok (.aload_n 0, 1) := by decide +kernel
theorem dX11_hourLine_76 : decode cX11_hourLine 76 = .ok (.getfield 23, 3) := by decide +kernel
theorem dX11_hourLine_79 : decode cX11_hourLine 79 = .ok (.sipush 129, 3) := by decide +kernel
theorem dX11_hourLine_82 : decode cX11_hourLine 82 = .ok (.iload_n 1, 1) := by decide +kernel
theorem dX11_hourLine_83 : decode cX11_hourLine 83 = .ok (.iadd, 1) := by decide +kernel
theorem dX11_hourLine_84 : decode cX11_hourLine 84 = .ok (.iload_n 2, 1) := by decide +kernel
theorem dX11_hourLine_85 : decode cX11_hourLine 85 = .ok (.iastore, 1) := by decide +kernel
theorem dX11_hourLine_86 : decode cX11_hourLine 86 = .ok (.aload_n 0, 1) := by decide +kernel
theorem dX11_hourLine_87 : decode cX11_hourLine 87 = .ok (.getfield 23, 3) := by decide +kernel
theorem dX11_hourLine_90 : decode cX11_hourLine 90 = .ok (.iconst 5, 1) := by decide +kernel
theorem dX11_hourLine_91 : decode cX11_hourLine 91 = .ok (.dup2, 1) := by decide +kernel
theorem dX11_hourLine_92 : decode cX11_hourLine 92 = .ok (.iaload, 1) := by decide +kernel
theorem dX11_hourLine_93 : decode cX11_hourLine 93 = .ok (.iconst 1, 1) := by decide +kernel
theorem dX11_hourLine_94 : decode cX11_hourLine 94 = .ok (.iadd, 1) := by decide +kernel
theorem dX11_hourLine_95 : decode cX11_hourLine 95 = .ok (.iastore, 1) := by decide +kernel
theorem dX11_hourLine_96 : decode cX11_hourLine 96 = .ok (.return_, 1) := by decide +kernel
theorem dX11_errandLine_0 : decode cX11_errandLine 0 = .ok (.aload_n 0, 1) := by decide +kernel
theorem dX11_errandLine_1 : decode cX11_errandLine 1 = .ok (.getfield 94, 3) := by decide +kernel
theorem dX11_errandLine_4 : decode cX11_errandLine 4 = .ok (.ifCond .eq 4, 3) := by decide +kernel
theorem dX11_errandLine_7 : decode cX11_errandLine 7 = .ok (.return_, 1) := by decide +kernel
theorem dX11_errandLine_8 : decode cX11_errandLine 8 = .ok (.aload_n 0, 1) := by decide +kernel
theorem dX11_errandLine_9 : decode cX11_errandLine 9 = .ok (.invokevirtual 155, 3) := by decide +kernel
theorem dX11_errandLine_12 : decode cX11_errandLine 12 = .ok (.istore_n 1, 1) := by decide +kernel
theorem dX11_errandLine_13 : decode cX11_errandLine 13 = .ok (.aload_n 0, 1) := by decide +kernel
theorem dX11_errandLine_14 : decode cX11_errandLine 14 = .ok (.getfield 94, 3) := by decide +kernel
theorem dX11_errandLine_17 : decode cX11_errandLine 17 = .ok (.ifCond .ne 28, 3) := by decide +kernel
theorem dX11_errandLine_20 : decode cX11_errandLine 20 = .ok (.aload_n 0, 1) := by decide +kernel
theorem dX11_errandLine_21 : decode cX11_errandLine 21 = .ok (.getfield 23, 3) := by decide +kernel
theorem dX11_errandLine_24 : decode cX11_errandLine 24 = .ok (.bipush 89, 2) := by decide +kernel
theorem dX11_errandLine_26 : decode cX11_errandLine 26 = .ok (.iconst 4, 1) := by decide +kernel
theorem dX11_errandLine_27 : decode cX11_errandLine 27 = .ok (.iload_n 1, 1) := by decide +kernel
theorem dX11_errandLine_28 : decode cX11_errandLine 28 = .ok (.imul, 1) := by decide +kernel
theorem dX11_errandLine_29 : decode cX11_errandLine 29 = .ok (.iadd, 1) := by decide +kernel
theorem dX11_errandLine_30 : decode cX11_errandLine 30 = .ok (.iconst 3, 1) := by decide +kernel
theorem dX11_errandLine_31 : decode cX11_errandLine 31 = .ok (.iadd, 1) := by decide +kernel
theorem dX11_errandLine_32 : decode cX11_errandLine 32 = .ok (.iaload, 1) := by decide +kernel
theorem dX11_errandLine_33 : decode cX11_errandLine 33 = .ok (.ifCond .le 12, 3) := by decide +kernel
theorem dX11_errandLine_36 : decode cX11_errandLine 36 = .ok (.aload_n 0, 1) := by decide +kernel
theorem dX11_errandLine_37 : decode cX11_errandLine 37 = .ok (.iconst 3, 1) := by decide +kernel
theorem dX11_errandLine_38 : decode cX11_errandLine 38 = .ok (.aload_n 0, 1) := by decide +kernel
theorem dX11_errandLine_39 : decode cX11_errandLine 39 = .ok (.getfield 75, 3) := by decide +kernel
theorem dX11_errandLine_42 : decode cX11_errandLine 42 = .ok (.invokevirtual 121, 3) := by decide +kernel
theorem dX11_errandLine_45 : decode cX11_errandLine 45 = .ok (.aload_n 0, 1) := by decide +kernel
theorem dX11_errandLine_46 : decode cX11_errandLine 46 = .ok (.getfield 94, 3) := by decide +kernel
theorem dX11_errandLine_49 : decode cX11_errandLine 49 = .ok (.ifCond .eq 4, 3) := by decide +kernel
theorem dX11_errandLine_52 : decode cX11_errandLine 52 = .ok (.return_, 1) := by decide +kernel
theorem dX11_errandLine_53 : decode cX11_errandLine 53 = .ok (.aload_n 0, 1) := by decide +kernel
theorem dX11_errandLine_54 : decode cX11_errandLine 54 = .ok (.invokevirtual 115, 3) := by decide +kernel
theorem dX11_errandLine_57 : decode cX11_errandLine 57 = .ok (.aload_n 0, 1) := by decide +kernel
theorem dX11_errandLine_58 : decode cX11_errandLine 58 = .ok (.ldc_w 273, 3) := by decide +kernel
theorem dX11_errandLine_61 : decode cX11_errandLine 61 = .ok (.iconst 1, 1) := by decide +kernel
theorem dX11_errandLine_62 : decode cX11_errandLine 62 = .ok (.iconst 4, 1) := by decide +kernel
theorem dX11_errandLine_63 : decode cX11_errandLine 63 = .ok (.invokevirtual 220, 3) := by decide +kernel
theorem dX11_errandLine_66 : decode cX11_errandLine 66 = .ok (.istore_n 2, 1) := by decide +kernel
theorem dX11_errandLine_67 : decode cX11_errandLine 67 = .ok (.aload_n 0, 1) := by decide +kernel
theorem dX11_errandLine_68 : decode cX11_errandLine 68 = .ok (.getfield 94, 3) := by decide +kernel
theorem dX11_errandLine_71 : decode cX11_errandLine 71 = .ok (.ifCond .eq 4, 3) := by decide +kernel
theorem dX11_errandLine_74 : decode cX11_errandLine 74 = .ok (.return_, 1) := by decide +kernel
theorem dX11_errandLine_75 : decode cX11_errandLine 75 = .ok (.aload_n 0, 1) := by decide +kernel
theorem dX11_errandLine_76 : decode cX11_errandLine 76 = .ok (.getfield 23, 3) := by decide +kernel
theorem dX11_errandLine_79 : decode cX11_errandLine 79 = .ok (.bipush 89, 2) := by decide +kernel
theorem dX11_errandLine_81 : decode cX11_errandLine 81 = .ok (.iconst 4, 1) := by decide +kernel
theorem dX11_errandLine_82 : decode cX11_errandLine 82 = .ok (.iload_n 1, 1) := by decide +kernel
theorem dX11_errandLine_83 : decode cX11_errandLine 83 = .ok (.imul, 1) := by decide +kernel
theorem dX11_errandLine_84 : decode cX11_errandLine 84 = .ok (.iadd, 1) := by decide +kernel
theorem dX11_errandLine_85 : decode cX11_errandLine 85 = .ok (.iconst 3, 1) := by decide +kernel
theorem dX11_errandLine_86 : decode cX11_errandLine 86 = .ok (.iadd, 1) := by decide +kernel
theorem dX11_errandLine_87 : decode cX11_errandLine 87 = .ok (.iload_n 2, 1) := by decide +kernel
theorem dX11_errandLine_88 : decode cX11_errandLine 88 = .ok (.iastore, 1) := by decide +kernel
theorem dX11_errandLine_89 : decode cX11_errandLine 89 = .ok (.aload_n 0, 1) := by decide +kernel
theorem dX11_errandLine_90 : decode cX11_errandLine 90 = .ok (.getfield 23, 3) := by decide +kernel
theorem dX11_errandLine_93 : decode cX11_errandLine 93 = .ok (.bipush 6, 2) := by decide +kernel
theorem dX11_errandLine_95 : decode cX11_errandLine 95 = .ok (.dup2, 1) := by decide +kernel
theorem dX11_errandLine_96 : decode cX11_errandLine 96 = .ok (.iaload, 1) := by decide +kernel
theorem dX11_errandLine_97 : decode cX11_errandLine 97 = .ok (.iconst 1, 1) := by decide +kernel
theorem dX11_errandLine_98 : decode cX11_errandLine 98 = .ok (.iadd, 1) := by decide +kernel
theorem dX11_errandLine_99 : decode cX11_errandLine 99 = .ok (.iastore, 1) := by decide +kernel
theorem dX11_errandLine_100 : decode cX11_errandLine 100 = .ok (.return_, 1) := by decide +kernel
theorem dX11_gotLine_0 : decode cX11_gotLine 0 = .ok (.aload_n 0, 1) := by decide +kernel
theorem dX11_gotLine_1 : decode cX11_gotLine 1 = .ok (.getfield 94, 3) := by decide +kernel
theorem dX11_gotLine_4 : decode cX11_gotLine 4 = .ok (.ifCond .eq 4, 3) := by decide +kernel
theorem dX11_gotLine_7 : decode cX11_gotLine 7 = .ok (.return_, 1) := by decide +kernel
theorem dX11_gotLine_8 : decode cX11_gotLine 8 = .ok (.sipush 153, 3) := by decide +kernel
theorem dX11_gotLine_11 : decode cX11_gotLine 11 = .ok (.iconst 3, 1) := by decide +kernel
theorem dX11_gotLine_12 : decode cX11_gotLine 12 = .ok (.aload_n 0, 1) := by decide +kernel
theorem dX11_gotLine_13 : decode cX11_gotLine 13 = .ok (.getfield 23, 3) := by decide +kernel
theorem dX11_gotLine_16 : decode cX11_gotLine 16 = .ok (.bipush 7, 2) := by decide +kernel
theorem dX11_gotLine_18 : decode cX11_gotLine 18 = .ok (.iaload, 1) := by decide +kernel
theorem dX11_gotLine_19 : decode cX11_gotLine 19 = .ok (.imul, 1) := by decide +kernel
theorem dX11_gotLine_20 : decode cX11_gotLine 20 = .ok (.iadd, 1) := by decide +kernel
theorem dX11_gotLine_21 : decode cX11_gotLine 21 = .ok (.istore_n 1, 1) := by decide +kernel
theorem dX11_gotLine_22 : decode cX11_gotLine 22 = .ok (.aload_n 0, 1) := by decide +kernel
theorem dX11_gotLine_23 : decode cX11_gotLine 23 = .ok (.getfield 23, 3) := by decide +kernel
theorem dX11_gotLine_26 : decode cX11_gotLine 26 = .ok (.iload_n 1, 1) := by decide +kernel
theorem dX11_gotLine_27 : decode cX11_gotLine 27 = .ok (.aload_n 0, 1) := by decide +kernel
theorem dX11_gotLine_28 : decode cX11_gotLine 28 = .ok (.invokevirtual 263, 3) := by decide +kernel
theorem dX11_gotLine_31 : decode cX11_gotLine 31 = .ok (.iastore, 1) := by decide +kernel
theorem dX11_gotLine_32 : decode cX11_gotLine 32 = .ok (.aload_n 0, 1) := by decide +kernel
theorem dX11_gotLine_33 : decode cX11_gotLine 33 = .ok (.getfield 23, 3) := by decide +kernel
theorem dX11_gotLine_36 : decode cX11_gotLine 36 = .ok (.iload_n 1, 1) := by decide +kernel
theorem dX11_gotLine_37 : decode cX11_gotLine 37 = .ok (.iconst 1, 1) := by decide +kernel
theorem dX11_gotLine_38 : decode cX11_gotLine 38 = .ok (.iadd, 1) := by decide +kernel
theorem dX11_gotLine_39 : decode cX11_gotLine 39 = .ok (.aload_n 0, 1) := by decide +kernel
theorem dX11_gotLine_40 : decode cX11_gotLine 40 = .ok (.invokevirtual 155, 3) := by decide +kernel
theorem dX11_gotLine_43 : decode cX11_gotLine 43 = .ok (.iastore, 1) := by decide +kernel
theorem dX11_gotLine_44 : decode cX11_gotLine 44 = .ok (.aload_n 0, 1) := by decide +kernel
theorem dX11_gotLine_45 : decode cX11_gotLine 45 = .ok (.getfield 94, 3) := by decide +kernel
theorem dX11_gotLine_48 : decode cX11_gotLine 48 = .ok (.ifCond .ne 29, 3) := by decide +kernel
theorem dX11_gotLine_51 : decode cX11_gotLine 51 = .ok (.aload_n 0, 1) := by decide +kernel
theorem dX11_gotLine_52 : decode cX11_gotLine 52 = .ok (.getfield 23, 3) := by decide +kernel
theorem dX11_gotLine_55 : decode cX11_gotLine 55 = .ok (.iload_n 1, 1) := by decide +kernel
theorem dX11_gotLine_56 : decode cX11_gotLine 56 = .ok (.iaload, 1) := by decide +kernel
theorem dX11_gotLine_57 : decode cX11_gotLine 57 = .ok (.aload_n 0, 1) := by decide +kernel
theorem dX11_gotLine_58 : decode cX11_gotLine 58 = .ok (.getfield 23, 3) := by decide +kernel
theorem dX11_gotLine_61 : decode cX11_gotLine 61 = .ok (.iload_n 1, 1) := by decide +kernel
theorem dX11_gotLine_62 : decode cX11_gotLine 62 = .ok (.iconst 1, 1) := by decide +kernel
theorem dX11_gotLine_63 : decode cX11_gotLine 63 = .ok (.iadd, 1) := by decide +kernel
theorem dX11_gotLine_64 : decode cX11_gotLine 64 = .ok (.iaload, 1) := by decide +kernel
theorem dX11_gotLine_65 : decode cX11_gotLine 65 = .ok (.if_icmp .ne 12, 3) := by decide +kernel
theorem dX11_gotLine_68 : decode cX11_gotLine 68 = .ok (.aload_n 0, 1) := by decide +kernel
theorem dX11_gotLine_69 : decode cX11_gotLine 69 = .ok (.iconst 3, 1) := by decide +kernel
theorem dX11_gotLine_70 : decode cX11_gotLine 70 = .ok (.aload_n 0, 1) := by decide +kernel
theorem dX11_gotLine_71 : decode cX11_gotLine 71 = .ok (.getfield 75, 3) := by decide +kernel
theorem dX11_gotLine_74 : decode cX11_gotLine 74 = .ok (.invokevirtual 121, 3) := by decide +kernel
theorem dX11_gotLine_77 : decode cX11_gotLine 77 = .ok (.aload_n 0, 1) := by decide +kernel
theorem dX11_gotLine_78 : decode cX11_gotLine 78 = .ok (.getfield 94, 3) := by decide +kernel
theorem dX11_gotLine_81 : decode cX11_gotLine 81 = .ok (.ifCond .eq 4, 3) := by decide +kernel
theorem dX11_gotLine_84 : decode cX11_gotLine 84 = .ok (.return_, 1) := by decide +kernel
theorem dX11_gotLine_85 : decode cX11_gotLine 85 = .ok (.aload_n 0, 1) := by decide +kernel
theorem dX11_gotLine_86 : decode cX11_gotLine 86 = .ok (.invokevirtual 115, 3) := by decide +kernel
theorem dX11_gotLine_89 : decode cX11_gotLine 89 = .ok (.aload_n 0, 1) := by decide +kernel
theorem dX11_gotLine_90 : decode cX11_gotLine 90 = .ok (.ldc_w 275, 3) := by decide +kernel
theorem dX11_gotLine_93 : decode cX11_gotLine 93 = .ok (.ldc_w 277, 3) := by decide +kernel
theorem dX11_gotLine_96 : decode cX11_gotLine 96 = .ok (.ldc_w 279, 3) := by decide +kernel
theorem dX11_gotLine_99 : decode cX11_gotLine 99 = .ok (.ldc_w 256, 3) := by decide +kernel
theorem dX11_gotLine_102 : decode cX11_gotLine 102 = .ok (.invokevirtual 246, 3) := by decide +kernel
theorem dX11_gotLine_105 : decode cX11_gotLine 105 = .ok (.istore_n 2, 1) := by decide +kernel
theorem dX11_gotLine_106 : decode cX11_gotLine 106 = .ok (.aload_n 0, 1) := by decide +kernel
theorem dX11_gotLine_107 : decode cX11_gotLine 107 = .ok (.getfield 94, 3) := by decide +kernel
theorem dX11_gotLine_110 : decode cX11_gotLine 110 = .ok (.ifCond .eq 4, 3) := by decide +kernel
theorem dX11_gotLine_113 : decode cX11_gotLine 113 = .ok (.return_, 1) := by decide +kernel
theorem dX11_gotLine_114 : decode cX11_gotLine 114 = .ok (.aload_n 0, 1) := by decide +kernel
theorem dX11_gotLine_115 : decode cX11_gotLine 115 = .ok (.getfield 23, 3) := by decide +kernel
theorem dX11_gotLine_118 : decode cX11_gotLine 118 = .ok (.iload_n 1, 1) := by decide +kernel
theorem dX11_gotLine_119 : decode cX11_gotLine 119 = .ok (.iconst 2, 1) := by decide +kernel
theorem dX11_gotLine_120 : decode cX11_gotLine 120 = .ok (.iadd, 1) := by decide +kernel
theorem dX11_gotLine_121 : decode cX11_gotLine 121 = .ok (.iload_n 2, 1) := by decide +kernel
theorem dX11_gotLine_122 : decode cX11_gotLine 122 = .ok (.iastore, 1) := by decide +kernel
theorem dX11_gotLine_123 : decode cX11_gotLine 123 = .ok (.aload_n 0, 1) := by decide +kernel
theorem dX11_gotLine_124 : decode cX11_gotLine 124 = .ok (.getfield 23, 3) := by decide +kernel
theorem dX11_gotLine_127 : decode cX11_gotLine 127 = .ok (.bipush 7, 2) := by decide +kernel
theorem dX11_gotLine_129 : decode cX11_gotLine 129 = .ok (.dup2, 1) := by decide +kernel
theorem dX11_gotLine_130 : decode cX11_gotLine 130 = .ok (.iaload, 1) := by decide +kernel
theorem dX11_gotLine_131 : decode cX11_gotLine 131 = .ok (.iconst 1, 1) := by decide +kernel
theorem dX11_gotLine_132 : decode cX11_gotLine 132 = .ok (.iadd, 1) := by decide +kernel
theorem dX11_gotLine_133 : decode cX11_gotLine 133 = .ok (.iastore, 1) := by decide +kernel
theorem dX11_gotLine_134 : decode cX11_gotLine 134 = .ok (.return_, 1) := by decide +kernel
theorem dX11_fault_0 : decode cX11_fault 0 = .ok (.aload_n 0, 1) := by decide +kernel
theorem dX11_fault_1 : decode cX11_fault 1 = .ok (.iconst 0, 1) := by decide +kernel
theorem dX11_fault_2 : decode cX11_fault 2 = .ok (.putfield 56, 3) := by decide +kernel
theorem dX11_fault_5 : decode cX11_fault 5 = .ok (.aload_n 0, 1) := by decide +kernel
theorem dX11_fault_6 : decode cX11_fault 6 = .ok (.getfield 98, 3) := by decide +kernel
theorem dX11_fault_9 : decode cX11_fault 9 = .ok (.ireturn, 1) := by decide +kernel
theorem dX11_where_0 : decode cX11_where 0 = .ok (.aload_n 0, 1) := by decide +kernel
theorem dX11_where_1 : decode cX11_where 1 = .ok (.iconst 0, 1) := by decide +kernel
theorem dX11_where_2 : decode cX11_where 2 = .ok (.putfield 56, 3) := by decide +kernel
theorem dX11_where_5 : decode cX11_where 5 = .ok (.aload_n 0, 1) := by decide +kernel
theorem dX11_where_6 : decode cX11_where 6 = .ok (.getfield 59, 3) := by decide +kernel
theorem dX11_where_9 : decode cX11_where 9 = .ok (.iconst 4, 1) := by decide +kernel
theorem dX11_where_10 : decode cX11_where 10 = .ok (.if_icmp .ne 10, 3) := by decide +kernel
theorem dX11_where_13 : decode cX11_where 13 = .ok (.aload_n 0, 1) := by decide +kernel
theorem dX11_where_14 : decode cX11_where 14 = .ok (.getfield 13, 3) := by decide +kernel
theorem dX11_where_17 : decode cX11_where 17 = .ok (.goto 4, 3) := by decide +kernel
theorem dX11_where_20 : decode cX11_where 20 = .ok (.iconst (-1), 1) := by decide +kernel
theorem dX11_where_21 : decode cX11_where 21 = .ok (.ireturn, 1) := by decide +kernel
theorem dX11_isWordThere_0 : decode cX11_isWordThere 0 = .ok (.aload_n 0, 1) := by decide +kernel
theorem dX11_isWordThere_1 : decode cX11_isWordThere 1 = .ok (.getfield 181, 3) := by decide +kernel
theorem dX11_isWordThere_4 : decode cX11_isWordThere 4 = .ok (.ifCond .eq 23, 3) := by decide +kernel
theorem dX11_isWordThere_7 : decode cX11_isWordThere 7 = .ok (.iload_n 1, 1) := by decide +kernel
theorem dX11_isWordThere_8 : decode cX11_isWordThere 8 = .ok (.iconst 0, 1) := by decide +kernel
theorem dX11_isWordThere_9 : decode cX11_isWordThere 9 = .ok (.aload_n 0, 1) := by decide +kernel
theorem dX11_isWordThere_10 : decode cX11_isWordThere 10 = .ok (.getfield 20, 3) := by decide +kernel
theorem dX11_isWordThere_13 : decode cX11_isWordThere 13 = .ok (.iconst 2, 1) := by decide +kernel
theorem dX11_isWordThere_14 : decode cX11_isWordThere 14 = .ok (.iaload, 1) := by decide +kernel
theorem dX11_isWordThere_15 : decode cX11_isWordThere 15 = .ok (.iconst 1, 1) := by decide +kernel
theorem dX11_isWordThere_16 : decode cX11_isWordThere 16 = .ok (.isub, 1) := by decide +kernel
theorem dX11_isWordThere_17 : decode cX11_isWordThere 17 = .ok (.invokestatic 147, 3) := by decide +kernel
theorem dX11_isWordThere_20 : decode cX11_isWordThere 20 = .ok (.ifCond .eq 7, 3) := by decide +kernel
theorem dX11_isWordThere_23 : decode cX11_isWordThere 23 = .ok (.iconst 1, 1) := by decide +kernel
theorem dX11_isWordThere_24 : decode cX11_isWordThere 24 = .ok (.goto 4, 3) := by decide +kernel
theorem dX11_isWordThere_27 : decode cX11_isWordThere 27 = .ok (.iconst 0, 1) := by decide +kernel
theorem dX11_isWordThere_28 : decode cX11_isWordThere 28 = .ok (.ireturn, 1) := by decide +kernel
theorem dX11_isPerson_0 : decode cX11_isPerson 0 = .ok (.aload_n 0, 1) := by decide +kernel
theorem dX11_isPerson_1 : decode cX11_isPerson 1 = .ok (.getfield 181, 3) := by decide +kernel
theorem dX11_isPerson_4 : decode cX11_isPerson 4 = .ok (.ifCond .eq 23, 3) := by decide +kernel
theorem dX11_isPerson_7 : decode cX11_isPerson 7 = .ok (.iload_n 1, 1) := by decide +kernel
theorem dX11_isPerson_8 : decode cX11_isPerson 8 = .ok (.iconst 0, 1) := by decide +kernel
theorem dX11_isPerson_9 : decode cX11_isPerson 9 = .ok (.aload_n 0, 1) := by decide +kernel
theorem dX11_isPerson_10 : decode cX11_isPerson 10 = .ok (.getfield 20, 3) := by decide +kernel
theorem dX11_isPerson_13 : decode cX11_isPerson 13 = .ok (.iconst 3, 1) := by decide +kernel
theorem dX11_isPerson_14 : decode cX11_isPerson 14 = .ok (.iaload, 1) := by decide +kernel
theorem dX11_isPerson_15 : decode cX11_isPerson 15 = .ok (.iconst 1, 1) := by decide +kernel
theorem dX11_isPerson_16 : decode cX11_isPerson 16 = .ok (.isub, 1) := by decide +kernel
theorem dX11_isPerson_17 : decode cX11_isPerson 17 = .ok (.invokestatic 147, 3) := by decide +kernel
theorem dX11_isPerson_20 : decode cX11_isPerson 20 = .ok (.ifCond .eq 7, 3) := by decide +kernel
theorem dX11_isPerson_23 : decode cX11_isPerson 23 = .ok (.iconst 1, 1) := by decide +kernel
theorem dX11_isPerson_24 : decode cX11_isPerson 24 = .ok (.goto 4, 3) := by decide +kernel
theorem dX11_isPerson_27 : decode cX11_isPerson 27 = .ok (.iconst 0, 1) := by decide +kernel
theorem dX11_isPerson_28 : decode cX11_isPerson 28 = .ok (.ireturn, 1) := by decide +kernel
theorem dX11_isHour_0 : decode cX11_isHour 0 = .ok (.iload_n 0, 1) := by decide +kernel
theorem dX11_isHour_1 : decode cX11_isHour 1 = .ok (.iconst 0, 1) := by decide +kernel
theorem dX11_isHour_2 : decode cX11_isHour 2 = .ok (.bipush 23, 2) := by decide +kernel
theorem dX11_isHour_4 : decode cX11_isHour 4 = .ok (.invokestatic 147, 3) := by decide +kernel
theorem dX11_isHour_7 : decode cX11_isHour 7 = .ok (.ireturn, 1) := by decide +kernel
theorem dX11_kindOf_0 : decode cX11_kindOf 0 = .ok (.aload_n 0, 1) := by decide +kernel
theorem dX11_kindOf_1 : decode cX11_kindOf 1 = .ok (.getfield 20, 3) := by decide +kernel
theorem dX11_kindOf_4 : decode cX11_kindOf 4 = .ok (.bipush 89, 2) := by decide +kernel
theorem dX11_kindOf_6 : decode cX11_kindOf 6 = .ok (.iconst 4, 1) := by decide +kernel
theorem dX11_kindOf_7 : decode cX11_kindOf 7 = .ok (.iload_n 1, 1) := by decide +kernel
theorem dX11_kindOf_8 : decode cX11_kindOf 8 = .ok (.imul, 1) := by decide +kernel
theorem dX11_kindOf_9 : decode cX11_kindOf 9 = .ok (.iadd, 1) := by decide +kernel
theorem dX11_kindOf_10 : decode cX11_kindOf 10 = .ok (.iaload, 1) := by decide +kernel
theorem dX11_kindOf_11 : decode cX11_kindOf 11 = .ok (.ireturn, 1) := by decide +kernel
theorem dX11_priceOf_0 : decode cX11_priceOf 0 = .ok (.aload_n 0, 1) := by decide +kernel
theorem dX11_priceOf_1 : decode cX11_priceOf 1 = .ok (.getfield 20, 3) := by decide +kernel
theorem dX11_priceOf_4 : decode cX11_priceOf 4 = .ok (.bipush 9, 2) := by decide +kernel
theorem dX11_priceOf_6 : decode cX11_priceOf 6 = .ok (.bipush 8, 2) := by decide +kernel
theorem dX11_priceOf_8 : decode cX11_priceOf 8 = .ok (.iload_n 1, 1) := by decide +kernel
theorem dX11_priceOf_9 : decode cX11_priceOf 9 = .ok (.imul, 1) := by decide +kernel
theorem dX11_priceOf_10 : decode cX11_priceOf 10 = .ok (.iadd, 1) := by decide +kernel
theorem dX11_priceOf_11 : decode cX11_priceOf 11 = .ok (.iaload, 1) := by decide +kernel
theorem dX11_priceOf_12 : decode cX11_priceOf 12 = .ok (.ireturn, 1) := by decide +kernel
theorem dX11_likeOf_0 : decode cX11_likeOf 0 = .ok (.bipush 9, 2) := by decide +kernel
theorem dX11_likeOf_2 : decode cX11_likeOf 2 = .ok (.bipush 8, 2) := by decide +kernel
theorem dX11_likeOf_4 : decode cX11_likeOf 4 = .ok (.iload_n 1, 1) := by decide +kernel
theorem dX11_likeOf_5 : decode cX11_likeOf 5 = .ok (.imul, 1) := by decide +kernel
theorem dX11_likeOf_6 : decode cX11_likeOf 6 = .ok (.iadd, 1) := by decide +kernel
theorem dX11_likeOf_7 : decode cX11_likeOf 7 = .ok (.istore_n 3, 1) := by decide +kernel
theorem dX11_likeOf_8 : decode cX11_likeOf 8 = .ok (.bipush 9, 2) := by decide +kernel
theorem dX11_likeOf_10 : decode cX11_likeOf 10 = .ok (.bipush 8, 2) := by decide +kernel
theorem dX11_likeOf_12 : decode cX11_likeOf 12 = .ok (.iload_n 2, 1) := by decide +kernel
theorem dX11_likeOf_13 : decode cX11_likeOf 13 = .ok (.imul, 1) := by decide +kernel
theorem dX11_likeOf_14 : decode cX11_likeOf 14 = .ok (.iadd, 1) := by decide +kernel
theorem dX11_likeOf_15 : decode cX11_likeOf 15 = .ok (.istore 4, 2) := by decide +kernel
theorem dX11_likeOf_17 : decode cX11_likeOf 17 = .ok (.iconst 0, 1) := by decide +kernel
theorem dX11_likeOf_18 : decode cX11_likeOf 18 = .ok (.istore 5, 2) := by decide +kernel
theorem dX11_likeOf_20 : decode cX11_likeOf 20 = .ok (.iload 5, 2) := by decide +kernel
theorem dX11_likeOf_22 : decode cX11_likeOf 22 = .ok (.aload_n 0, 1) := by decide +kernel
theorem dX11_likeOf_23 : decode cX11_likeOf 23 = .ok (.getfield 20, 3) := by decide +kernel
theorem dX11_likeOf_26 : decode cX11_likeOf 26 = .ok (.iload_n 3, 1) := by decide +kernel
theorem dX11_likeOf_27 : decode cX11_likeOf 27 = .ok (.iconst 1, 1) := by decide +kernel
theorem dX11_likeOf_28 : decode cX11_likeOf 28 = .ok (.iadd, 1) := by decide +kernel
theorem dX11_likeOf_29 : decode cX11_likeOf 29 = .ok (.iaload, 1) := by decide +kernel
theorem dX11_likeOf_30 : decode cX11_likeOf 30 = .ok (.if_icmp .ge 97, 3) := by decide +kernel
theorem dX11_likeOf_33 : decode cX11_likeOf 33 = .ok (.iload 5, 2) := by decide +kernel
theorem dX11_likeOf_35 : decode cX11_likeOf 35 = .ok (.aload_n 0, 1) := by decide +kernel
theorem dX11_likeOf_36 : decode cX11_likeOf 36 = .ok (.getfield 20, 3) := by decide +kernel
theorem dX11_likeOf_39 : decode cX11_likeOf 39 = .ok (.iload 4, 2) := by decide +kernel
theorem dX11_likeOf_41 : decode cX11_likeOf 41 = .ok (.iconst 1, 1) := by decide +kernel
theorem dX11_likeOf_42 : decode cX11_likeOf 42 = .ok (.iadd, 1) := by decide +kernel
theorem dX11_likeOf_43 : decode cX11_likeOf 43 = .ok (.iaload, 1) := by decide +kernel
theorem dX11_likeOf_44 : decode cX11_likeOf 44 = .ok (.if_icmp .ge 83, 3) := by decide +kernel
theorem dX11_likeOf_47 : decode cX11_likeOf 47 = .ok (.aload_n 0, 1) := by decide +kernel
theorem dX11_likeOf_48 : decode cX11_likeOf 48 = .ok (.getfield 20, 3) := by decide +kernel
theorem dX11_likeOf_51 : decode cX11_likeOf 51 = .ok (.iload_n 3, 1) := by decide +kernel
theorem dX11_likeOf_52 : decode cX11_likeOf 52 = .ok (.iconst 1, 1) := by decide +kernel
theorem dX11_likeOf_53 : decode cX11_likeOf 53 = .ok (.iadd, 1) := by decide +kernel
theorem dX11_likeOf_54 : decode cX11_likeOf 54 = .ok (.aload_n 0, 1) := by decide +kernel
theorem dX11_likeOf_55 : decode cX11_likeOf 55 = .ok (.getfield 20, 3) := by decide +kernel
theorem dX11_likeOf_58 : decode cX11_likeOf 58 = .ok (.iload_n 3, 1) := by decide +kernel
theorem dX11_likeOf_59 : decode cX11_likeOf 59 = .ok (.iconst 1, 1) := by decide +kernel
theorem dX11_likeOf_60 : decode cX11_likeOf 60 = .ok (.iadd, 1) := by decide +kernel
theorem dX11_likeOf_61 : decode cX11_likeOf 61 = .ok (.iaload, 1) := by decide +kernel
theorem dX11_likeOf_62 : decode cX11_likeOf 62 = .ok (.iadd, 1) := by decide +kernel
theorem dX11_likeOf_63 : decode cX11_likeOf 63 = .ok (.iload 5, 2) := by decide +kernel
theorem dX11_likeOf_65 : decode cX11_likeOf 65 = .ok (.isub, 1) := by decide +kernel
theorem dX11_likeOf_66 : decode cX11_likeOf 66 = .ok (.iaload, 1) := by decide +kernel
theorem dX11_likeOf_67 : decode cX11_likeOf 67 = .ok (.istore 6, 2) := by decide +kernel
theorem dX11_likeOf_69 : decode cX11_likeOf 69 = .ok (.aload_n 0, 1) := by decide +kernel
theorem dX11_likeOf_70 : decode cX11_likeOf 70 = .ok (.getfield 20, 3) := by decide +kernel
theorem dX11_likeOf_73 : decode cX11_likeOf 73 = .ok (.iload 4, 2) := by decide +kernel
theorem dX11_likeOf_75 : decode cX11_likeOf 75 = .ok (.iconst 1, 1) := by decide +kernel
theorem dX11_likeOf_76 : decode cX11_likeOf 76 = .ok (.iadd, 1) := by decide +kernel
theorem dX11_likeOf_77 : decode cX11_likeOf 77 = .ok (.aload_n 0, 1) := by decide +kernel
theorem dX11_likeOf_78 : decode cX11_likeOf 78 = .ok (.getfield 20, 3) := by decide +kernel
theorem dX11_likeOf_81 : decode cX11_likeOf 81 = .ok (.iload 4, 2) := by decide +kernel
theorem dX11_likeOf_83 : decode cX11_likeOf 83 = .ok (.iconst 1, 1) := by decide +kernel
theorem dX11_likeOf_84 : decode cX11_likeOf 84 = .ok (.iadd, 1) := by decide +kernel
theorem dX11_likeOf_85 : decode cX11_likeOf 85 = .ok (.iaload, 1) := by decide +kernel
theorem dX11_likeOf_86 : decode cX11_likeOf 86 = .ok (.iadd, 1) := by decide +kernel
theorem dX11_likeOf_87 : decode cX11_likeOf 87 = .ok (.iload 5, 2) := by decide +kernel
theorem dX11_likeOf_89 : decode cX11_likeOf 89 = .ok (.isub, 1) := by decide +kernel
theorem dX11_likeOf_90 : decode cX11_likeOf 90 = .ok (.iaload, 1) := by decide +kernel
theorem dX11_likeOf_91 : decode cX11_likeOf 91 = .ok (.istore 7, 2) := by decide +kernel
theorem dX11_likeOf_93 : decode cX11_likeOf 93 = .ok (.iload 6, 2) := by decide +kernel
theorem dX11_likeOf_95 : decode cX11_likeOf 95 = .ok (.iload 7, 2) := by decide +kernel
theorem dX11_likeOf_97 : decode cX11_likeOf 97 = .ok (.if_icmp .eq 24, 3) := by decide +kernel
theorem dX11_likeOf_100 : decode cX11_likeOf 100 = .ok (.aload_n 0, 1) := by decide +kernel
theorem dX11_likeOf_101 : decode cX11_likeOf 101 = .ok (.getfield 20, 3) := by decide +kernel
theorem dX11_likeOf_104 : decode cX11_likeOf 104 = .ok (.bipush 121, 2) := by decide +kernel
theorem dX11_likeOf_106 : decode cX11_likeOf 106 = .ok (.iload 6, 2) := by decide +kernel
theorem dX11_likeOf_108 : decode cX11_likeOf 108 = .ok (.iadd, 1) := by decide +kernel
theorem dX11_likeOf_109 : decode cX11_likeOf 109 = .ok (.iaload, 1) := by decide +kernel
theorem dX11_likeOf_110 : decode cX11_likeOf 110 = .ok (.iload 7, 2) := by decide +kernel
theorem dX11_likeOf_112 : decode cX11_likeOf 112 = .ok (.invokestatic 266, 3) := by decide +kernel
theorem dX11_likeOf_115 : decode cX11_likeOf 115 = .ok (.ifCond .ne 6, 3) := by decide +kernel
theorem dX11_likeOf_118 : decode cX11_likeOf 118 = .ok (.iload 5, 2) := by decide +kernel
theorem dX11_likeOf_120 : decode cX11_likeOf 120 = .ok (.ireturn, 1) := by decide +kernel
theorem dX11_likeOf_121 : decode cX11_likeOf 121 = .ok (.iinc 5 1, 3) := by decide +kernel
theorem dX11_likeOf_124 : decode cX11_likeOf 124 = .ok (.goto (-104), 3) := by decide +kernel
theorem dX11_likeOf_127 : decode cX11_likeOf 127 = .ok (.iload 5, 2) := by decide +kernel
theorem dX11_likeOf_129 : decode cX11_likeOf 129 = .ok (.ireturn, 1) := by decide +kernel
theorem dX11_eyeOf_0 : decode cX11_eyeOf 0 = .ok (.iconst 0, 1) := by decide +kernel
theorem dX11_eyeOf_1 : decode cX11_eyeOf 1 = .ok (.istore_n 3, 1) := by decide +kernel
theorem dX11_eyeOf_2 : decode cX11_eyeOf 2 = .ok (.iload_n 3, 1) := by decide +kernel
theorem dX11_eyeOf_3 : decode cX11_eyeOf 3 = .ok (.aload_n 0, 1) := by decide +kernel
theorem dX11_eyeOf_4 : decode cX11_eyeOf 4 = .ok (.getfield 20, 3) := by decide +kernel
theorem dX11_eyeOf_7 : decode cX11_eyeOf 7 = .ok (.sipush 171, 3) := by decide +kernel
theorem dX11_eyeOf_10 : decode cX11_eyeOf 10 = .ok (.iload_n 1, 1) := by decide +kernel
theorem dX11_eyeOf_11 : decode cX11_eyeOf 11 = .ok (.iadd, 1) := by decide +kernel
theorem dX11_eyeOf_12 : decode cX11_eyeOf 12 = .ok (.iaload, 1) := by decide +kernel
theorem dX11_eyeOf_13 : decode cX11_eyeOf 13 = .ok (.if_icmp .ge 82, 3) := by decide +kernel
theorem dX11_eyeOf_16 : decode cX11_eyeOf 16 = .ok (.iload_n 3, 1) := by decide +kernel
theorem dX11_eyeOf_17 : decode cX11_eyeOf 17 = .ok (.aload_n 0, 1) := by decide +kernel
theorem dX11_eyeOf_18 : decode cX11_eyeOf 18 = .ok (.getfield 20, 3) := by decide +kernel
theorem dX11_eyeOf_21 : decode cX11_eyeOf 21 = .ok (.sipush 171, 3) := by decide +kernel
theorem dX11_eyeOf_24 : decode cX11_eyeOf 24 = .ok (.iload_n 2, 1) := by decide +kernel
theorem dX11_eyeOf_25 : decode cX11_eyeOf 25 = .ok (.iadd, 1) := by decide +kernel
theorem dX11_eyeOf_26 : decode cX11_eyeOf 26 = .ok (.iaload, 1) := by decide +kernel
theorem dX11_eyeOf_27 : decode cX11_eyeOf 27 = .ok (.if_icmp .ge 68, 3) := by decide +kernel
theorem dX11_eyeOf_30 : decode cX11_eyeOf 30 = .ok (.aload_n 0, 1) := by decide +kernel
theorem dX11_eyeOf_31 : decode cX11_eyeOf 31 = .ok (.getfield 20, 3) := by decide +kernel
theorem dX11_eyeOf_34 : decode cX11_eyeOf 34 = .ok (.sipush 189, 3) := by decide +kernel
theorem dX11_eyeOf_37 : decode cX11_eyeOf 37 = .ok (.bipush 8, 2) := by decide +kernel
theorem dX11_eyeOf_39 : decode cX11_eyeOf 39 = .ok (.iload_n 1, 1) := by decide +kernel
theorem dX11_eyeOf_40 : decode cX11_eyeOf 40 = .ok (.imul, 1) := by decide +kernel
theorem dX11_eyeOf_41 : decode cX11_eyeOf 41 = .ok (.iadd, 1) := by decide +kernel
theorem dX11_eyeOf_42 : decode cX11_eyeOf 42 = .ok (.aload_n 0, 1) := by decide +kernel
theorem dX11_eyeOf_43 : decode cX11_eyeOf 43 = .ok (.getfield 20, 3) := by decide +kernel
theorem dX11_eyeOf_46 : decode cX11_eyeOf 46 = .ok (.sipush 171, 3) := by decide +kernel
theorem dX11_eyeOf_49 : decode cX11_eyeOf 49 = .ok (.iload_n 1, 1) := by decide +kernel
theorem dX11_eyeOf_50 : decode cX11_eyeOf 50 = .ok (.iadd, 1) := by decide +kernel
theorem dX11_eyeOf_51 : decode cX11_eyeOf 51 = .ok (.iaload, 1) := by decide +kernel
theorem dX11_eyeOf_52 : decode cX11_eyeOf 52 = .ok (.iadd, 1) := by decide +kernel
theorem dX11_eyeOf_53 : decode cX11_eyeOf 53 = .ok (.iconst 1, 1) := by decide +kernel
theorem dX11_eyeOf_54 : decode cX11_eyeOf 54 = .ok (.isub, 1) := by decide +kernel
theorem dX11_eyeOf_55 : decode cX11_eyeOf 55 = .ok (.iload_n 3, 1) := by decide +kernel
theorem dX11_eyeOf_56 : decode cX11_eyeOf 56 = .ok (.isub, 1) := by decide +kernel
theorem dX11_eyeOf_57 : decode cX11_eyeOf 57 = .ok (.iaload, 1) := by decide +kernel
theorem dX11_eyeOf_58 : decode cX11_eyeOf 58 = .ok (.aload_n 0, 1) := by decide +kernel
theorem dX11_eyeOf_59 : decode cX11_eyeOf 59 = .ok (.getfield 20, 3) := by decide +kernel
theorem dX11_eyeOf_62 : decode cX11_eyeOf 62 = .ok (.sipush 189, 3) := by decide +kernel
theorem dX11_eyeOf_65 : decode cX11_eyeOf 65 = .ok (.bipush 8, 2) := by decide +kernel
theorem dX11_eyeOf_67 : decode cX11_eyeOf 67 = .ok (.iload_n 2, 1) := by decide +kernel
theorem dX11_eyeOf_68 : decode cX11_eyeOf 68 = .ok (.imul, 1) := by decide +kernel
theorem dX11_eyeOf_69 : decode cX11_eyeOf 69 = .ok (.iadd, 1) := by decide +kernel
theorem dX11_eyeOf_70 : decode cX11_eyeOf 70 = .ok (.aload_n 0, 1) := by decide +kernel
theorem dX11_eyeOf_71 : decode cX11_eyeOf 71 = .ok (.getfield 20, 3) := by decide +kernel
theorem dX11_eyeOf_74 : decode cX11_eyeOf 74 = .ok (.sipush 171, 3) := by decide +kernel
theorem dX11_eyeOf_77 : decode cX11_eyeOf 77 = .ok (.iload_n 2, 1) := by decide +kernel
theorem dX11_eyeOf_78 : decode cX11_eyeOf 78 = .ok (.iadd, 1) := by decide +kernel
theorem dX11_eyeOf_79 : decode cX11_eyeOf 79 = .ok (.iaload, 1) := by decide +kernel
theorem dX11_eyeOf_80 : decode cX11_eyeOf 80 = .ok (.iadd, 1) := by decide +kernel
theorem dX11_eyeOf_81 : decode cX11_eyeOf 81 = .ok (.iconst 1, 1) := by decide +kernel
theorem dX11_eyeOf_82 : decode cX11_eyeOf 82 = .ok (.isub, 1) := by decide +kernel
theorem dX11_eyeOf_83 : decode cX11_eyeOf 83 = .ok (.iload_n 3, 1) := by decide +kernel
theorem dX11_eyeOf_84 : decode cX11_eyeOf 84 = .ok (.isub, 1) := by decide +kernel
theorem dX11_eyeOf_85 : decode cX11_eyeOf 85 = .ok (.iaload, 1) := by decide +kernel
theorem dX11_eyeOf_86 : decode cX11_eyeOf 86 = .ok (.if_icmp .ne 9, 3) := by decide +kernel
theorem dX11_eyeOf_89 : decode cX11_eyeOf 89 = .ok (.iinc 3 1, 3) := by decide +kernel
theorem dX11_eyeOf_92 : decode cX11_eyeOf 92 = .ok (.goto (-90), 3) := by decide +kernel
theorem dX11_eyeOf_95 : decode cX11_eyeOf 95 = .ok (.iload_n 3, 1) := by decide +kernel
theorem dX11_eyeOf_96 : decode cX11_eyeOf 96 = .ok (.ireturn, 1) := by decide +kernel
theorem dX11_rhymeOf_0 : decode cX11_rhymeOf 0 = .ok (.iload_n 1, 1) := by decide +kernel
theorem dX11_rhymeOf_1 : decode cX11_rhymeOf 1 = .ok (.iconst 2, 1) := by decide +kernel
theorem dX11_rhymeOf_2 : decode cX11_rhymeOf 2 = .ok (.if_icmp .eq 8, 3) := by decide +kernel
theorem dX11_rhymeOf_5 : decode cX11_rhymeOf 5 = .ok (.iload_n 3, 1) := by decide +kernel
theorem dX11_rhymeOf_6 : decode cX11_rhymeOf 6 = .ok (.iconst 2, 1) := by decide +kernel
theorem dX11_rhymeOf_7 : decode cX11_rhymeOf 7 = .ok (.if_icmp .ne 5, 3) := by decide +kernel
theorem dX11_rhymeOf_10 : decode cX11_rhymeOf 10 = .ok (.iconst 2, 1) := by decide +kernel
theorem dX11_rhymeOf_11 : decode cX11_rhymeOf 11 = .ok (.ireturn, 1) := by decide +kernel
theorem dX11_rhymeOf_12 : decode cX11_rhymeOf 12 = .ok (.iconst 0, 1) := by decide +kernel
theorem dX11_rhymeOf_13 : decode cX11_rhymeOf 13 = .ok (.istore 6, 2) := by decide +kernel
theorem dX11_rhymeOf_15 : decode cX11_rhymeOf 15 = .ok (.iconst 0, 1) := by decide +kernel
theorem dX11_rhymeOf_16 : decode cX11_rhymeOf 16 = .ok (.istore 7, 2) := by decide +kernel
theorem dX11_rhymeOf_18 : decode cX11_rhymeOf 18 = .ok (.iload 7, 2) := by decide +kernel
theorem dX11_rhymeOf_20 : decode cX11_rhymeOf 20 = .ok (.aload_n 0, 1) := by decide +kernel
theorem dX11_rhymeOf_21 : decode cX11_rhymeOf 21 = .ok (.getfield 20, 3) := by decide +kernel
theorem dX11_rhymeOf_24 : decode cX11_rhymeOf 24 = .ok (.iconst 2, 1) := by decide +kernel
theorem dX11_rhymeOf_25 : decode cX11_rhymeOf 25 = .ok (.iaload, 1) := by decide +kernel
theorem dX11_rhymeOf_26 : decode cX11_rhymeOf 26 = .ok (.if_icmp .ge 98, 3) := by decide +kernel
theorem dX11_rhymeOf_29 : decode cX11_rhymeOf 29 = .ok (.iconst 0, 1) := by decide +kernel
theorem dX11_rhymeOf_30 : decode cX11_rhymeOf 30 = .ok (.istore 8, 2) := by decide +kernel
theorem dX11_rhymeOf_32 : decode cX11_rhymeOf 32 = .ok (.iload 8, 2) := by decide +kernel
theorem dX11_rhymeOf_34 : decode cX11_rhymeOf 34 = .ok (.aload_n 0, 1) := by decide +kernel
theorem dX11_rhymeOf_35 : decode cX11_rhymeOf 35 = .ok (.getfield 20, 3) := by decide +kernel
theorem dX11_rhymeOf_38 : decode cX11_rhymeOf 38 = .ok (.iconst 2, 1) := by decide +kernel
theorem dX11_rhymeOf_39 : decode cX11_rhymeOf 39 = .ok (.iaload, 1) := by decide +kernel
theorem dX11_rhymeOf_40 : decode cX11_rhymeOf 40 = .ok (.if_icmp .ge 78, 3) := by decide +kernel
theorem dX11_rhymeOf_43 : decode cX11_rhymeOf 43 = .ok (.iload_n 2, 1) := by decide +kernel
theorem dX11_rhymeOf_44 : decode cX11_rhymeOf 44 = .ok (.iload 7, 2) := by decide +kernel
theorem dX11_rhymeOf_46 : decode cX11_rhymeOf 46 = .ok (.invokestatic 266, 3) := by decide +kernel
theorem dX11_rhymeOf_49 : decode cX11_rhymeOf 49 = .ok (.ifCond .eq 63, 3) := by decide +kernel
theorem dX11_rhymeOf_52 : decode cX11_rhymeOf 52 = .ok (.iload 4, 2) := by decide +kernel
theorem dX11_rhymeOf_54 : decode cX11_rhymeOf 54 = .ok (.iload 8, 2) := by decide +kernel
theorem dX11_rhymeOf_56 : decode cX11_rhymeOf 56 = .ok (.invokestatic 266, 3) := by decide +kernel
theorem dX11_rhymeOf_59 : decode cX11_rhymeOf 59 = .ok (.ifCond .ne 6, 3) := by decide +kernel
theorem dX11_rhymeOf_62 : decode cX11_rhymeOf 62 = .ok (.goto 50, 3) := by decide +kernel
theorem dX11_rhymeOf_65 : decode cX11_rhymeOf 65 = .ok (.iload_n 1, 1) := by decide +kernel
theorem dX11_rhymeOf_66 : decode cX11_rhymeOf 66 = .ok (.iconst 1, 1) := by decide +kernel
theorem dX11_rhymeOf_67 : decode cX11_rhymeOf 67 = .ok (.if_icmp .eq 8, 3) := by decide +kernel
theorem dX11_rhymeOf_70 : decode cX11_rhymeOf 70 = .ok (.iload_n 3, 1) := by decide +kernel
theorem dX11_rhymeOf_71 : decode cX11_rhymeOf 71 = .ok (.iconst 1, 1) := by decide +kernel
theorem dX11_rhymeOf_72 : decode cX11_rhymeOf 72 = .ok (.if_icmp .ne 14, 3) := by decide +kernel
theorem dX11_rhymeOf_75 : decode cX11_rhymeOf 75 = .ok (.aload_n 0, 1) := by decide +kernel
theorem dX11_rhymeOf_76 : decode cX11_rhymeOf 76 = .ok (.iload 7, 2) := by decide +kernel
theorem dX11_rhymeOf_78 : decode cX11_rhymeOf 78 = .ok (.iload 8, 2) := by decide +kernel
theorem dX11_rhymeOf_80 : decode cX11_rhymeOf 80 = .ok (.invokevirtual 281, 3) := by decide +kernel
theorem dX11_rhymeOf_83 : decode cX11_rhymeOf 83 = .ok (.goto 11, 3) := by decide +kernel
theorem dX11_rhymeOf_86 : decode cX11_rhymeOf 86 = .ok (.aload_n 0, 1) := by decide +kernel
theorem dX11_rhymeOf_87 : decode cX11_rhymeOf 87 = .ok (.iload 7, 2) := by decide +kernel
theorem dX11_rhymeOf_89 : decode cX11_rhymeOf 89 = .ok (.iload 8, 2) := by decide +kernel
theorem dX11_rhymeOf_91 : decode cX11_rhymeOf 91 = .ok (.invokevirtual 284, 3) := by decide +kernel
theorem dX11_rhymeOf_94 : decode cX11_rhymeOf 94 = .ok (.istore 9, 2) := by decide +kernel
theorem dX11_rhymeOf_96 : decode cX11_rhymeOf 96 = .ok (.iload 9, 2) := by decide +kernel
theorem dX11_rhymeOf_98 : decode cX11_rhymeOf 98 = .ok (.iload 6, 2) := by decide +kernel
theorem dX11_rhymeOf_100 : decode cX11_rhymeOf 100 = .ok (.if_icmp .le 8, 3) := by decide +kernel
theorem dX11_rhymeOf_103 : decode cX11_rhymeOf 103 = .ok (.iload 9, 2) := by decide +kernel
theorem dX11_rhymeOf_105 : decode cX11_rhymeOf 105 = .ok (.goto 5, 3) := by decide +kernel
theorem dX11_rhymeOf_108 : decode cX11_rhymeOf 108 = .ok (.iload 6, 2) := by decide +kernel
theorem dX11_rhymeOf_110 : decode cX11_rhymeOf 110 = .ok (.istore 6, 2) := by decide +kernel
theorem dX11_rhymeOf_112 : decode cX11_rhymeOf 112 = .ok (.iinc 8 1, 3) := by decide +kernel
theorem dX11_rhymeOf_115 : decode cX11_rhymeOf 115 = .ok (.goto (-83), 3) := by decide +kernel
theorem dX11_rhymeOf_118 : decode cX11_rhymeOf 118 = .ok (.iinc 7 1, 3) := by decide +kernel
theorem dX11_rhymeOf_121 : decode cX11_rhymeOf 121 = .ok (.goto (-103), 3) := by decide +kernel
theorem dX11_rhymeOf_124 : decode cX11_rhymeOf 124 = .ok (.iload 6, 2) := by decide +kernel
theorem dX11_rhymeOf_126 : decode cX11_rhymeOf 126 = .ok (.iload 5, 2) := by decide +kernel
theorem dX11_rhymeOf_128 : decode cX11_rhymeOf 128 = .ok (.if_icmp .lt 5, 3) := by decide +kernel
theorem dX11_rhymeOf_131 : decode cX11_rhymeOf 131 = .ok (.iconst 2, 1) := by decide +kernel
theorem dX11_rhymeOf_132 : decode cX11_rhymeOf 132 = .ok (.ireturn, 1) := by decide +kernel
theorem dX11_rhymeOf_133 : decode cX11_rhymeOf 133 = .ok (.iload 6, 2) := by decide +kernel
theorem dX11_rhymeOf_135 : decode cX11_rhymeOf 135 = .ok (.iload 5, 2) := by decide +kernel
theorem dX11_rhymeOf_137 : decode cX11_rhymeOf 137 = .ok (.iconst 1, 1) := by decide +kernel
theorem dX11_rhymeOf_138 : decode cX11_rhymeOf 138 = .ok (.isub, 1) := by decide +kernel
theorem dX11_rhymeOf_139 : decode cX11_rhymeOf 139 = .ok (.if_icmp .ge 7, 3) := by decide +kernel
theorem dX11_rhymeOf_142 : decode cX11_rhymeOf 142 = .ok (.iconst 0, 1) := by decide +kernel
theorem dX11_rhymeOf_143 : decode cX11_rhymeOf 143 = .ok (.goto 18, 3) := by decide +kernel
theorem dX11_rhymeOf_146 : decode cX11_rhymeOf 146 = .ok (.iload_n 1, 1) := by decide +kernel
theorem dX11_rhymeOf_147 : decode cX11_rhymeOf 147 = .ok (.iconst 3, 1) := by decide +kernel
theorem dX11_rhymeOf_148 : decode cX11_rhymeOf 148 = .ok (.if_icmp .eq 8, 3) := by decide +kernel
theorem dX11_rhymeOf_151 : decode cX11_rhymeOf 151 = .ok (.iload_n 3, 1) := by decide +kernel
theorem dX11_rhymeOf_152 : decode cX11_rhymeOf 152 = .ok (.iconst 3, 1) := by decide +kernel
theorem dX11_rhymeOf_153 : decode cX11_rhymeOf 153 = .ok (.if_icmp .ne 7, 3) := by decide +kernel
theorem dX11_rhymeOf_156 : decode cX11_rhymeOf 156 = .ok (.iconst 2, 1) := by decide +kernel
theorem dX11_rhymeOf_157 : decode cX11_rhymeOf 157 = .ok (.goto 4, 3) := by decide +kernel
theorem dX11_rhymeOf_160 : decode cX11_rhymeOf 160 = .ok (.iconst 1, 1) := by decide +kernel
theorem dX11_rhymeOf_161 : decode cX11_rhymeOf 161 = .ok (.ireturn, 1) := by decide +kernel
theorem dX11_rhymeNow_0 : decode cX11_rhymeNow 0 = .ok (.aload_n 0, 1) := by decide +kernel
theorem dX11_rhymeNow_1 : decode cX11_rhymeNow 1 = .ok (.aload_n 0, 1) := by decide +kernel
theorem dX11_rhymeNow_2 : decode cX11_rhymeNow 2 = .ok (.iload_n 1, 1) := by decide +kernel
theorem dX11_rhymeNow_3 : decode cX11_rhymeNow 3 = .ok (.invokevirtual 287, 3) := by decide +kernel
theorem dX11_rhymeNow_6 : decode cX11_rhymeNow 6 = .ok (.aload_n 0, 1) := by decide +kernel
theorem dX11_rhymeNow_7 : decode cX11_rhymeNow 7 = .ok (.getfield 26, 3) := by decide +kernel
theorem dX11_rhymeNow_10 : decode cX11_rhymeNow 10 = .ok (.bipush 8, 2) := by decide +kernel
theorem dX11_rhymeNow_12 : decode cX11_rhymeNow 12 = .ok (.iload_n 1, 1) := by decide +kernel
theorem dX11_rhymeNow_13 : decode cX11_rhymeNow 13 = .ok (.iadd, 1) := by decide +kernel
theorem dX11_rhymeNow_14 : decode cX11_rhymeNow 14 = .ok (.iaload, 1) := by decide +kernel
theorem dX11_rhymeNow_15 : decode cX11_rhymeNow 15 = .ok (.aload_n 0, 1) := by decide +kernel
theorem dX11_rhymeNow_16 : decode cX11_rhymeNow 16 = .ok (.iload_n 2, 1) := by decide +kernel
theorem dX11_rhymeNow_17 : decode cX11_rhymeNow 17 = .ok (.invokevirtual 287, 3) := by decide +kernel
theorem dX11_rhymeNow_20 : decode cX11_rhymeNow 20 = .ok (.aload_n 0, 1) := by decide +kernel
theorem dX11_rhymeNow_21 : decode cX11_rhymeNow 21 = .ok (.getfield 26, 3) := by decide +kernel
theorem dX11_rhymeNow_24 : decode cX11_rhymeNow 24 = .ok (.bipush 8, 2) := by decide +kernel
theorem dX11_rhymeNow_26 : decode cX11_rhymeNow 26 = .ok (.iload_n 2, 1) := by decide +kernel
theorem dX11_rhymeNow_27 : decode cX11_rhymeNow 27 = .ok (.iadd, 1) := by decide +kernel
theorem dX11_rhymeNow_28 : decode cX11_rhymeNow 28 = .ok (.iaload, 1) := by decide +kernel
theorem dX11_rhymeNow_29 : decode cX11_rhymeNow 29 = .ok (.iload_n 3, 1) := by decide +kernel
theorem dX11_rhymeNow_30 : decode cX11_rhymeNow 30 = .ok (.invokevirtual 290, 3) := by decide +kernel
theorem dX11_rhymeNow_33 : decode cX11_rhymeNow 33 = .ok (.ireturn, 1) := by decide +kernel
theorem dX11_earAt_0 : decode cX11_earAt 0 = .ok (.aload_n 0, 1) := by decide +kernel
theorem dX11_earAt_1 : decode cX11_earAt 1 = .ok (.getfield 20, 3) := by decide +kernel
theorem dX11_earAt_4 : decode cX11_earAt 4 = .ok (.sipush 129, 3) := by decide +kernel
theorem dX11_earAt_7 : decode cX11_earAt 7 = .ok (.iload_n 1, 1) := by decide +kernel
theorem dX11_earAt_8 : decode cX11_earAt 8 = .ok (.iadd, 1) := by decide +kernel
theorem dX11_earAt_9 : decode cX11_earAt 9 = .ok (.iaload, 1) := by decide +kernel
theorem dX11_earAt_10 : decode cX11_earAt 10 = .ok (.ifCond .le 16, 3) := by decide +kernel
theorem dX11_earAt_13 : decode cX11_earAt 13 = .ok (.aload_n 0, 1) := by decide +kernel
theorem dX11_earAt_14 : decode cX11_earAt 14 = .ok (.getfield 20, 3) := by decide +kernel
theorem dX11_earAt_17 : decode cX11_earAt 17 = .ok (.sipush 129, 3) := by decide +kernel
theorem dX11_earAt_20 : decode cX11_earAt 20 = .ok (.iload_n 1, 1) := by decide +kernel
theorem dX11_earAt_21 : decode cX11_earAt 21 = .ok (.iadd, 1) := by decide +kernel
theorem dX11_earAt_22 : decode cX11_earAt 22 = .ok (.iaload, 1) := by decide +kernel
theorem dX11_earAt_23 : decode cX11_earAt 23 = .ok (.goto 9, 3) := by decide +kernel
theorem dX11_earAt_26 : decode cX11_earAt 26 = .ok (.aload_n 0, 1) := by decide +kernel
theorem dX11_earAt_27 : decode cX11_earAt 27 = .ok (.getfield 20, 3) := by decide +kernel
theorem dX11_earAt_30 : decode cX11_earAt 30 = .ok (.iconst 0, 1) := by decide +kernel
theorem dX11_earAt_31 : decode cX11_earAt 31 = .ok (.iaload, 1) := by decide +kernel
theorem dX11_earAt_32 : decode cX11_earAt 32 = .ok (.ireturn, 1) := by decide +kernel
theorem dX11_withBy_0 : decode cX11_withBy 0 = .ok (.iconst 0, 1) := by decide +kernel
theorem dX11_withBy_1 : decode cX11_withBy 1 = .ok (.istore 4, 2) := by decide +kernel
theorem dX11_withBy_3 : decode cX11_withBy 3 = .ok (.iconst 0, 1) := by decide +kernel
theorem dX11_withBy_4 : decode cX11_withBy 4 = .ok (.istore 5, 2) := by decide +kernel
theorem dX11_withBy_6 : decode cX11_withBy 6 = .ok (.iload 5, 2) := by decide +kernel
theorem dX11_withBy_8 : decode cX11_withBy 8 = .ok (.aload_n 0, 1) := by decide +kernel
theorem dX11_withBy_9 : decode cX11_withBy 9 = .ok (.getfield 20, 3) := by decide +kernel
theorem dX11_withBy_12 : decode cX11_withBy 12 = .ok (.iconst 3, 1) := by decide +kernel
theorem dX11_withBy_13 : decode cX11_withBy 13 = .ok (.iaload, 1) := by decide +kernel
theorem dX11_withBy_14 : decode cX11_withBy 14 = .ok (.if_icmp .ge 59, 3) := by decide +kernel
theorem dX11_withBy_17 : decode cX11_withBy 17 = .ok (.iload 4, 2) := by decide +kernel
theorem dX11_withBy_19 : decode cX11_withBy 19 = .ok (.iload 5, 2) := by decide +kernel
theorem dX11_withBy_21 : decode cX11_withBy 21 = .ok (.iload_n 1, 1) := by decide +kernel
theorem dX11_withBy_22 : decode cX11_withBy 22 = .ok (.if_icmp .eq 41, 3) := by decide +kernel
theorem dX11_withBy_25 : decode cX11_withBy 25 = .ok (.aload_n 0, 1) := by decide +kernel
theorem dX11_withBy_26 : decode cX11_withBy 26 = .ok (.aload_n 0, 1) := by decide +kernel
theorem dX11_withBy_27 : decode cX11_withBy 27 = .ok (.iload_n 1, 1) := by decide +kernel
theorem dX11_withBy_28 : decode cX11_withBy 28 = .ok (.invokevirtual 287, 3) := by decide +kernel
theorem dX11_withBy_31 : decode cX11_withBy 31 = .ok (.iload_n 2, 1) := by decide +kernel
theorem dX11_withBy_32 : decode cX11_withBy 32 = .ok (.aload_n 0, 1) := by decide +kernel
theorem dX11_withBy_33 : decode cX11_withBy 33 = .ok (.iload 5, 2) := by decide +kernel
theorem dX11_withBy_35 : decode cX11_withBy 35 = .ok (.invokevirtual 287, 3) := by decide +kernel
theorem dX11_withBy_38 : decode cX11_withBy 38 = .ok (.aload_n 0, 1) := by decide +kernel
theorem dX11_withBy_39 : decode cX11_withBy 39 = .ok (.getfield 26, 3) := by decide +kernel
theorem dX11_withBy_42 : decode cX11_withBy 42 = .ok (.bipush 8, 2) := by decide +kernel
theorem dX11_withBy_44 : decode cX11_withBy 44 = .ok (.iload 5, 2) := by decide +kernel
theorem dX11_withBy_46 : decode cX11_withBy 46 = .ok (.iadd, 1) := by decide +kernel
theorem dX11_withBy_47 : decode cX11_withBy 47 = .ok (.iaload, 1) := by decide +kernel
theorem dX11_withBy_48 : decode cX11_withBy 48 = .ok (.iload_n 3, 1) := by decide +kernel
theorem dX11_withBy_49 : decode cX11_withBy 49 = .ok (.invokevirtual 290, 3) := by decide +kernel
theorem dX11_withBy_52 : decode cX11_withBy 52 = .ok (.iconst 2, 1) := by decide +kernel
theorem dX11_withBy_53 : decode cX11_withBy 53 = .ok (.if_icmp .ne 10, 3) := by decide +kernel
theorem dX11_withBy_56 : decode cX11_withBy 56 = .ok (.iconst 1, 1) := by decide +kernel
theorem dX11_withBy_57 : decode cX11_withBy 57 = .ok (.iload 5, 2) := by decide +kernel
theorem dX11_withBy_59 : decode cX11_withBy 59 = .ok (.ishl, 1) := by decide +kernel
theorem dX11_withBy_60 : decode cX11_withBy 60 = .ok (.goto 4, 3) := by decide +kernel
theorem dX11_withBy_63 : decode cX11_withBy 63 = .ok (.iconst 0, 1) := by decide +kernel
theorem dX11_withBy_64 : decode cX11_withBy 64 = .ok (.ior, 1) := by decide +kernel
theorem dX11_withBy_65 : decode cX11_withBy 65 = .ok (.istore 4, 2) := by decide +kernel
theorem dX11_withBy_67 : decode cX11_withBy 67 = .ok (.iinc 5 1, 3) := by decide +kernel
theorem dX11_withBy_70 : decode cX11_withBy 70 = .ok (.goto (-64), 3) := by decide +kernel
theorem dX11_withBy_73 : decode cX11_withBy 73 = .ok (.iload 4, 2) := by decide +kernel
theorem dX11_withBy_75 : decode cX11_withBy 75 = .ok (.ireturn, 1) := by decide +kernel
theorem dX11_onBank_0 : decode cX11_onBank 0 = .ok (.iconst 0, 1) := by decide +kernel
theorem dX11_onBank_1 : decode cX11_onBank 1 = .ok (.istore_n 2, 1) := by decide +kernel
theorem dX11_onBank_2 : decode cX11_onBank 2 = .ok (.iconst 0, 1) := by decide +kernel
theorem dX11_onBank_3 : decode cX11_onBank 3 = .ok (.istore_n 3, 1) := by decide +kernel
theorem dX11_onBank_4 : decode cX11_onBank 4 = .ok (.iload_n 3, 1) := by decide +kernel
theorem dX11_onBank_5 : decode cX11_onBank 5 = .ok (.aload_n 0, 1) := by decide +kernel
theorem dX11_onBank_6 : decode cX11_onBank 6 = .ok (.getfield 20, 3) := by decide +kernel
theorem dX11_onBank_9 : decode cX11_onBank 9 = .ok (.iconst 3, 1) := by decide +kernel
theorem dX11_onBank_10 : decode cX11_onBank 10 = .ok (.iaload, 1) := by decide +kernel
theorem dX11_onBank_11 : decode cX11_onBank 11 = .ok (.if_icmp .ge 29, 3) := by decide +kernel
theorem dX11_onBank_14 : decode cX11_onBank 14 = .ok (.iload_n 2, 1) := by decide +kernel
theorem dX11_onBank_15 : decode cX11_onBank 15 = .ok (.aload_n 0, 1) := by decide +kernel
theorem dX11_onBank_16 : decode cX11_onBank 16 = .ok (.getfield 26, 3) := by decide +kernel
theorem dX11_onBank_19 : decode cX11_onBank 19 = .ok (.iload_n 3, 1) := by decide +kernel
theorem dX11_onBank_20 : decode cX11_onBank 20 = .ok (.iaload, 1) := by decide +kernel
theorem dX11_onBank_21 : decode cX11_onBank 21 = .ok (.iload_n 1, 1) := by decide +kernel
theorem dX11_onBank_22 : decode cX11_onBank 22 = .ok (.if_icmp .ne 9, 3) := by decide +kernel
theorem dX11_onBank_25 : decode cX11_onBank 25 = .ok (.iconst 1, 1) := by decide +kernel
theorem dX11_onBank_26 : decode cX11_onBank 26 = .ok (.iload_n 3, 1) := by decide +kernel
theorem dX11_onBank_27 : decode cX11_onBank 27 = .ok (.ishl, 1) := by decide +kernel
theorem dX11_onBank_28 : decode cX11_onBank 28 = .ok (.goto 4, 3) := by decide +kernel
theorem dX11_onBank_31 : decode cX11_onBank 31 = .ok (.iconst 0, 1) := by decide +kernel
theorem dX11_onBank_32 : decode cX11_onBank 32 = .ok (.ior, 1) := by decide +kernel
theorem dX11_onBank_33 : decode cX11_onBank 33 = .ok (.istore_n 2, 1) := by decide +kernel
theorem dX11_onBank_34 : decode cX11_onBank 34 = .ok (.iinc 3 1, 3) := by decide +kernel
theorem dX11_onBank_37 : decode cX11_onBank 37 = .ok (.goto (-33), 3) := by decide +kernel
theorem dX11_onBank_40 : decode cX11_onBank 40 = .ok (.iload_n 2, 1) := by decide +kernel
theorem dX11_onBank_41 : decode cX11_onBank 41 = .ok (.ireturn, 1) := by decide +kernel
theorem dX11_word_0 : decode cX11_word 0 = .ok (.aload_n 0, 1) := by decide +kernel
theorem dX11_word_1 : decode cX11_word 1 = .ok (.invokevirtual 168, 3) := by decide +kernel
theorem dX11_word_4 : decode cX11_word 4 = .ok (.aload_n 0, 1) := by decide +kernel
theorem dX11_word_5 : decode cX11_word 5 = .ok (.iload_n 1, 1) := by decide +kernel
theorem dX11_word_6 : decode cX11_word 6 = .ok (.invokevirtual 294, 3) := by decide +kernel
theorem dX11_word_9 : decode cX11_word 9 = .ok (.ifCond .eq 12, 3) := by decide +kernel
theorem dX11_word_12 : decode cX11_word 12 = .ok (.iload_n 2, 1) := by decide +kernel
theorem dX11_word_13 : decode cX11_word 13 = .ok (.iconst 0, 1) := by decide +kernel
theorem dX11_word_14 : decode cX11_word 14 = .ok (.iconst 2, 1) := by decide +kernel
theorem dX11_word_15 : decode cX11_word 15 = .ok (.invokestatic 147, 3) := by decide +kernel
theorem dX11_word_18 : decode cX11_word 18 = .ok (.ifCond .ne 9, 3) := by decide +kernel
theorem dX11_word_21 : decode cX11_word 21 = .ok (.aload_n 0, 1) := by decide +kernel
theorem dX11_word_22 : decode cX11_word 22 = .ok (.iconst 1, 1) := by decide +kernel
theorem dX11_word_23 : decode cX11_word 23 = .ok (.invokevirtual 171, 3) := by decide +kernel
theorem dX11_word_26 : decode cX11_word 26 = .ok (.ireturn, 1) := by decide +kernel
theorem dX11_word_27 : decode cX11_word 27 = .ok (.iload_n 2, 1) := by decide +kernel
theorem dX11_word_28 : decode cX11_word 28 = .ok (.iconst 2, 1) := by decide +kernel
theorem dX11_word_29 : decode cX11_word 29 = .ok (.if_icmp .ge 18, 3) := by decide +kernel
theorem dX11_word_32 : decode cX11_word 32 = .ok (.aload_n 0, 1) := by decide +kernel
theorem dX11_word_33 : decode cX11_word 33 = .ok (.getfield 20, 3) := by decide +kernel
theorem dX11_word_36 : decode cX11_word 36 = .ok (.bipush 9, 2) := by decide +kernel
theorem dX11_word_38 : decode cX11_word 38 = .ok (.bipush 8, 2) := by decide +kernel
theorem dX11_word_40 : decode cX11_word 40 = .ok (.iload_n 1, 1) := by decide +kernel
theorem dX11_word_41 : decode cX11_word 41 = .ok (.imul, 1) := by decide +kernel
theorem dX11_word_42 : decode cX11_word 42 = .ok (.iadd, 1) := by decide +kernel
theorem dX11_word_43 : decode cX11_word 43 = .ok (.iload_n 2, 1) := by decide +kernel
theorem dX11_word_44 : decode cX11_word 44 = .ok (.iadd, 1) := by decide +kernel
theorem dX11_word_45 : decode cX11_word 45 = .ok (.iaload, 1) := by decide +kernel
theorem dX11_word_46 : decode cX11_word 46 = .ok (.ireturn, 1) := by decide +kernel
theorem dX11_word_47 : decode cX11_word 47 = .ok (.iconst 0, 1) := by decide +kernel
theorem dX11_word_48 : decode cX11_word 48 = .ok (.istore_n 3, 1) := by decide +kernel
theorem dX11_word_49 : decode cX11_word 49 = .ok (.iconst 0, 1) := by decide +kernel
theorem dX11_word_50 : decode cX11_word 50 = .ok (.istore 4, 2) := by decide +kernel
theorem dX11_word_52 : decode cX11_word 52 = .ok (.iload 4, 2) := by decide +kernel
theorem dX11_word_54 : decode cX11_word 54 = .ok (.aload_n 0, 1) := by decide +kernel
theorem dX11_word_55 : decode cX11_word 55 = .ok (.getfield 20, 3) := by decide +kernel
theorem dX11_word_58 : decode cX11_word 58 = .ok (.iconst 3, 1) := by decide +kernel
theorem dX11_word_59 : decode cX11_word 59 = .ok (.iaload, 1) := by decide +kernel
theorem dX11_word_60 : decode cX11_word 60 = .ok (.if_icmp .ge 37, 3) := by decide +kernel
theorem dX11_word_63 : decode cX11_word 63 = .ok (.iload_n 3, 1) := by decide +kernel
theorem dX11_word_64 : decode cX11_word 64 = .ok (.aload_n 0, 1) := by decide +kernel
theorem dX11_word_65 : decode cX11_word 65 = .ok (.getfield 26, 3) := by decide +kernel
theorem dX11_word_68 : decode cX11_word 68 = .ok (.bipush 8, 2) := by decide +kernel
theorem dX11_word_70 : decode cX11_word 70 = .ok (.iload 4, 2) := by decide +kernel
theorem dX11_word_72 : decode cX11_word 72 = .ok (.iadd, 1) := by decide +kernel
theorem dX11_word_73 : decode cX11_word 73 = .ok (.iaload, 1) := by decide +kernel
theorem dX11_word_74 : decode cX11_word 74 = .ok (.iload_n 1, 1) := by decide +kernel
theorem dX11_word_75 : decode cX11_word 75 = .ok (.invokestatic 266, 3) := by decide +kernel
theorem dX11_word_78 : decode cX11_word 78 = .ok (.ifCond .eq 10, 3) := by decide +kernel
theorem dX11_word_81 : decode cX11_word 81 = .ok (.iconst 1, 1) := by decide +kernel
theorem dX11_word_82 : decode cX11_word 82 = .ok (.iload 4, 2) := by decide +kernel
theorem dX11_word_84 : decode cX11_word 84 = .ok (.ishl, 1) := by decide +kernel
theorem dX11_word_85 : decode cX11_word 85 = .ok (.goto 4, 3) := by decide +kernel
theorem dX11_word_88 : decode cX11_word 88 = .ok (.iconst 0, 1) := by decide +kernel
theorem dX11_word_89 : decode cX11_word 89 = .ok (.ior, 1) := by decide +kernel
theorem dX11_word_90 : decode cX11_word 90 = .ok (.istore_n 3, 1) := by decide +kernel
theorem dX11_word_91 : decode cX11_word 91 = .ok (.iinc 4 1, 3) := by decide +kernel
theorem dX11_word_94 : decode cX11_word 94 = .ok (.goto (-42), 3) := by decide +kernel
theorem dX11_word_97 : decode cX11_word 97 = .ok (.iload_n 3, 1) := by decide +kernel
theorem dX11_word_98 : decode cX11_word 98 = .ok (.ireturn, 1) := by decide +kernel
theorem dX11_like_0 : decode cX11_like 0 = .ok (.aload_n 0, 1) := by decide +kernel
theorem dX11_like_1 : decode cX11_like 1 = .ok (.invokevirtual 168, 3) := by decide +kernel
theorem dX11_like_4 : decode cX11_like 4 = .ok (.aload_n 0, 1) := by decide +kernel
theorem dX11_like_5 : decode cX11_like 5 = .ok (.iload_n 1, 1) := by decide +kernel
theorem dX11_like_6 : decode cX11_like 6 = .ok (.invokevirtual 294, 3) := by decide +kernel
theorem dX11_like_9 : decode cX11_like 9 = .ok (.ifCond .eq 20, 3) := by decide +kernel
theorem dX11_like_12 : decode cX11_like 12 = .ok (.aload_n 0, 1) := by decide +kernel
theorem dX11_like_13 : decode cX11_like 13 = .ok (.iload_n 2, 1) := by decide +kernel
theorem dX11_like_14 : decode cX11_like 14 = .ok (.invokevirtual 294, 3) := by decide +kernel
theorem dX11_like_17 : decode cX11_like 17 = .ok (.ifCond .eq 12, 3) := by decide +kernel
theorem dX11_like_20 : decode cX11_like 20 = .ok (.aload_n 0, 1) := by decide +kernel
theorem dX11_like_21 : decode cX11_like 21 = .ok (.iload_n 1, 1) := by decide +kernel
theorem dX11_like_22 : decode cX11_like 22 = .ok (.iload_n 2, 1) := by decide +kernel
theorem dX11_like_23 : decode cX11_like 23 = .ok (.invokevirtual 284, 3) := by decide +kernel
theorem dX11_like_26 : decode cX11_like 26 = .ok (.goto 8, 3) := by decide +kernel
theorem dX11_like_29 : decode cX11_like 29 = .ok (.aload_n 0, 1) := by decide +kernel
theorem dX11_like_30 : decode cX11_like 30 = .ok (.iconst 1, 1) := by decide +kernel
theorem dX11_like_31 : decode cX11_like 31 = .ok (.invokevirtual 171, 3) := by decide +kernel
theorem dX11_like_34 : decode cX11_like 34 = .ok (.ireturn, 1) := by decide +kernel
