theorem dX11_keep_0 : decode cX11_keep 0 = .ok (.aload_n 0, 1) := by decide +kernel
theorem dX11_keep_1 : decode cX11_keep 1 = .ok (.invokevirtual 168, 3) := by decide +kernel
theorem dX11_keep_4 : decode cX11_keep 4 = .ok (.aload_n 0, 1) := by decide +kernel
theorem dX11_keep_5 : decode cX11_keep 5 = .ok (.iload_n 1, 1) := by decide +kernel
theorem dX11_keep_6 : decode cX11_keep 6 = .ok (.iload_n 2, 1) := by decide +kernel
theorem dX11_keep_7 : decode cX11_keep 7 = .ok (.invokevirtual 342, 3) := by decide +kernel
theorem dX11_keep_10 : decode cX11_keep 10 = .ok (.istore_n 3, 1) := by decide +kernel
theorem dX11_keep_11 : decode cX11_keep 11 = .ok (.iload_n 3, 1) := by decide +kernel
theorem dX11_keep_12 : decode cX11_keep 12 = .ok (.ifCond .eq 9, 3) := by decide +kernel
theorem dX11_keep_15 : decode cX11_keep 15 = .ok (.aload_n 0, 1) := by decide +kernel
theorem dX11_keep_16 : decode cX11_keep 16 = .ok (.iload_n 3, 1) := by decide +kernel
theorem dX11_keep_17 : decode cX11_keep 17 = .ok (.invokevirtual 171, 3) := by decide +kernel
theorem dX11_keep_20 : decode cX11_keep 20 = .ok (.ireturn, 1) := by decide +kernel
theorem dX11_keep_21 : decode cX11_keep 21 = .ok (.aload_n 0, 1) := by decide +kernel
theorem dX11_keep_22 : decode cX11_keep 22 = .ok (.iload_n 1, 1) := by decide +kernel
theorem dX11_keep_23 : decode cX11_keep 23 = .ok (.invokevirtual 326, 3) := by decide +kernel
theorem dX11_keep_26 : decode cX11_keep 26 = .ok (.istore 4, 2) := by decide +kernel
theorem dX11_keep_28 : decode cX11_keep 28 = .ok (.iconst 1, 1) := by decide +kernel
theorem dX11_keep_29 : decode cX11_keep 29 = .ok (.aload_n 0, 1) := by decide +kernel
theorem dX11_keep_30 : decode cX11_keep 30 = .ok (.getfield 20, 3) := by decide +kernel
theorem dX11_keep_33 : decode cX11_keep 33 = .ok (.iconst 2, 1) := by decide +kernel
theorem dX11_keep_34 : decode cX11_keep 34 = .ok (.iaload, 1) := by decide +kernel
theorem dX11_keep_35 : decode cX11_keep 35 = .ok (.ishl, 1) := by decide +kernel
theorem dX11_keep_36 : decode cX11_keep 36 = .ok (.iconst 1, 1) := by decide +kernel
theorem dX11_keep_37 : decode cX11_keep 37 = .ok (.isub, 1) := by decide +kernel
theorem dX11_keep_38 : decode cX11_keep 38 = .ok (.istore 5, 2) := by decide +kernel
theorem dX11_keep_40 : decode cX11_keep 40 = .ok (.iload 4, 2) := by decide +kernel
theorem dX11_keep_42 : decode cX11_keep 42 = .ok (.invokestatic 320, 3) := by decide +kernel
theorem dX11_keep_45 : decode cX11_keep 45 = .ok (.iconst 2, 1) := by decide +kernel
theorem dX11_keep_46 : decode cX11_keep 46 = .ok (.irem, 1) := by decide +kernel
theorem dX11_keep_47 : decode cX11_keep 47 = .ok (.ifCond .ne 19, 3) := by decide +kernel
theorem dX11_keep_50 : decode cX11_keep 50 = .ok (.aload_n 0, 1) := by decide +kernel
theorem dX11_keep_51 : decode cX11_keep 51 = .ok (.iload 4, 2) := by decide +kernel
theorem dX11_keep_53 : decode cX11_keep 53 = .ok (.iload 5, 2) := by decide +kernel
theorem dX11_keep_55 : decode cX11_keep 55 = .ok (.aload_n 0, 1) := by decide +kernel
theorem dX11_keep_56 : decode cX11_keep 56 = .ok (.iload_n 2, 1) := by decide +kernel
theorem dX11_keep_57 : decode cX11_keep 57 = .ok (.invokevirtual 307, 3) := by decide +kernel
theorem dX11_keep_60 : decode cX11_keep 60 = .ok (.invokevirtual 376, 3) := by decide +kernel
theorem dX11_keep_63 : decode cX11_keep 63 = .ok (.ifCond .ne 6, 3) := by decide +kernel
theorem dX11_keep_66 : decode cX11_keep 66 = .ok (.bipush (-2), 2) := by decide +kernel
theorem dX11_keep_68 : decode cX11_keep 68 = .ok (.ireturn, 1) := by decide +kernel
theorem dX11_keep_69 : decode cX11_keep 69 = .ok (.iconst 0, 1) := by decide +kernel
theorem dX11_keep_70 : decode cX11_keep 70 = .ok (.istore 6, 2) := by decide +kernel
theorem dX11_keep_72 : decode cX11_keep 72 = .ok (.iload 6, 2) := by decide +kernel
theorem dX11_keep_74 : decode cX11_keep 74 = .ok (.iconst 1, 1) := by decide +kernel
theorem dX11_keep_75 : decode cX11_keep 75 = .ok (.aload_n 0, 1) := by decide +kernel
theorem dX11_keep_76 : decode cX11_keep 76 = .ok (.getfield 20, 3) := by decide +kernel
theorem dX11_keep_79 : decode cX11_keep 79 = .ok (.iconst 2, 1) := by decide +kernel
theorem dX11_keep_80 : decode cX11_keep 80 = .ok (.iaload, 1) := by decide +kernel
theorem dX11_keep_81 : decode cX11_keep 81 = .ok (.ishl, 1) := by decide +kernel
theorem dX11_keep_82 : decode cX11_keep 82 = .ok (.if_icmp .ge 42, 3) := by decide +kernel
theorem dX11_keep_85 : decode cX11_keep 85 = .ok (.iload 6, 2) := by decide +kernel
theorem dX11_keep_87 : decode cX11_keep 87 = .ok (.invokestatic 320, 3) := by decide +kernel
theorem dX11_keep_90 : decode cX11_keep 90 = .ok (.iload 5, 2) := by decide +kernel
theorem dX11_keep_92 : decode cX11_keep 92 = .ok (.invokestatic 320, 3) := by decide +kernel
theorem dX11_keep_95 : decode cX11_keep 95 = .ok (.if_icmp .ge 23, 3) := by decide +kernel
theorem dX11_keep_98 : decode cX11_keep 98 = .ok (.aload_n 0, 1) := by decide +kernel
theorem dX11_keep_99 : decode cX11_keep 99 = .ok (.iload 4, 2) := by decide +kernel
theorem dX11_keep_101 : decode cX11_keep 101 = .ok (.iload 6, 2) := by decide +kernel
theorem dX11_keep_103 : decode cX11_keep 103 = .ok (.aload_n 0, 1) := by decide +kernel
theorem dX11_keep_104 : decode cX11_keep 104 = .ok (.iload_n 2, 1) := by decide +kernel
theorem dX11_keep_105 : decode cX11_keep 105 = .ok (.invokevirtual 307, 3) := by decide +kernel
theorem dX11_keep_108 : decode cX11_keep 108 = .ok (.invokevirtual 376, 3) := by decide +kernel
theorem dX11_keep_111 : decode cX11_keep 111 = .ok (.ifCond .eq 7, 3) := by decide +kernel
theorem dX11_keep_114 : decode cX11_keep 114 = .ok (.iload 6, 2) := by decide +kernel
theorem dX11_keep_116 : decode cX11_keep 116 = .ok (.istore 5, 2) := by decide +kernel
theorem dX11_keep_118 : decode cX11_keep 118 = .ok (.iinc 6 1, 3) := by decide +kernel
theorem dX11_keep_121 : decode cX11_keep 121 = .ok (.goto (-49), 3) := by decide +kernel
theorem dX11_keep_124 : decode cX11_keep 124 = .ok (.iload 5, 2) := by decide +kernel
theorem dX11_keep_126 : decode cX11_keep 126 = .ok (.ireturn, 1) := by decide +kernel
theorem dX11_refrain_0 : decode cX11_refrain 0 = .ok (.aload_n 0, 1) := by decide +kernel
theorem dX11_refrain_1 : decode cX11_refrain 1 = .ok (.invokevirtual 168, 3) := by decide +kernel
theorem dX11_refrain_4 : decode cX11_refrain 4 = .ok (.aload_n 0, 1) := by decide +kernel
theorem dX11_refrain_5 : decode cX11_refrain 5 = .ok (.iload_n 1, 1) := by decide +kernel
theorem dX11_refrain_6 : decode cX11_refrain 6 = .ok (.iload_n 2, 1) := by decide +kernel
theorem dX11_refrain_7 : decode cX11_refrain 7 = .ok (.invokevirtual 342, 3) := by decide +kernel
theorem dX11_refrain_10 : decode cX11_refrain 10 = .ok (.istore_n 3, 1) := by decide +kernel
theorem dX11_refrain_11 : decode cX11_refrain 11 = .ok (.iload_n 3, 1) := by decide +kernel
theorem dX11_refrain_12 : decode cX11_refrain 12 = .ok (.ifCond .eq 9, 3) := by decide +kernel
theorem dX11_refrain_15 : decode cX11_refrain 15 = .ok (.aload_n 0, 1) := by decide +kernel
theorem dX11_refrain_16 : decode cX11_refrain 16 = .ok (.iload_n 3, 1) := by decide +kernel
theorem dX11_refrain_17 : decode cX11_refrain 17 = .ok (.invokevirtual 171, 3) := by decide +kernel
theorem dX11_refrain_20 : decode cX11_refrain 20 = .ok (.ireturn, 1) := by decide +kernel
theorem dX11_refrain_21 : decode cX11_refrain 21 = .ok (.aload_n 0, 1) := by decide +kernel
theorem dX11_refrain_22 : decode cX11_refrain 22 = .ok (.iload_n 1, 1) := by decide +kernel
theorem dX11_refrain_23 : decode cX11_refrain 23 = .ok (.invokevirtual 326, 3) := by decide +kernel
theorem dX11_refrain_26 : decode cX11_refrain 26 = .ok (.istore 4, 2) := by decide +kernel
theorem dX11_refrain_28 : decode cX11_refrain 28 = .ok (.iconst 0, 1) := by decide +kernel
theorem dX11_refrain_29 : decode cX11_refrain 29 = .ok (.istore 5, 2) := by decide +kernel
theorem dX11_refrain_31 : decode cX11_refrain 31 = .ok (.iload 5, 2) := by decide +kernel
theorem dX11_refrain_33 : decode cX11_refrain 33 = .ok (.aload_n 0, 1) := by decide +kernel
theorem dX11_refrain_34 : decode cX11_refrain 34 = .ok (.getfield 20, 3) := by decide +kernel
theorem dX11_refrain_37 : decode cX11_refrain 37 = .ok (.iconst 2, 1) := by decide +kernel
theorem dX11_refrain_38 : decode cX11_refrain 38 = .ok (.iaload, 1) := by decide +kernel
theorem dX11_refrain_39 : decode cX11_refrain 39 = .ok (.if_icmp .ge 99, 3) := by decide +kernel
theorem dX11_refrain_42 : decode cX11_refrain 42 = .ok (.aload_n 0, 1) := by decide +kernel
theorem dX11_refrain_43 : decode cX11_refrain 43 = .ok (.getfield 50, 3) := by decide +kernel
theorem dX11_refrain_46 : decode cX11_refrain 46 = .ok (.iload 5, 2) := by decide +kernel
theorem dX11_refrain_48 : decode cX11_refrain 48 = .ok (.iconst 0, 1) := by decide +kernel
theorem dX11_refrain_49 : decode cX11_refrain 49 = .ok (.iastore, 1) := by decide +kernel
theorem dX11_refrain_50 : decode cX11_refrain 50 = .ok (.iconst 0, 1) := by decide +kernel
theorem dX11_refrain_51 : decode cX11_refrain 51 = .ok (.istore 6, 2) := by decide +kernel
theorem dX11_refrain_53 : decode cX11_refrain 53 = .ok (.iload 6, 2) := by decide +kernel
theorem dX11_refrain_55 : decode cX11_refrain 55 = .ok (.aload_n 0, 1) := by decide +kernel
theorem dX11_refrain_56 : decode cX11_refrain 56 = .ok (.getfield 20, 3) := by decide +kernel
theorem dX11_refrain_59 : decode cX11_refrain 59 = .ok (.iconst 3, 1) := by decide +kernel
theorem dX11_refrain_60 : decode cX11_refrain 60 = .ok (.iaload, 1) := by decide +kernel
theorem dX11_refrain_61 : decode cX11_refrain 61 = .ok (.if_icmp .ge 71, 3) := by decide +kernel
theorem dX11_refrain_64 : decode cX11_refrain 64 = .ok (.aload_n 0, 1) := by decide +kernel
theorem dX11_refrain_65 : decode cX11_refrain 65 = .ok (.getfield 50, 3) := by decide +kernel
theorem dX11_refrain_68 : decode cX11_refrain 68 = .ok (.iload 5, 2) := by decide +kernel
theorem dX11_refrain_70 : decode cX11_refrain 70 = .ok (.dup2, 1) := by decide +kernel
theorem dX11_refrain_71 : decode cX11_refrain 71 = .ok (.iaload, 1) := by decide +kernel
theorem dX11_refrain_72 : decode cX11_refrain 72 = .ok (.iload 4, 2) := by decide +kernel
theorem dX11_refrain_74 : decode cX11_refrain 74 = .ok (.iload 6, 2) := by decide +kernel
theorem dX11_refrain_76 : decode cX11_refrain 76 = .ok (.invokestatic 266, 3) := by decide +kernel
theorem dX11_refrain_79 : decode cX11_refrain 79 = .ok (.ifCond .eq 44, 3) := by decide +kernel
theorem dX11_refrain_82 : decode cX11_refrain 82 = .ok (.aload_n 0, 1) := by decide +kernel
theorem dX11_refrain_83 : decode cX11_refrain 83 = .ok (.iconst 0, 1) := by decide +kernel
theorem dX11_refrain_84 : decode cX11_refrain 84 = .ok (.iconst 1, 1) := by decide +kernel
theorem dX11_refrain_85 : decode cX11_refrain 85 = .ok (.iload 5, 2) := by decide +kernel
theorem dX11_refrain_87 : decode cX11_refrain 87 = .ok (.ishl, 1) := by decide +kernel
theorem dX11_refrain_88 : decode cX11_refrain 88 = .ok (.aload_n 0, 1) := by decide +kernel
theorem dX11_refrain_89 : decode cX11_refrain 89 = .ok (.iload 6, 2) := by decide +kernel
theorem dX11_refrain_91 : decode cX11_refrain 91 = .ok (.invokevirtual 287, 3) := by decide +kernel
theorem dX11_refrain_94 : decode cX11_refrain 94 = .ok (.aload_n 0, 1) := by decide +kernel
theorem dX11_refrain_95 : decode cX11_refrain 95 = .ok (.getfield 26, 3) := by decide +kernel
theorem dX11_refrain_98 : decode cX11_refrain 98 = .ok (.bipush 8, 2) := by decide +kernel
theorem dX11_refrain_100 : decode cX11_refrain 100 = .ok (.iload 6, 2) := by decide +kernel
theorem dX11_refrain_102 : decode cX11_refrain 102 = .ok (.iadd, 1) := by decide +kernel
theorem dX11_refrain_103 : decode cX11_refrain 103 = .ok (.iaload, 1) := by decide +kernel
theorem dX11_refrain_104 : decode cX11_refrain 104 = .ok (.aload_n 0, 1) := by decide +kernel
theorem dX11_refrain_105 : decode cX11_refrain 105 = .ok (.iload_n 2, 1) := by decide +kernel
theorem dX11_refrain_106 : decode cX11_refrain 106 = .ok (.invokevirtual 307, 3) := by decide +kernel
theorem dX11_refrain_109 : decode cX11_refrain 109 = .ok (.invokevirtual 290, 3) := by decide +kernel
theorem dX11_refrain_112 : decode cX11_refrain 112 = .ok (.iconst 2, 1) := by decide +kernel
theorem dX11_refrain_113 : decode cX11_refrain 113 = .ok (.if_icmp .ne 10, 3) := by decide +kernel
theorem dX11_refrain_116 : decode cX11_refrain 116 = .ok (.iconst 1, 1) := by decide +kernel
theorem dX11_refrain_117 : decode cX11_refrain 117 = .ok (.iload 6, 2) := by decide +kernel
theorem dX11_refrain_119 : decode cX11_refrain 119 = .ok (.ishl, 1) := by decide +kernel
theorem dX11_refrain_120 : decode cX11_refrain 120 = .ok (.goto 4, 3) := by decide +kernel
theorem dX11_refrain_123 : decode cX11_refrain 123 = .ok (.iconst 0, 1) := by decide +kernel
theorem dX11_refrain_124 : decode cX11_refrain 124 = .ok (.ior, 1) := by decide +kernel
theorem dX11_refrain_125 : decode cX11_refrain 125 = .ok (.iastore, 1) := by decide +kernel
theorem dX11_refrain_126 : decode cX11_refrain 126 = .ok (.iinc 6 1, 3) := by decide +kernel
theorem dX11_refrain_129 : decode cX11_refrain 129 = .ok (.goto (-76), 3) := by decide +kernel
theorem dX11_refrain_132 : decode cX11_refrain 132 = .ok (.iinc 5 1, 3) := by decide +kernel
theorem dX11_refrain_135 : decode cX11_refrain 135 = .ok (.goto (-104), 3) := by decide +kernel
theorem dX11_refrain_138 : decode cX11_refrain 138 = .ok (.bipush (-2), 2) := by decide +kernel
theorem dX11_refrain_140 : decode cX11_refrain 140 = .ok (.istore 5, 2) := by decide +kernel
theorem dX11_refrain_142 : decode cX11_refrain 142 = .ok (.iconst 0, 1) := by decide +kernel
theorem dX11_refrain_143 : decode cX11_refrain 143 = .ok (.istore 6, 2) := by decide +kernel
theorem dX11_refrain_145 : decode cX11_refrain 145 = .ok (.iload 6, 2) := by decide +kernel
theorem dX11_refrain_147 : decode cX11_refrain 147 = .ok (.iconst 1, 1) := by decide +kernel
theorem dX11_refrain_148 : decode cX11_refrain 148 = .ok (.aload_n 0, 1) := by decide +kernel
theorem dX11_refrain_149 : decode cX11_refrain 149 = .ok (.getfield 20, 3) := by decide +kernel
theorem dX11_refrain_152 : decode cX11_refrain 152 = .ok (.iconst 2, 1) := by decide +kernel
theorem dX11_refrain_153 : decode cX11_refrain 153 = .ok (.iaload, 1) := by decide +kernel
theorem dX11_refrain_154 : decode cX11_refrain 154 = .ok (.ishl, 1) := by decide +kernel
theorem dX11_refrain_155 : decode cX11_refrain 155 = .ok (.if_icmp .ge 90, 3) := by decide +kernel
theorem dX11_refrain_158 : decode cX11_refrain 158 = .ok (.iload 5, 2) := by decide +kernel
theorem dX11_refrain_160 : decode cX11_refrain 160 = .ok (.ifCond .lt 19, 3) := by decide +kernel
theorem dX11_refrain_163 : decode cX11_refrain 163 = .ok (.iload 6, 2) := by decide +kernel
theorem dX11_refrain_165 : decode cX11_refrain 165 = .ok (.invokestatic 320, 3) := by decide +kernel
theorem dX11_refrain_168 : decode cX11_refrain 168 = .ok (.iload 5, 2) := by decide +kernel
theorem dX11_refrain_170 : decode cX11_refrain 170 = .ok (.invokestatic 320, 3) := by decide +kernel
theorem dX11_refrain_173 : decode cX11_refrain 173 = .ok (.if_icmp .lt 6, 3) := by decide +kernel
theorem dX11_refrain_176 : decode cX11_refrain 176 = .ok (.goto 63, 3) := by decide +kernel
theorem dX11_refrain_179 : decode cX11_refrain 179 = .ok (.iconst 0, 1) := by decide +kernel
theorem dX11_refrain_180 : decode cX11_refrain 180 = .ok (.istore 7, 2) := by decide +kernel
theorem dX11_refrain_182 : decode cX11_refrain 182 = .ok (.iconst 0, 1) := by decide +kernel
theorem dX11_refrain_183 : decode cX11_refrain 183 = .ok (.istore 8, 2) := by decide +kernel
theorem dX11_refrain_185 : decode cX11_refrain 185 = .ok (.iload 8, 2) := by decide +kernel
theorem dX11_refrain_187 : decode cX11_refrain 187 = .ok (.aload_n 0, 1) := by decide +kernel
theorem dX11_refrain_188 : decode cX11_refrain 188 = .ok (.getfield 20, 3) := by decide +kernel
theorem dX11_refrain_191 : decode cX11_refrain 191 = .ok (.iconst 2, 1) := by decide +kernel
theorem dX11_refrain_192 : decode cX11_refrain 192 = .ok (.iaload, 1) := by decide +kernel
theorem dX11_refrain_193 : decode cX11_refrain 193 = .ok (.if_icmp .ge 35, 3) := by decide +kernel
theorem dX11_refrain_196 : decode cX11_refrain 196 = .ok (.iload 7, 2) := by decide +kernel
theorem dX11_refrain_198 : decode cX11_refrain 198 = .ok (.iload 6, 2) := by decide +kernel
theorem dX11_refrain_200 : decode cX11_refrain 200 = .ok (.iload 8, 2) := by decide +kernel
theorem dX11_refrain_202 : decode cX11_refrain 202 = .ok (.invokestatic 266, 3) := by decide +kernel
theorem dX11_refrain_205 : decode cX11_refrain 205 = .ok (.ifCond .eq 13, 3) := by decide +kernel
theorem dX11_refrain_208 : decode cX11_refrain 208 = .ok (.aload_n 0, 1) := by decide +kernel
theorem dX11_refrain_209 : decode cX11_refrain 209 = .ok (.getfield 50, 3) := by decide +kernel
theorem dX11_refrain_212 : decode cX11_refrain 212 = .ok (.iload 8, 2) := by decide +kernel
theorem dX11_refrain_214 : decode cX11_refrain 214 = .ok (.iaload, 1) := by decide +kernel
theorem dX11_refrain_215 : decode cX11_refrain 215 = .ok (.goto 4, 3) := by decide +kernel
theorem dX11_refrain_218 : decode cX11_refrain 218 = .ok (.iconst 0, 1) := by decide +kernel
theorem dX11_refrain_219 : decode cX11_refrain 219 = .ok (.ior, 1) := by decide +kernel
theorem dX11_refrain_220 : decode cX11_refrain 220 = .ok (.istore 7, 2) := by decide +kernel
theorem dX11_refrain_222 : decode cX11_refrain 222 = .ok (.iinc 8 1, 3) := by decide +kernel
theorem dX11_refrain_225 : decode cX11_refrain 225 = .ok (.goto (-40), 3) := by decide +kernel
theorem dX11_refrain_228 : decode cX11_refrain 228 = .ok (.iload 7, 2) := by decide +kernel
theorem dX11_refrain_230 : decode cX11_refrain 230 = .ok (.iload 4, 2) := by decide +kernel
theorem dX11_refrain_232 : decode cX11_refrain 232 = .ok (.if_icmp .ne 7, 3) := by decide +kernel
theorem dX11_refrain_235 : decode cX11_refrain 235 = .ok (.iload 6, 2) := by decide +kernel
theorem dX11_refrain_237 : decode cX11_refrain 237 = .ok (.istore 5, 2) := by decide +kernel
theorem dX11_refrain_239 : decode cX11_refrain 239 = .ok (.iinc 6 1, 3) := by decide +kernel
theorem dX11_refrain_242 : decode cX11_refrain 242 = .ok (.goto (-97), 3) := by decide +kernel
theorem dX11_refrain_245 : decode cX11_refrain 245 = .ok (.iload 5, 2) := by decide +kernel
theorem dX11_refrain_247 : decode cX11_refrain 247 = .ok (.ireturn, 1) := by decide +kernel
theorem dX11_heardSet_0 : decode cX11_heardSet 0 = .ok (.iconst 0, 1) := by decide +kernel
theorem dX11_heardSet_1 : decode cX11_heardSet 1 = .ok (.istore_n 1, 1) := by decide +kernel
theorem dX11_heardSet_2 : decode cX11_heardSet 2 = .ok (.iconst 1, 1) := by decide +kernel
theorem dX11_heardSet_3 : decode cX11_heardSet 3 = .ok (.istore_n 2, 1) := by decide +kernel
theorem dX11_heardSet_4 : decode cX11_heardSet 4 = .ok (.iload_n 2, 1) := by decide +kernel
theorem dX11_heardSet_5 : decode cX11_heardSet 5 = .ok (.bipush 6, 2) := by decide +kernel
theorem dX11_heardSet_7 : decode cX11_heardSet 7 = .ok (.if_icmp .gt 29, 3) := by decide +kernel
theorem dX11_heardSet_10 : decode cX11_heardSet 10 = .ok (.iload_n 1, 1) := by decide +kernel
theorem dX11_heardSet_11 : decode cX11_heardSet 11 = .ok (.aload_n 0, 1) := by decide +kernel
theorem dX11_heardSet_12 : decode cX11_heardSet 12 = .ok (.iload_n 2, 1) := by decide +kernel
theorem dX11_heardSet_13 : decode cX11_heardSet 13 = .ok (.invokevirtual 360, 3) := by decide +kernel
theorem dX11_heardSet_16 : decode cX11_heardSet 16 = .ok (.bipush (-2), 2) := by decide +kernel
theorem dX11_heardSet_18 : decode cX11_heardSet 18 = .ok (.if_icmp .ne 9, 3) := by decide +kernel
theorem dX11_heardSet_21 : decode cX11_heardSet 21 = .ok (.iconst 1, 1) := by decide +kernel
theorem dX11_heardSet_22 : decode cX11_heardSet 22 = .ok (.iload_n 2, 1) := by decide +kernel
theorem dX11_heardSet_23 : decode cX11_heardSet 23 = .ok (.ishl, 1) := by decide +kernel
theorem dX11_heardSet_24 : decode cX11_heardSet 24 = .ok (.goto 4, 3) := by decide +kernel
theorem dX11_heardSet_27 : decode cX11_heardSet 27 = .ok (.iconst 0, 1) := by decide +kernel
theorem dX11_heardSet_28 : decode cX11_heardSet 28 = .ok (.ior, 1) := by decide +kernel
theorem dX11_heardSet_29 : decode cX11_heardSet 29 = .ok (.istore_n 1, 1) := by decide +kernel
theorem dX11_heardSet_30 : decode cX11_heardSet 30 = .ok (.iinc 2 1, 3) := by decide +kernel
theorem dX11_heardSet_33 : decode cX11_heardSet 33 = .ok (.goto (-29), 3) := by decide +kernel
theorem dX11_heardSet_36 : decode cX11_heardSet 36 = .ok (.iload_n 1, 1) := by decide +kernel
theorem dX11_heardSet_37 : decode cX11_heardSet 37 = .ok (.ireturn, 1) := by decide +kernel
theorem dX11_heard_0 : decode cX11_heard 0 = .ok (.aload_n 0, 1) := by decide +kernel
theorem dX11_heard_1 : decode cX11_heard 1 = .ok (.invokevirtual 168, 3) := by decide +kernel
theorem dX11_heard_4 : decode cX11_heard 4 = .ok (.aload_n 0, 1) := by decide +kernel
theorem dX11_heard_5 : decode cX11_heard 5 = .ok (.getfield 181, 3) := by decide +kernel
theorem dX11_heard_8 : decode cX11_heard 8 = .ok (.ifCond .eq 13, 3) := by decide +kernel
theorem dX11_heard_11 : decode cX11_heard 11 = .ok (.aload_n 0, 1) := by decide +kernel
theorem dX11_heard_12 : decode cX11_heard 12 = .ok (.invokevirtual 379, 3) := by decide +kernel
theorem dX11_heard_15 : decode cX11_heard 15 = .ok (.invokestatic 320, 3) := by decide +kernel
theorem dX11_heard_18 : decode cX11_heard 18 = .ok (.goto 8, 3) := by decide +kernel
theorem dX11_heard_21 : decode cX11_heard 21 = .ok (.aload_n 0, 1) := by decide +kernel
theorem dX11_heard_22 : decode cX11_heard 22 = .ok (.iconst 1, 1) := by decide +kernel
theorem dX11_heard_23 : decode cX11_heard 23 = .ok (.invokevirtual 171, 3) := by decide +kernel
theorem dX11_heard_26 : decode cX11_heard 26 = .ok (.ireturn, 1) := by decide +kernel
theorem dX11_heardEar_0 : decode cX11_heardEar 0 = .ok (.aload_n 0, 1) := by decide +kernel
theorem dX11_heardEar_1 : decode cX11_heardEar 1 = .ok (.invokevirtual 168, 3) := by decide +kernel
theorem dX11_heardEar_4 : decode cX11_heardEar 4 = .ok (.aload_n 0, 1) := by decide +kernel
theorem dX11_heardEar_5 : decode cX11_heardEar 5 = .ok (.getfield 181, 3) := by decide +kernel
theorem dX11_heardEar_8 : decode cX11_heardEar 8 = .ok (.ifCond .ne 9, 3) := by decide +kernel
theorem dX11_heardEar_11 : decode cX11_heardEar 11 = .ok (.aload_n 0, 1) := by decide +kernel
theorem dX11_heardEar_12 : decode cX11_heardEar 12 = .ok (.iconst 1, 1) := by decide +kernel
theorem dX11_heardEar_13 : decode cX11_heardEar 13 = .ok (.invokevirtual 171, 3) := by decide +kernel
theorem dX11_heardEar_16 : decode cX11_heardEar 16 = .ok (.ireturn, 1) := by decide +kernel
theorem dX11_heardEar_17 : decode cX11_heardEar 17 = .ok (.bipush (-2), 2) := by decide +kernel
theorem dX11_heardEar_19 : decode cX11_heardEar 19 = .ok (.istore_n 2, 1) := by decide +kernel
theorem dX11_heardEar_20 : decode cX11_heardEar 20 = .ok (.iconst 1, 1) := by decide +kernel
theorem dX11_heardEar_21 : decode cX11_heardEar 21 = .ok (.istore_n 3, 1) := by decide +kernel
theorem dX11_heardEar_22 : decode cX11_heardEar 22 = .ok (.iload_n 3, 1) := by decide +kernel
theorem dX11_heardEar_23 : decode cX11_heardEar 23 = .ok (.bipush 6, 2) := by decide +kernel
theorem dX11_heardEar_25 : decode cX11_heardEar 25 = .ok (.if_icmp .gt 30, 3) := by decide +kernel
theorem dX11_heardEar_28 : decode cX11_heardEar 28 = .ok (.aload_n 0, 1) := by decide +kernel
theorem dX11_heardEar_29 : decode cX11_heardEar 29 = .ok (.invokevirtual 379, 3) := by decide +kernel
theorem dX11_heardEar_32 : decode cX11_heardEar 32 = .ok (.iload_n 3, 1) := by decide +kernel
theorem dX11_heardEar_33 : decode cX11_heardEar 33 = .ok (.invokestatic 266, 3) := by decide +kernel
theorem dX11_heardEar_36 : decode cX11_heardEar 36 = .ok (.ifCond .eq 13, 3) := by decide +kernel
theorem dX11_heardEar_39 : decode cX11_heardEar 39 = .ok (.iload_n 1, 1) := by decide +kernel
theorem dX11_heardEar_40 : decode cX11_heardEar 40 = .ok (.ifCond .ne 7, 3) := by decide +kernel
theorem dX11_heardEar_43 : decode cX11_heardEar 43 = .ok (.iload_n 2, 1) := by decide +kernel
theorem dX11_heardEar_44 : decode cX11_heardEar 44 = .ok (.ifCond .ge 5, 3) := by decide +kernel
theorem dX11_heardEar_47 : decode cX11_heardEar 47 = .ok (.iload_n 3, 1) := by decide +kernel
theorem dX11_heardEar_48 : decode cX11_heardEar 48 = .ok (.istore_n 2, 1) := by decide +kernel
theorem dX11_heardEar_49 : decode cX11_heardEar 49 = .ok (.iinc 3 1, 3) := by decide +kernel
theorem dX11_heardEar_52 : decode cX11_heardEar 52 = .ok (.goto (-30), 3) := by decide +kernel
theorem dX11_heardEar_55 : decode cX11_heardEar 55 = .ok (.iload_n 2, 1) := by decide +kernel
theorem dX11_heardEar_56 : decode cX11_heardEar 56 = .ok (.ireturn, 1) := by decide +kernel
theorem dX11_leavesBy_0 : decode cX11_leavesBy 0 = .ok (.iconst 0, 1) := by decide +kernel
theorem dX11_leavesBy_1 : decode cX11_leavesBy 1 = .ok (.istore 4, 2) := by decide +kernel
theorem dX11_leavesBy_3 : decode cX11_leavesBy 3 = .ok (.iconst 0, 1) := by decide +kernel
theorem dX11_leavesBy_4 : decode cX11_leavesBy 4 = .ok (.istore 5, 2) := by decide +kernel
theorem dX11_leavesBy_6 : decode cX11_leavesBy 6 = .ok (.iload 5, 2) := by decide +kernel
theorem dX11_leavesBy_8 : decode cX11_leavesBy 8 = .ok (.iconst 2, 1) := by decide +kernel
theorem dX11_leavesBy_9 : decode cX11_leavesBy 9 = .ok (.if_icmp .gt 76, 3) := by decide +kernel
theorem dX11_leavesBy_12 : decode cX11_leavesBy 12 = .ok (.iconst 0, 1) := by decide +kernel
theorem dX11_leavesBy_13 : decode cX11_leavesBy 13 = .ok (.istore 6, 2) := by decide +kernel
theorem dX11_leavesBy_15 : decode cX11_leavesBy 15 = .ok (.iconst 1, 1) := by decide +kernel
theorem dX11_leavesBy_16 : decode cX11_leavesBy 16 = .ok (.istore 7, 2) := by decide +kernel
theorem dX11_leavesBy_18 : decode cX11_leavesBy 18 = .ok (.iload 7, 2) := by decide +kernel
theorem dX11_leavesBy_20 : decode cX11_leavesBy 20 = .ok (.bipush 6, 2) := by decide +kernel
theorem dX11_leavesBy_22 : decode cX11_leavesBy 22 = .ok (.if_icmp .gt 41, 3) := by decide +kernel
theorem dX11_leavesBy_25 : decode cX11_leavesBy 25 = .ok (.iload 6, 2) := by decide +kernel
theorem dX11_leavesBy_27 : decode cX11_leavesBy 27 = .ok (.iload_n 3, 1) := by decide +kernel
theorem dX11_leavesBy_28 : decode cX11_leavesBy 28 = .ok (.iload 7, 2) := by decide +kernel
theorem dX11_leavesBy_30 : decode cX11_leavesBy 30 = .ok (.invokestatic 266, 3) := by decide +kernel
theorem dX11_leavesBy_33 : decode cX11_leavesBy 33 = .ok (.ifCond .eq 20, 3) := by decide +kernel
theorem dX11_leavesBy_36 : decode cX11_leavesBy 36 = .ok (.aload_n 0, 1) := by decide +kernel
theorem dX11_leavesBy_37 : decode cX11_leavesBy 37 = .ok (.iload_n 1, 1) := by decide +kernel
theorem dX11_leavesBy_38 : decode cX11_leavesBy 38 = .ok (.iload_n 2, 1) := by decide +kernel
theorem dX11_leavesBy_39 : decode cX11_leavesBy 39 = .ok (.iload 7, 2) := by decide +kernel
theorem dX11_leavesBy_41 : decode cX11_leavesBy 41 = .ok (.invokevirtual 313, 3) := by decide +kernel
theorem dX11_leavesBy_44 : decode cX11_leavesBy 44 = .ok (.iload 5, 2) := by decide +kernel
theorem dX11_leavesBy_46 : decode cX11_leavesBy 46 = .ok (.if_icmp .ne 7, 3) := by decide +kernel
theorem dX11_leavesBy_49 : decode cX11_leavesBy 49 = .ok (.iconst 1, 1) := by decide +kernel
theorem dX11_leavesBy_50 : decode cX11_leavesBy 50 = .ok (.goto 4, 3) := by decide +kernel
theorem dX11_leavesBy_53 : decode cX11_leavesBy 53 = .ok (.iconst 0, 1) := by decide +kernel
theorem dX11_leavesBy_54 : decode cX11_leavesBy 54 = .ok (.iadd, 1) := by decide +kernel
theorem dX11_leavesBy_55 : decode cX11_leavesBy 55 = .ok (.istore 6, 2) := by decide +kernel
theorem dX11_leavesBy_57 : decode cX11_leavesBy 57 = .ok (.iinc 7 1, 3) := by decide +kernel
theorem dX11_leavesBy_60 : decode cX11_leavesBy 60 = .ok (.goto (-42), 3) := by decide +kernel
theorem dX11_leavesBy_63 : decode cX11_leavesBy 63 = .ok (.iload 6, 2) := by decide +kernel
theorem dX11_leavesBy_65 : decode cX11_leavesBy 65 = .ok (.iload 4, 2) := by decide +kernel
theorem dX11_leavesBy_67 : decode cX11_leavesBy 67 = .ok (.if_icmp .le 8, 3) := by decide +kernel
theorem dX11_leavesBy_70 : decode cX11_leavesBy 70 = .ok (.iload 6, 2) := by decide +kernel
theorem dX11_leavesBy_72 : decode cX11_leavesBy 72 = .ok (.goto 5, 3) := by decide +kernel
theorem dX11_leavesBy_75 : decode cX11_leavesBy 75 = .ok (.iload 4, 2) := by decide +kernel
theorem dX11_leavesBy_77 : decode cX11_leavesBy 77 = .ok (.istore 4, 2) := by decide +kernel
theorem dX11_leavesBy_79 : decode cX11_leavesBy 79 = .ok (.iinc 5 1, 3) := by decide +kernel
theorem dX11_leavesBy_82 : decode cX11_leavesBy 82 = .ok (.goto (-76), 3) := by decide +kernel
theorem dX11_leavesBy_85 : decode cX11_leavesBy 85 = .ok (.iload 4, 2) := by decide +kernel
theorem dX11_leavesBy_87 : decode cX11_leavesBy 87 = .ok (.ireturn, 1) := by decide +kernel
theorem dX11_askOf_0 : decode cX11_askOf 0 = .ok (.aload_n 0, 1) := by decide +kernel
theorem dX11_askOf_1 : decode cX11_askOf 1 = .ok (.invokevirtual 379, 3) := by decide +kernel
theorem dX11_askOf_4 : decode cX11_askOf 4 = .ok (.istore_n 1, 1) := by decide +kernel
theorem dX11_askOf_5 : decode cX11_askOf 5 = .ok (.bipush (-2), 2) := by decide +kernel
theorem dX11_askOf_7 : decode cX11_askOf 7 = .ok (.istore_n 2, 1) := by decide +kernel
theorem dX11_askOf_8 : decode cX11_askOf 8 = .ok (.aload_n 0, 1) := by decide +kernel
theorem dX11_askOf_9 : decode cX11_askOf 9 = .ok (.bipush (-2), 2) := by decide +kernel
theorem dX11_askOf_11 : decode cX11_askOf 11 = .ok (.putfield 382, 3) := by decide +kernel
theorem dX11_askOf_14 : decode cX11_askOf 14 = .ok (.iconst 0, 1) := by decide +kernel
theorem dX11_askOf_15 : decode cX11_askOf 15 = .ok (.istore_n 3, 1) := by decide +kernel
theorem dX11_askOf_16 : decode cX11_askOf 16 = .ok (.iload_n 3, 1) := by decide +kernel
theorem dX11_askOf_17 : decode cX11_askOf 17 = .ok (.aload_n 0, 1) := by decide +kernel
theorem dX11_askOf_18 : decode cX11_askOf 18 = .ok (.getfield 20, 3) := by decide +kernel
theorem dX11_askOf_21 : decode cX11_askOf 21 = .ok (.iconst 3, 1) := by decide +kernel
theorem dX11_askOf_22 : decode cX11_askOf 22 = .ok (.iaload, 1) := by decide +kernel
theorem dX11_askOf_23 : decode cX11_askOf 23 = .ok (.if_icmp .ge 75, 3) := by decide +kernel
theorem dX11_askOf_26 : decode cX11_askOf 26 = .ok (.iload_n 1, 1) := by decide +kernel
theorem dX11_askOf_27 : decode cX11_askOf 27 = .ok (.ifCond .eq 71, 3) := by decide +kernel
theorem dX11_askOf_30 : decode cX11_askOf 30 = .ok (.iload_n 3, 1) := by decide +kernel
theorem dX11_askOf_31 : decode cX11_askOf 31 = .ok (.iconst 1, 1) := by decide +kernel
theorem dX11_askOf_32 : decode cX11_askOf 32 = .ok (.iadd, 1) := by decide +kernel
theorem dX11_askOf_33 : decode cX11_askOf 33 = .ok (.istore 4, 2) := by decide +kernel
theorem dX11_askOf_35 : decode cX11_askOf 35 = .ok (.iload 4, 2) := by decide +kernel
theorem dX11_askOf_37 : decode cX11_askOf 37 = .ok (.aload_n 0, 1) := by decide +kernel
theorem dX11_askOf_38 : decode cX11_askOf 38 = .ok (.getfield 20, 3) := by decide +kernel
theorem dX11_askOf_41 : decode cX11_askOf 41 = .ok (.iconst 3, 1) := by decide +kernel
theorem dX11_askOf_42 : decode cX11_askOf 42 = .ok (.iaload, 1) := by decide +kernel
theorem dX11_askOf_43 : decode cX11_askOf 43 = .ok (.if_icmp .ge 49, 3) := by decide +kernel
theorem dX11_askOf_46 : decode cX11_askOf 46 = .ok (.aload_n 0, 1) := by decide +kernel
theorem dX11_askOf_47 : decode cX11_askOf 47 = .ok (.iload_n 3, 1) := by decide +kernel
theorem dX11_askOf_48 : decode cX11_askOf 48 = .ok (.iload 4, 2) := by decide +kernel
theorem dX11_askOf_50 : decode cX11_askOf 50 = .ok (.iload_n 1, 1) := by decide +kernel
theorem dX11_askOf_51 : decode cX11_askOf 51 = .ok (.invokevirtual 385, 3) := by decide +kernel
theorem dX11_askOf_54 : decode cX11_askOf 54 = .ok (.istore 5, 2) := by decide +kernel
theorem dX11_askOf_56 : decode cX11_askOf 56 = .ok (.iload_n 2, 1) := by decide +kernel
theorem dX11_askOf_57 : decode cX11_askOf 57 = .ok (.ifCond .lt 15, 3) := by decide +kernel
theorem dX11_askOf_60 : decode cX11_askOf 60 = .ok (.iload 5, 2) := by decide +kernel
theorem dX11_askOf_62 : decode cX11_askOf 62 = .ok (.aload_n 0, 1) := by decide +kernel
theorem dX11_askOf_63 : decode cX11_askOf 63 = .ok (.getfield 382, 3) := by decide +kernel
theorem dX11_askOf_66 : decode cX11_askOf 66 = .ok (.if_icmp .lt 6, 3) := by decide +kernel
theorem dX11_askOf_69 : decode cX11_askOf 69 = .ok (.goto 17, 3) := by decide +kernel
theorem dX11_askOf_72 : decode cX11_askOf 72 = .ok (.bipush 10, 2) := by decide +kernel
theorem dX11_askOf_74 : decode cX11_askOf 74 = .ok (.iload_n 3, 1) := by decide +kernel
theorem dX11_askOf_75 : decode cX11_askOf 75 = .ok (.imul, 1) := by decide +kernel
theorem dX11_askOf_76 : decode cX11_askOf 76 = .ok (.iload 4, 2) := by decide +kernel
theorem dX11_askOf_78 : decode cX11_askOf 78 = .ok (.iadd, 1) := by decide +kernel
theorem dX11_askOf_79 : decode cX11_askOf 79 = .ok (.istore_n 2, 1) := by decide +kernel
theorem dX11_askOf_80 : decode cX11_askOf 80 = .ok (.aload_n 0, 1) := by decide +kernel
theorem dX11_askOf_81 : decode cX11_askOf 81 = .ok (.iload 5, 2) := by decide +kernel
theorem dX11_askOf_83 : decode cX11_askOf 83 = .ok (.putfield 382, 3) := by decide +kernel
theorem dX11_askOf_86 : decode cX11_askOf 86 = .ok (.iinc 4 1, 3) := by decide +kernel
theorem dX11_askOf_89 : decode cX11_askOf 89 = .ok (.goto (-54), 3) := by decide +kernel
theorem dX11_askOf_92 : decode cX11_askOf 92 = .ok (.iinc 3 1, 3) := by decide +kernel
theorem dX11_askOf_95 : decode cX11_askOf 95 = .ok (.goto (-79), 3) := by decide +kernel
theorem dX11_askOf_98 : decode cX11_askOf 98 = .ok (.iload_n 2, 1) := by decide +kernel
theorem dX11_askOf_99 : decode cX11_askOf 99 = .ok (.ireturn, 1) := by decide +kernel
theorem dX11_ask_0 : decode cX11_ask 0 = .ok (.aload_n 0, 1) := by decide +kernel
theorem dX11_ask_1 : decode cX11_ask 1 = .ok (.invokevirtual 168, 3) := by decide +kernel
theorem dX11_ask_4 : decode cX11_ask 4 = .ok (.aload_n 0, 1) := by decide +kernel
theorem dX11_ask_5 : decode cX11_ask 5 = .ok (.getfield 181, 3) := by decide +kernel
theorem dX11_ask_8 : decode cX11_ask 8 = .ok (.ifCond .eq 10, 3) := by decide +kernel
theorem dX11_ask_11 : decode cX11_ask 11 = .ok (.aload_n 0, 1) := by decide +kernel
theorem dX11_ask_12 : decode cX11_ask 12 = .ok (.invokevirtual 388, 3) := by decide +kernel
theorem dX11_ask_15 : decode cX11_ask 15 = .ok (.goto 8, 3) := by decide +kernel
theorem dX11_ask_18 : decode cX11_ask 18 = .ok (.aload_n 0, 1) := by decide +kernel
theorem dX11_ask_19 : decode cX11_ask 19 = .ok (.iconst 1, 1) := by decide +kernel
theorem dX11_ask_20 : decode cX11_ask 20 = .ok (.invokevirtual 171, 3) := by decide +kernel
theorem dX11_ask_23 : decode cX11_ask 23 = .ok (.ireturn, 1) := by decide +kernel
theorem dX11_askLeaves_0 : decode cX11_askLeaves 0 = .ok (.aload_n 0, 1) := by decide +kernel
theorem dX11_askLeaves_1 : decode cX11_askLeaves 1 = .ok (.invokevirtual 168, 3) := by decide +kernel
theorem dX11_askLeaves_4 : decode cX11_askLeaves 4 = .ok (.aload_n 0, 1) := by decide +kernel
theorem dX11_askLeaves_5 : decode cX11_askLeaves 5 = .ok (.getfield 181, 3) := by decide +kernel
theorem dX11_askLeaves_8 : decode cX11_askLeaves 8 = .ok (.ifCond .ne 9, 3) := by decide +kernel
theorem dX11_askLeaves_11 : decode cX11_askLeaves 11 = .ok (.aload_n 0, 1) := by decide +kernel
theorem dX11_askLeaves_12 : decode cX11_askLeaves 12 = .ok (.iconst 1, 1) := by decide +kernel
theorem dX11_askLeaves_13 : decode cX11_askLeaves 13 = .ok (.invokevirtual 171, 3) := by decide +kernel
theorem dX11_askLeaves_16 : decode cX11_askLeaves 16 = .ok (.ireturn, 1) := by decide +kernel
theorem dX11_askLeaves_17 : decode cX11_askLeaves 17 = .ok (.aload_n 0, 1) := by decide +kernel
theorem dX11_askLeaves_18 : decode cX11_askLeaves 18 = .ok (.invokevirtual 388, 3) := by decide +kernel
theorem dX11_askLeaves_21 : decode cX11_askLeaves 21 = .ok (.pop, 1) := by decide +kernel
theorem dX11_askLeaves_22 : decode cX11_askLeaves 22 = .ok (.aload_n 0, 1) := by decide +kernel
theorem dX11_askLeaves_23 : decode cX11_askLeaves 23 = .ok (.getfield 382, 3) := by decide +kernel
theorem dX11_askLeaves_26 : decode cX11_askLeaves 26 = .ok (.ireturn, 1) := by decide +kernel
theorem dX11_layBuyers_0 : decode cX11_layBuyers 0 = .ok (.aload_n 0, 1) := by decide +kernel
theorem dX11_layBuyers_1 : decode cX11_layBuyers 1 = .ok (.iconst 0, 1) := by decide +kernel
theorem dX11_layBuyers_2 : decode cX11_layBuyers 2 = .ok (.putfield 391, 3) := by decide +kernel
theorem dX11_layBuyers_5 : decode cX11_layBuyers 5 = .ok (.aload_n 0, 1) := by decide +kernel
theorem dX11_layBuyers_6 : decode cX11_layBuyers 6 = .ok (.iconst 0, 1) := by decide +kernel
theorem dX11_layBuyers_7 : decode cX11_layBuyers 7 = .ok (.putfield 394, 3) := by decide +kernel
theorem dX11_layBuyers_10 : decode cX11_layBuyers 10 = .ok (.aload_n 0, 1) := by decide +kernel
theorem dX11_layBuyers_11 : decode cX11_layBuyers 11 = .ok (.iconst 0, 1) := by decide +kernel
theorem dX11_layBuyers_12 : decode cX11_layBuyers 12 = .ok (.putfield 397, 3) := by decide +kernel
theorem dX11_layBuyers_15 : decode cX11_layBuyers 15 = .ok (.aload_n 0, 1) := by decide +kernel
theorem dX11_layBuyers_16 : decode cX11_layBuyers 16 = .ok (.iconst 0, 1) := by decide +kernel
theorem dX11_layBuyers_17 : decode cX11_layBuyers 17 = .ok (.invokevirtual 326, 3) := by decide +kernel
theorem dX11_layBuyers_20 : decode cX11_layBuyers 20 = .ok (.istore 4, 2) := by decide +kernel
theorem dX11_layBuyers_22 : decode cX11_layBuyers 22 = .ok (.aload_n 0, 1) := by decide +kernel
theorem dX11_layBuyers_23 : decode cX11_layBuyers 23 = .ok (.iconst 0, 1) := by decide +kernel
theorem dX11_layBuyers_24 : decode cX11_layBuyers 24 = .ok (.iload_n 3, 1) := by decide +kernel
theorem dX11_layBuyers_25 : decode cX11_layBuyers 25 = .ok (.invokevirtual 348, 3) := by decide +kernel
theorem dX11_layBuyers_28 : decode cX11_layBuyers 28 = .ok (.istore 5, 2) := by decide +kernel
theorem dX11_layBuyers_30 : decode cX11_layBuyers 30 = .ok (.iconst 0, 1) := by decide +kernel
theorem dX11_layBuyers_31 : decode cX11_layBuyers 31 = .ok (.istore 6, 2) := by decide +kernel
theorem dX11_layBuyers_33 : decode cX11_layBuyers 33 = .ok (.iload 6, 2) := by decide +kernel
theorem dX11_layBuyers_35 : decode cX11_layBuyers 35 = .ok (.aload_n 0, 1) := by decide +kernel
theorem dX11_layBuyers_36 : decode cX11_layBuyers 36 = .ok (.getfield 20, 3) := by decide +kernel
theorem dX11_layBuyers_39 : decode cX11_layBuyers 39 = .ok (.iconst 3, 1) := by decide +kernel
theorem dX11_layBuyers_40 : decode cX11_layBuyers 40 = .ok (.iaload, 1) := by decide +kernel
theorem dX11_layBuyers_41 : decode cX11_layBuyers 41 = .ok (.if_icmp .ge 162, 3) := by decide +kernel
theorem dX11_layBuyers_44 : decode cX11_layBuyers 44 = .ok (.iload 5, 2) := by decide +kernel
theorem dX11_layBuyers_46 : decode cX11_layBuyers 46 = .ok (.iload 6, 2) := by decide +kernel
theorem dX11_layBuyers_48 : decode cX11_layBuyers 48 = .ok (.invokestatic 266, 3) := by decide +kernel
theorem dX11_layBuyers_51 : decode cX11_layBuyers 51 = .ok (.ifCond .ne 6, 3) := by decide +kernel
theorem dX11_layBuyers_54 : decode cX11_layBuyers 54 = .ok (.goto 143, 3) := by decide +kernel
theorem dX11_layBuyers_57 : decode cX11_layBuyers 57 = .ok (.aload_n 0, 1) := by decide +kernel
theorem dX11_layBuyers_58 : decode cX11_layBuyers 58 = .ok (.iload 6, 2) := by decide +kernel
theorem dX11_layBuyers_60 : decode cX11_layBuyers 60 = .ok (.aload_n 0, 1) := by decide +kernel
theorem dX11_layBuyers_61 : decode cX11_layBuyers 61 = .ok (.getfield 26, 3) := by decide +kernel
theorem dX11_layBuyers_64 : decode cX11_layBuyers 64 = .ok (.bipush 8, 2) := by decide +kernel
theorem dX11_layBuyers_66 : decode cX11_layBuyers 66 = .ok (.iload 6, 2) := by decide +kernel
theorem dX11_layBuyers_68 : decode cX11_layBuyers 68 = .ok (.iadd, 1) := by decide +kernel
theorem dX11_layBuyers_69 : decode cX11_layBuyers 69 = .ok (.iaload, 1) := by decide +kernel
theorem dX11_layBuyers_70 : decode cX11_layBuyers 70 = .ok (.iconst 1, 1) := by decide +kernel
theorem dX11_layBuyers_71 : decode cX11_layBuyers 71 = .ok (.iload_n 1, 1) := by decide +kernel
theorem dX11_layBuyers_72 : decode cX11_layBuyers 72 = .ok (.ishl, 1) := by decide +kernel
theorem dX11_layBuyers_73 : decode cX11_layBuyers 73 = .ok (.ior, 1) := by decide +kernel
theorem dX11_layBuyers_74 : decode cX11_layBuyers 74 = .ok (.iload_n 3, 1) := by decide +kernel
theorem dX11_layBuyers_75 : decode cX11_layBuyers 75 = .ok (.invokevirtual 317, 3) := by decide +kernel
theorem dX11_layBuyers_78 : decode cX11_layBuyers 78 = .ok (.iload 4, 2) := by decide +kernel
theorem dX11_layBuyers_80 : decode cX11_layBuyers 80 = .ok (.iand, 1) := by decide +kernel
theorem dX11_layBuyers_81 : decode cX11_layBuyers 81 = .ok (.ifCond .eq 7, 3) := by decide +kernel
theorem dX11_layBuyers_84 : decode cX11_layBuyers 84 = .ok (.iconst 1, 1) := by decide +kernel
theorem dX11_layBuyers_85 : decode cX11_layBuyers 85 = .ok (.goto 4, 3) := by decide +kernel
theorem dX11_layBuyers_88 : decode cX11_layBuyers 88 = .ok (.iconst 0, 1) := by decide +kernel
theorem dX11_layBuyers_89 : decode cX11_layBuyers 89 = .ok (.istore 7, 2) := by decide +kernel
theorem dX11_layBuyers_91 : decode cX11_layBuyers 91 = .ok (.aload_n 0, 1) := by decide +kernel
theorem dX11_layBuyers_92 : decode cX11_layBuyers 92 = .ok (.iload 6, 2) := by decide +kernel
theorem dX11_layBuyers_94 : decode cX11_layBuyers 94 = .ok (.aload_n 0, 1) := by decide +kernel
theorem dX11_layBuyers_95 : decode cX11_layBuyers 95 = .ok (.getfield 26, 3) := by decide +kernel
theorem dX11_layBuyers_98 : decode cX11_layBuyers 98 = .ok (.bipush 8, 2) := by decide +kernel
theorem dX11_layBuyers_100 : decode cX11_layBuyers 100 = .ok (.iload 6, 2) := by decide +kernel
theorem dX11_layBuyers_102 : decode cX11_layBuyers 102 = .ok (.iadd, 1) := by decide +kernel
theorem dX11_layBuyers_103 : decode cX11_layBuyers 103 = .ok (.iaload, 1) := by decide +kernel
theorem dX11_layBuyers_104 : decode cX11_layBuyers 104 = .ok (.iconst 1, 1) := by decide +kernel
theorem dX11_layBuyers_105 : decode cX11_layBuyers 105 = .ok (.iload_n 2, 1) := by decide +kernel
theorem dX11_layBuyers_106 : decode cX11_layBuyers 106 = .ok (.ishl, 1) := by decide +kernel
theorem dX11_layBuyers_107 : decode cX11_layBuyers 107 = .ok (.ior, 1) := by decide +kernel
theorem dX11_layBuyers_108 : decode cX11_layBuyers 108 = .ok (.iload_n 3, 1) := by decide +kernel
theorem dX11_layBuyers_109 : decode cX11_layBuyers 109 = .ok (.invokevirtual 317, 3) := by decide +kernel
theorem dX11_layBuyers_112 : decode cX11_layBuyers 112 = .ok (.iload 4, 2) := by decide +kernel
theorem dX11_layBuyers_114 : decode cX11_layBuyers 114 = .ok (.iand, 1) := by decide +kernel
theorem dX11_layBuyers_115 : decode cX11_layBuyers 115 = .ok (.ifCond .eq 7, 3) := by decide +kernel
theorem dX11_layBuyers_118 : decode cX11_layBuyers 118 = .ok (.iconst 1, 1) := by decide +kernel
theorem dX11_layBuyers_119 : decode cX11_layBuyers 119 = .ok (.goto 4, 3) := by decide +kernel
theorem dX11_layBuyers_122 : decode cX11_layBuyers 122 = .ok (.iconst 0, 1) := by decide +kernel
theorem dX11_layBuyers_123 : decode cX11_layBuyers 123 = .ok (.istore 8, 2) := by decide +kernel
theorem dX11_layBuyers_125 : decode cX11_layBuyers 125 = .ok (.aload_n 0, 1) := by decide +kernel
theorem dX11_layBuyers_126 : decode cX11_layBuyers 126 = .ok (.dup, 1) := by decide +kernel
theorem dX11_layBuyers_127 : decode cX11_layBuyers 127 = .ok (.getfield 397, 3) := by decide +kernel
theorem dX11_layBuyers_130 : decode cX11_layBuyers 130 = .ok (.iload 7, 2) := by decide +kernel
theorem dX11_layBuyers_132 : decode cX11_layBuyers 132 = .ok (.ifCond .eq 12, 3) := by decide +kernel
theorem dX11_layBuyers_135 : decode cX11_layBuyers 135 = .ok (.iload 8, 2) := by decide +kernel
theorem dX11_layBuyers_137 : decode cX11_layBuyers 137 = .ok (.ifCond .eq 7, 3) := by decide +kernel
theorem dX11_layBuyers_140 : decode cX11_layBuyers 140 = .ok (.iconst 1, 1) := by decide +kernel
theorem dX11_layBuyers_141 : decode cX11_layBuyers 141 = .ok (.goto 4, 3) := by decide +kernel
theorem dX11_layBuyers_144 : decode cX11_layBuyers 144 = .ok (.iconst 0, 1) := by decide +kernel
theorem dX11_layBuyers_145 : decode cX11_layBuyers 145 = .ok (.iadd, 1) := by decide +kernel
theorem dX11_layBuyers_146 : decode cX11_layBuyers 146 = .ok (.putfield 397, 3) := by decide +kernel
theorem dX11_layBuyers_149 : decode cX11_layBuyers 149 = .ok (.aload_n 0, 1) := by decide +kernel
theorem dX11_layBuyers_150 : decode cX11_layBuyers 150 = .ok (.dup, 1) := by decide +kernel
theorem dX11_layBuyers_151 : decode cX11_layBuyers 151 = .ok (.getfield 391, 3) := by decide +kernel
theorem dX11_layBuyers_154 : decode cX11_layBuyers 154 = .ok (.iload 7, 2) := by decide +kernel
theorem dX11_layBuyers_156 : decode cX11_layBuyers 156 = .ok (.ifCond .eq 12, 3) := by decide +kernel
theorem dX11_layBuyers_159 : decode cX11_layBuyers 159 = .ok (.iload 8, 2) := by decide +kernel
theorem dX11_layBuyers_161 : decode cX11_layBuyers 161 = .ok (.ifCond .ne 7, 3) := by decide +kernel
theorem dX11_layBuyers_164 : decode cX11_layBuyers 164 = .ok (.iconst 1, 1) := by decide +kernel
theorem dX11_layBuyers_165 : decode cX11_layBuyers 165 = .ok (.goto 4, 3) := by decide +kernel
theorem dX11_layBuyers_168 : decode cX11_layBuyers 168 = .ok (.iconst 0, 1) := by decide +kernel
theorem dX11_layBuyers_169 : decode cX11_layBuyers 169 = .ok (.iadd, 1) := by decide +kernel
theorem dX11_layBuyers_170 : decode cX11_layBuyers 170 = .ok (.putfield 391, 3) := by decide +kernel
theorem dX11_layBuyers_173 : decode cX11_layBuyers 173 = .ok (.aload_n 0, 1) := by decide +kernel
theorem dX11_layBuyers_174 : decode cX11_layBuyers 174 = .ok (.dup, 1) := by decide +kernel
theorem dX11_layBuyers_175 : decode cX11_layBuyers 175 = .ok (.getfield 394, 3) := by decide +kernel
theorem dX11_layBuyers_178 : decode cX11_layBuyers 178 = .ok (.iload 8, 2) := by decide +kernel
theorem dX11_layBuyers_180 : decode cX11_layBuyers 180 = .ok (.ifCond .eq 12, 3) := by decide +kernel
theorem dX11_layBuyers_183 : decode cX11_layBuyers 183 = .ok (.iload 7, 2) := by decide +kernel
theorem dX11_layBuyers_185 : decode cX11_layBuyers 185 = .ok (.ifCond .ne 7, 3) := by decide +kernel
theorem dX11_layBuyers_188 : decode cX11_layBuyers 188 = .ok (.iconst 1, 1) := by decide +kernel
theorem dX11_layBuyers_189 : decode cX11_layBuyers 189 = .ok (.goto 4, 3) := by decide +kernel
theorem dX11_layBuyers_192 : decode cX11_layBuyers 192 = .ok (.iconst 0, 1) := by decide +kernel
theorem dX11_layBuyers_193 : decode cX11_layBuyers 193 = .ok (.iadd, 1) := by decide +kernel
theorem dX11_layBuyers_194 : decode cX11_layBuyers 194 = .ok (.putfield 394, 3) := by decide +kernel
theorem dX11_layBuyers_197 : decode cX11_layBuyers 197 = .ok (.iinc 6 1, 3) := by decide +kernel
theorem dX11_layBuyers_200 : decode cX11_layBuyers 200 = .ok (.goto (-167), 3) := by decide +kernel
theorem dX11_layBuyers_203 : decode cX11_layBuyers 203 = .ok (.return_, 1) := by decide +kernel
theorem dX11_sellsOf_0 : decode cX11_sellsOf 0 = .ok (.iload_n 3, 1) := by decide +kernel
theorem dX11_sellsOf_1 : decode cX11_sellsOf 1 = .ok (.ifCond .eq 26, 3) := by decide +kernel
theorem dX11_sellsOf_4 : decode cX11_sellsOf 4 = .ok (.iload_n 2, 1) := by decide +kernel
theorem dX11_sellsOf_5 : decode cX11_sellsOf 5 = .ok (.aload_n 0, 1) := by decide +kernel
theorem dX11_sellsOf_6 : decode cX11_sellsOf 6 = .ok (.getfield 394, 3) := by decide +kernel
theorem dX11_sellsOf_9 : decode cX11_sellsOf 9 = .ok (.iload_n 2, 1) := by decide +kernel
theorem dX11_sellsOf_10 : decode cX11_sellsOf 10 = .ok (.iload_n 1, 1) := by decide +kernel
theorem dX11_sellsOf_11 : decode cX11_sellsOf 11 = .ok (.if_icmp .ge 10, 3) := by decide +kernel
theorem dX11_sellsOf_14 : decode cX11_sellsOf 14 = .ok (.aload_n 0, 1) := by decide +kernel
theorem dX11_sellsOf_15 : decode cX11_sellsOf 15 = .ok (.getfield 397, 3) := by decide +kernel
theorem dX11_sellsOf_18 : decode cX11_sellsOf 18 = .ok (.goto 4, 3) := by decide +kernel
theorem dX11_sellsOf_21 : decode cX11_sellsOf 21 = .ok (.iconst 0, 1) := by decide +kernel
theorem dX11_sellsOf_22 : decode cX11_sellsOf 22 = .ok (.iadd, 1) := by decide +kernel
theorem dX11_sellsOf_23 : decode cX11_sellsOf 23 = .ok (.imul, 1) := by decide +kernel
theorem dX11_sellsOf_24 : decode cX11_sellsOf 24 = .ok (.goto 23, 3) := by decide +kernel
theorem dX11_sellsOf_27 : decode cX11_sellsOf 27 = .ok (.iload_n 1, 1) := by decide +kernel
theorem dX11_sellsOf_28 : decode cX11_sellsOf 28 = .ok (.aload_n 0, 1) := by decide +kernel
theorem dX11_sellsOf_29 : decode cX11_sellsOf 29 = .ok (.getfield 391, 3) := by decide +kernel
theorem dX11_sellsOf_32 : decode cX11_sellsOf 32 = .ok (.iload_n 1, 1) := by decide +kernel
theorem dX11_sellsOf_33 : decode cX11_sellsOf 33 = .ok (.iload_n 2, 1) := by decide +kernel
theorem dX11_sellsOf_34 : decode cX11_sellsOf 34 = .ok (.if_icmp .gt 10, 3) := by decide +kernel
theorem dX11_sellsOf_37 : decode cX11_sellsOf 37 = .ok (.aload_n 0, 1) := by decide +kernel
theorem dX11_sellsOf_38 : decode cX11_sellsOf 38 = .ok (.getfield 397, 3) := by decide +kernel
theorem dX11_sellsOf_41 : decode cX11_sellsOf 41 = .ok (.goto 4, 3) := by decide +kernel
theorem dX11_sellsOf_44 : decode cX11_sellsOf 44 = .ok (.iconst 0, 1) := by decide +kernel
theorem dX11_sellsOf_45 : decode cX11_sellsOf 45 = .ok (.iadd, 1) := by decide +kernel
theorem dX11_sellsOf_46 : decode cX11_sellsOf 46 = .ok (.imul, 1) := by decide +kernel
theorem dX11_sellsOf_47 : decode cX11_sellsOf 47 = .ok (.ireturn, 1) := by decide +kernel
theorem dX11_sellersWhy_0 : decode cX11_sellersWhy 0 = .ok (.aload_n 0, 1) := by decide +kernel
theorem dX11_sellersWhy_1 : decode cX11_sellersWhy 1 = .ok (.aload_n 0, 1) := by decide +kernel
theorem dX11_sellersWhy_2 : decode cX11_sellersWhy 2 = .ok (.iload_n 1, 1) := by decide +kernel
theorem dX11_sellersWhy_3 : decode cX11_sellersWhy 3 = .ok (.invokevirtual 294, 3) := by decide +kernel
theorem dX11_sellersWhy_6 : decode cX11_sellersWhy 6 = .ok (.ifCond .eq 20, 3) := by decide +kernel
theorem dX11_sellersWhy_9 : decode cX11_sellersWhy 9 = .ok (.aload_n 0, 1) := by decide +kernel
theorem dX11_sellersWhy_10 : decode cX11_sellersWhy 10 = .ok (.iload_n 2, 1) := by decide +kernel
theorem dX11_sellersWhy_11 : decode cX11_sellersWhy 11 = .ok (.invokevirtual 294, 3) := by decide +kernel
theorem dX11_sellersWhy_14 : decode cX11_sellersWhy 14 = .ok (.ifCond .eq 12, 3) := by decide +kernel
theorem dX11_sellersWhy_17 : decode cX11_sellersWhy 17 = .ok (.iload_n 1, 1) := by decide +kernel
theorem dX11_sellersWhy_18 : decode cX11_sellersWhy 18 = .ok (.iload_n 2, 1) := by decide +kernel
theorem dX11_sellersWhy_19 : decode cX11_sellersWhy 19 = .ok (.if_icmp .eq 7, 3) := by decide +kernel
theorem dX11_sellersWhy_22 : decode cX11_sellersWhy 22 = .ok (.iconst 1, 1) := by decide +kernel
theorem dX11_sellersWhy_23 : decode cX11_sellersWhy 23 = .ok (.goto 4, 3) := by decide +kernel
theorem dX11_sellersWhy_26 : decode cX11_sellersWhy 26 = .ok (.iconst 0, 1) := by decide +kernel
theorem dX11_sellersWhy_27 : decode cX11_sellersWhy 27 = .ok (.iload_n 3, 1) := by decide +kernel
theorem dX11_sellersWhy_28 : decode cX11_sellersWhy 28 = .ok (.invokevirtual 303, 3) := by decide +kernel
theorem dX11_sellersWhy_31 : decode cX11_sellersWhy 31 = .ok (.ireturn, 1) := by decide +kernel
theorem dX11_sells_0 : decode cX11_sells 0 = .ok (.aload_n 0, 1) := by decide +kernel
theorem dX11_sells_1 : decode cX11_sells 1 = .ok (.invokevirtual 168, 3) := by decide +kernel
theorem dX11_sells_4 : decode cX11_sells 4 = .ok (.aload_n 0, 1) := by decide +kernel
theorem dX11_sells_5 : decode cX11_sells 5 = .ok (.iload_n 1, 1) := by decide +kernel
theorem dX11_sells_6 : decode cX11_sells 6 = .ok (.iload_n 3, 1) := by decide +kernel
theorem dX11_sells_7 : decode cX11_sells 7 = .ok (.iload 5, 2) := by decide +kernel
theorem dX11_sells_9 : decode cX11_sells 9 = .ok (.invokevirtual 400, 3) := by decide +kernel
theorem dX11_sells_12 : decode cX11_sells 12 = .ok (.istore 7, 2) := by decide +kernel
theorem dX11_sells_14 : decode cX11_sells 14 = .ok (.iload 7, 2) := by decide +kernel
theorem dX11_sells_16 : decode cX11_sells 16 = .ok (.ifCond .ne 27, 3) := by decide +kernel
theorem dX11_sells_19 : decode cX11_sells 19 = .ok (.iload_n 2, 1) := by decide +kernel
theorem dX11_sells_20 : decode cX11_sells 20 = .ok (.iconst 0, 1) := by decide +kernel
theorem dX11_sells_21 : decode cX11_sells 21 = .ok (.bipush 9, 2) := by decide +kernel
theorem dX11_sells_23 : decode cX11_sells 23 = .ok (.invokestatic 147, 3) := by decide +kernel
theorem dX11_sells_26 : decode cX11_sells 26 = .ok (.ifCond .eq 14, 3) := by decide +kernel
theorem dX11_sells_29 : decode cX11_sells 29 = .ok (.iload 4, 2) := by decide +kernel
theorem dX11_sells_31 : decode cX11_sells 31 = .ok (.iconst 0, 1) := by decide +kernel
theorem dX11_sells_32 : decode cX11_sells 32 = .ok (.bipush 9, 2) := by decide +kernel
theorem dX11_sells_34 : decode cX11_sells 34 = .ok (.invokestatic 147, 3) := by decide +kernel
theorem dX11_sells_37 : decode cX11_sells 37 = .ok (.ifCond .ne 6, 3) := by decide +kernel
theorem dX11_sells_40 : decode cX11_sells 40 = .ok (.iconst 2, 1) := by decide +kernel
theorem dX11_sells_41 : decode cX11_sells 41 = .ok (.istore 7, 2) := by decide +kernel
theorem dX11_sells_43 : decode cX11_sells 43 = .ok (.iload 7, 2) := by decide +kernel
theorem dX11_sells_45 : decode cX11_sells 45 = .ok (.ifCond .eq 10, 3) := by decide +kernel
theorem dX11_sells_48 : decode cX11_sells 48 = .ok (.aload_n 0, 1) := by decide +kernel
theorem dX11_sells_49 : decode cX11_sells 49 = .ok (.iload 7, 2) := by decide +kernel
theorem dX11_sells_51 : decode cX11_sells 51 = .ok (.invokevirtual 171, 3) := by decide +kernel
theorem dX11_sells_54 : decode cX11_sells 54 = .ok (.ireturn, 1) := by decide +kernel
theorem dX11_sells_55 : decode cX11_sells 55 = .ok (.aload_n 0, 1) := by decide +kernel
theorem dX11_sells_56 : decode cX11_sells 56 = .ok (.iload_n 1, 1) := by decide +kernel
theorem dX11_sells_57 : decode cX11_sells 57 = .ok (.iload_n 3, 1) := by decide +kernel
theorem dX11_sells_58 : decode cX11_sells 58 = .ok (.aload_n 0, 1) := by decide +kernel
theorem dX11_sells_59 : decode cX11_sells 59 = .ok (.iload 5, 2) := by decide +kernel
theorem dX11_sells_61 : decode cX11_sells 61 = .ok (.invokevirtual 307, 3) := by decide +kernel
theorem dX11_sells_64 : decode cX11_sells 64 = .ok (.invokevirtual 403, 3) := by decide +kernel
theorem dX11_sells_67 : decode cX11_sells 67 = .ok (.aload_n 0, 1) := by decide +kernel
theorem dX11_sells_68 : decode cX11_sells 68 = .ok (.iload_n 2, 1) := by decide +kernel
theorem dX11_sells_69 : decode cX11_sells 69 = .ok (.iload 4, 2) := by decide +kernel
theorem dX11_sells_71 : decode cX11_sells 71 = .ok (.iload 6, 2) := by decide +kernel
theorem dX11_sells_73 : decode cX11_sells 73 = .ok (.invokevirtual 406, 3) := by decide +kernel
theorem dX11_sells_76 : decode cX11_sells 76 = .ok (.ireturn, 1) := by decide +kernel
theorem dX11_isRest_0 : decode cX11_isRest 0 = .ok (.iconst 1, 1) := by decide +kernel
theorem dX11_isRest_1 : decode cX11_isRest 1 = .ok (.istore_n 3, 1) := by decide +kernel
theorem dX11_isRest_2 : decode cX11_isRest 2 = .ok (.iconst 0, 1) := by decide +kernel
theorem dX11_isRest_3 : decode cX11_isRest 3 = .ok (.istore 4, 2) := by decide +kernel
theorem dX11_isRest_5 : decode cX11_isRest 5 = .ok (.iload 4, 2) := by decide +kernel
theorem dX11_isRest_7 : decode cX11_isRest 7 = .ok (.bipush 9, 2) := by decide +kernel
theorem dX11_isRest_9 : decode cX11_isRest 9 = .ok (.if_icmp .gt 55, 3) := by decide +kernel
theorem dX11_isRest_12 : decode cX11_isRest 12 = .ok (.iload_n 3, 1) := by decide +kernel
theorem dX11_isRest_13 : decode cX11_isRest 13 = .ok (.ifCond .eq 43, 3) := by decide +kernel
theorem dX11_isRest_16 : decode cX11_isRest 16 = .ok (.aload_n 0, 1) := by decide +kernel
theorem dX11_isRest_17 : decode cX11_isRest 17 = .ok (.iload 4, 2) := by decide +kernel
theorem dX11_isRest_19 : decode cX11_isRest 19 = .ok (.iload_n 2, 1) := by decide +kernel
theorem dX11_isRest_20 : decode cX11_isRest 20 = .ok (.iconst 0, 1) := by decide +kernel
theorem dX11_isRest_21 : decode cX11_isRest 21 = .ok (.invokevirtual 406, 3) := by decide +kernel
theorem dX11_isRest_24 : decode cX11_isRest 24 = .ok (.aload_n 0, 1) := by decide +kernel
theorem dX11_isRest_25 : decode cX11_isRest 25 = .ok (.iload_n 1, 1) := by decide +kernel
theorem dX11_isRest_26 : decode cX11_isRest 26 = .ok (.iload_n 2, 1) := by decide +kernel
theorem dX11_isRest_27 : decode cX11_isRest 27 = .ok (.iconst 0, 1) := by decide +kernel
theorem dX11_isRest_28 : decode cX11_isRest 28 = .ok (.invokevirtual 406, 3) := by decide +kernel
theorem dX11_isRest_31 : decode cX11_isRest 31 = .ok (.if_icmp .gt 25, 3) := by decide +kernel
theorem dX11_isRest_34 : decode cX11_isRest 34 = .ok (.aload_n 0, 1) := by decide +kernel
theorem dX11_isRest_35 : decode cX11_isRest 35 = .ok (.iload_n 1, 1) := by decide +kernel
theorem dX11_isRest_36 : decode cX11_isRest 36 = .ok (.iload 4, 2) := by decide +kernel
theorem dX11_isRest_38 : decode cX11_isRest 38 = .ok (.iconst 1, 1) := by decide +kernel
theorem dX11_isRest_39 : decode cX11_isRest 39 = .ok (.invokevirtual 406, 3) := by decide +kernel
theorem dX11_isRest_42 : decode cX11_isRest 42 = .ok (.aload_n 0, 1) := by decide +kernel
theorem dX11_isRest_43 : decode cX11_isRest 43 = .ok (.iload_n 1, 1) := by decide +kernel
theorem dX11_isRest_44 : decode cX11_isRest 44 = .ok (.iload_n 2, 1) := by decide +kernel
theorem dX11_isRest_45 : decode cX11_isRest 45 = .ok (.iconst 1, 1) := by decide +kernel
theorem dX11_isRest_46 : decode cX11_isRest 46 = .ok (.invokevirtual 406, 3) := by decide +kernel
theorem dX11_isRest_49 : decode cX11_isRest 49 = .ok (.if_icmp .gt 7, 3) := by decide +kernel
theorem dX11_isRest_52 : decode cX11_isRest 52 = .ok (.iconst 1, 1) := by decide +kernel
theorem dX11_isRest_53 : decode cX11_isRest 53 = .ok (.goto 4, 3) := by decide +kernel
theorem dX11_isRest_56 : decode cX11_isRest 56 = .ok (.iconst 0, 1) := by decide +kernel
theorem dX11_isRest_57 : decode cX11_isRest 57 = .ok (.istore_n 3, 1) := by decide +kernel
theorem dX11_isRest_58 : decode cX11_isRest 58 = .ok (.iinc 4 1, 3) := by decide +kernel
theorem dX11_isRest_61 : decode cX11_isRest 61 = .ok (.goto (-56), 3) := by decide +kernel
theorem dX11_isRest_64 : decode cX11_isRest 64 = .ok (.iload_n 3, 1) := by decide +kernel
theorem dX11_isRest_65 : decode cX11_isRest 65 = .ok (.ireturn, 1) := by decide +kernel
theorem dX11_seekRests_0 : decode cX11_seekRests 0 = .ok (.aload_n 0, 1) := by decide +kernel
theorem dX11_seekRests_1 : decode cX11_seekRests 1 = .ok (.iload_n 1, 1) := by decide +kernel
theorem dX11_seekRests_2 : decode cX11_seekRests 2 = .ok (.iload_n 2, 1) := by decide +kernel
theorem dX11_seekRests_3 : decode cX11_seekRests 3 = .ok (.iload_n 3, 1) := by decide +kernel
theorem dX11_seekRests_4 : decode cX11_seekRests 4 = .ok (.invokevirtual 403, 3) := by decide +kernel
theorem dX11_seekRests_7 : decode cX11_seekRests 7 = .ok (.iconst 0, 1) := by decide +kernel
theorem dX11_seekRests_8 : decode cX11_seekRests 8 = .ok (.istore 4, 2) := by decide +kernel
theorem dX11_seekRests_10 : decode cX11_seekRests 10 = .ok (.aload_n 0, 1) := by decide +kernel
theorem dX11_seekRests_11 : decode cX11_seekRests 11 = .ok (.bipush (-2), 2) := by decide +kernel
theorem dX11_seekRests_13 : decode cX11_seekRests 13 = .ok (.putfield 410, 3) := by decide +kernel
theorem dX11_seekRests_16 : decode cX11_seekRests 16 = .ok (.iconst 0, 1) := by decide +kernel
theorem dX11_seekRests_17 : decode cX11_seekRests 17 = .ok (.istore 5, 2) := by decide +kernel
theorem dX11_seekRests_19 : decode cX11_seekRests 19 = .ok (.iload 5, 2) := by decide +kernel
theorem dX11_seekRests_21 : decode cX11_seekRests 21 = .ok (.bipush 9, 2) := by decide +kernel
theorem dX11_seekRests_23 : decode cX11_seekRests 23 = .ok (.if_icmp .gt 59, 3) := by decide +kernel
theorem dX11_seekRests_26 : decode cX11_seekRests 26 = .ok (.iconst 0, 1) := by decide +kernel
theorem dX11_seekRests_27 : decode cX11_seekRests 27 = .ok (.istore 6, 2) := by decide +kernel
theorem dX11_seekRests_29 : decode cX11_seekRests 29 = .ok (.iload 6, 2) := by decide +kernel
theorem dX11_seekRests_31 : decode cX11_seekRests 31 = .ok (.bipush 9, 2) := by decide +kernel
theorem dX11_seekRests_33 : decode cX11_seekRests 33 = .ok (.if_icmp .gt 43, 3) := by decide +kernel
theorem dX11_seekRests_36 : decode cX11_seekRests 36 = .ok (.aload_n 0, 1) := by decide +kernel
theorem dX11_seekRests_37 : decode cX11_seekRests 37 = .ok (.iload 5, 2) := by decide +kernel
theorem dX11_seekRests_39 : decode cX11_seekRests 39 = .ok (.iload 6, 2) := by decide +kernel
theorem dX11_seekRests_41 : decode cX11_seekRests 41 = .ok (.invokevirtual 413, 3) := by decide +kernel
theorem dX11_seekRests_44 : decode cX11_seekRests 44 = .ok (.ifCond .ne 6, 3) := by decide +kernel
theorem dX11_seekRests_47 : decode cX11_seekRests 47 = .ok (.goto 23, 3) := by decide +kernel
theorem dX11_seekRests_50 : decode cX11_seekRests 50 = .ok (.iload 4, 2) := by decide +kernel
theorem dX11_seekRests_52 : decode cX11_seekRests 52 = .ok (.ifCond .ne 15, 3) := by decide +kernel
theorem dX11_seekRests_55 : decode cX11_seekRests 55 = .ok (.aload_n 0, 1) := by decide +kernel
theorem dX11_seekRests_56 : decode cX11_seekRests 56 = .ok (.bipush 10, 2) := by decide +kernel
theorem dX11_seekRests_58 : decode cX11_seekRests 58 = .ok (.iload 5, 2) := by decide +kernel
theorem dX11_seekRests_60 : decode cX11_seekRests 60 = .ok (.imul, 1) := by decide +kernel
theorem dX11_seekRests_61 : decode cX11_seekRests 61 = .ok (.iload 6, 2) := by decide +kernel
theorem dX11_seekRests_63 : decode cX11_seekRests 63 = .ok (.iadd, 1) := by decide +kernel
theorem dX11_seekRests_64 : decode cX11_seekRests 64 = .ok (.putfield 410, 3) := by decide +kernel
theorem dX11_seekRests_67 : decode cX11_seekRests 67 = .ok (.iinc 4 1, 3) := by decide +kernel
theorem dX11_seekRests_70 : decode cX11_seekRests 70 = .ok (.iinc 6 1, 3) := by decide +kernel
theorem dX11_seekRests_73 : decode cX11_seekRests 73 = .ok (.goto (-44), 3) := by decide +kernel
theorem dX11_seekRests_76 : decode cX11_seekRests 76 = .ok (.iinc 5 1, 3) := by decide +kernel
theorem dX11_seekRests_79 : decode cX11_seekRests 79 = .ok (.goto (-60), 3) := by decide +kernel
theorem dX11_seekRests_82 : decode cX11_seekRests 82 = .ok (.iload 4, 2) := by decide +kernel
theorem dX11_seekRests_84 : decode cX11_seekRests 84 = .ok (.ireturn, 1) := by decide +kernel
theorem dX11_rests_0 : decode cX11_rests 0 = .ok (.aload_n 0, 1) := by decide +kernel
theorem dX11_rests_1 : decode cX11_rests 1 = .ok (.invokevirtual 168, 3) := by decide +kernel
theorem dX11_rests_4 : decode cX11_rests 4 = .ok (.aload_n 0, 1) := by decide +kernel
theorem dX11_rests_5 : decode cX11_rests 5 = .ok (.iload_n 1, 1) := by decide +kernel
theorem dX11_rests_6 : decode cX11_rests 6 = .ok (.iload_n 2, 1) := by decide +kernel
theorem dX11_rests_7 : decode cX11_rests 7 = .ok (.iload_n 3, 1) := by decide +kernel
theorem dX11_rests_8 : decode cX11_rests 8 = .ok (.invokevirtual 400, 3) := by decide +kernel
theorem dX11_rests_11 : decode cX11_rests 11 = .ok (.istore 4, 2) := by decide +kernel
theorem dX11_rests_13 : decode cX11_rests 13 = .ok (.iload 4, 2) := by decide +kernel
theorem dX11_rests_15 : decode cX11_rests 15 = .ok (.ifCond .eq 12, 3) := by decide +kernel
theorem dX11_rests_18 : decode cX11_rests 18 = .ok (.aload_n 0, 1) := by decide +kernel
theorem dX11_rests_19 : decode cX11_rests 19 = .ok (.iload 4, 2) := by decide +kernel
theorem dX11_rests_21 : decode cX11_rests 21 = .ok (.invokevirtual 171, 3) := by decide +kernel
theorem dX11_rests_24 : decode cX11_rests 24 = .ok (.goto 14, 3) := by decide +kernel
theorem dX11_rests_27 : decode cX11_rests 27 = .ok (.aload_n 0, 1) := by decide +kernel
theorem dX11_rests_28 : decode cX11_rests 28 = .ok (.iload_n 1, 1) := by decide +kernel
theorem dX11_rests_29 : decode cX11_rests 29 = .ok (.iload_n 2, 1) := by decide +kernel
theorem dX11_rests_30 : decode cX11_rests 30 = .ok (.aload_n 0, 1) := by decide +kernel
theorem dX11_rests_31 : decode cX11_rests 31 = .ok (.iload_n 3, 1) := by decide +kernel
theorem dX11_rests_32 : decode cX11_rests 32 = .ok (.invokevirtual 307, 3) := by decide +kernel
theorem dX11_rests_35 : decode cX11_rests 35 = .ok (.invokevirtual 416, 3) := by decide +kernel
theorem dX11_rests_38 : decode cX11_rests 38 = .ok (.ireturn, 1) := by decide +kernel
theorem dX11_rest_0 : decode cX11_rest 0 = .ok (.aload_n 0, 1) := by decide +kernel
theorem dX11_rest_1 : decode cX11_rest 1 = .ok (.invokevirtual 168, 3) := by decide +kernel
theorem dX11_rest_4 : decode cX11_rest 4 = .ok (.aload_n 0, 1) := by decide +kernel
theorem dX11_rest_5 : decode cX11_rest 5 = .ok (.iload_n 1, 1) := by decide +kernel
theorem dX11_rest_6 : decode cX11_rest 6 = .ok (.iload_n 2, 1) := by decide +kernel
theorem dX11_rest_7 : decode cX11_rest 7 = .ok (.iload_n 3, 1) := by decide +kernel
theorem dX11_rest_8 : decode cX11_rest 8 = .ok (.invokevirtual 400, 3) := by decide +kernel
theorem dX11_rest_11 : decode cX11_rest 11 = .ok (.istore 4, 2) := by decide +kernel
theorem dX11_rest_13 : decode cX11_rest 13 = .ok (.iload 4, 2) := by decide +kernel
theorem dX11_rest_15 : decode cX11_rest 15 = .ok (.ifCond .eq 10, 3) := by decide +kernel
theorem dX11_rest_18 : decode cX11_rest 18 = .ok (.aload_n 0, 1) := by decide +kernel
theorem dX11_rest_19 : decode cX11_rest 19 = .ok (.iload 4, 2) := by decide +kernel
theorem dX11_rest_21 : decode cX11_rest 21 = .ok (.invokevirtual 171, 3) := by decide +kernel
theorem dX11_rest_24 : decode cX11_rest 24 = .ok (.ireturn, 1) := by decide +kernel
theorem dX11_rest_25 : decode cX11_rest 25 = .ok (.aload_n 0, 1) := by decide +kernel
theorem dX11_rest_26 : decode cX11_rest 26 = .ok (.iload_n 1, 1) := by decide +kernel
theorem dX11_rest_27 : decode cX11_rest 27 = .ok (.iload_n 2, 1) := by decide +kernel
theorem dX11_rest_28 : decode cX11_rest 28 = .ok (.aload_n 0, 1) := by decide +kernel
theorem dX11_rest_29 : decode cX11_rest 29 = .ok (.iload_n 3, 1) := by decide +kernel
theorem dX11_rest_30 : decode cX11_rest 30 = .ok (.invokevirtual 307, 3) := by decide +kernel
theorem dX11_rest_33 : decode cX11_rest 33 = .ok (.invokevirtual 416, 3) := by decide +kernel
theorem dX11_rest_36 : decode cX11_rest 36 = .ok (.pop, 1) := by decide +kernel
theorem dX11_rest_37 : decode cX11_rest 37 = .ok (.aload_n 0, 1) := by decide +kernel
theorem dX11_rest_38 : decode cX11_rest 38 = .ok (.getfield 410, 3) := by decide +kernel
theorem dX11_rest_41 : decode cX11_rest 41 = .ok (.ireturn, 1) := by decide +kernel
theorem dX11_goThrough_0 : decode cX11_goThrough 0 = .ok (.iload_n 1, 1) := by decide +kernel
theorem dX11_goThrough_1 : decode cX11_goThrough 1 = .ok (.istore_n 3, 1) := by decide +kernel
theorem dX11_goThrough_2 : decode cX11_goThrough 2 = .ok (.aload_n 0, 1) := by decide +kernel
theorem dX11_goThrough_3 : decode cX11_goThrough 3 = .ok (.iconst 0, 1) := by decide +kernel
theorem dX11_goThrough_4 : decode cX11_goThrough 4 = .ok (.invokevirtual 326, 3) := by decide +kernel
theorem dX11_goThrough_7 : decode cX11_goThrough 7 = .ok (.istore 4, 2) := by decide +kernel
theorem dX11_goThrough_9 : decode cX11_goThrough 9 = .ok (.iconst 0, 1) := by decide +kernel
theorem dX11_goThrough_10 : decode cX11_goThrough 10 = .ok (.istore 5, 2) := by decide +kernel
theorem dX11_goThrough_12 : decode cX11_goThrough 12 = .ok (.iconst 0, 1) := by decide +kernel
theorem dX11_goThrough_13 : decode cX11_goThrough 13 = .ok (.istore 6, 2) := by decide +kernel
theorem dX11_goThrough_15 : decode cX11_goThrough 15 = .ok (.iload 6, 2) := by decide +kernel
theorem dX11_goThrough_17 : decode cX11_goThrough 17 = .ok (.bipush 8, 2) := by decide +kernel
theorem dX11_goThrough_19 : decode cX11_goThrough 19 = .ok (.if_icmp .ge 18, 3) := by decide +kernel
theorem dX11_goThrough_22 : decode cX11_goThrough 22 = .ok (.aload_n 0, 1) := by decide +kernel
theorem dX11_goThrough_23 : decode cX11_goThrough 23 = .ok (.getfield 53, 3) := by decide +kernel
theorem dX11_goThrough_26 : decode cX11_goThrough 26 = .ok (.iload 6, 2) := by decide +kernel
theorem dX11_goThrough_28 : decode cX11_goThrough 28 = .ok (.bipush (-2), 2) := by decide +kernel
theorem dX11_goThrough_30 : decode cX11_goThrough 30 = .ok (.iastore, 1) := by decide +kernel
theorem dX11_goThrough_31 : decode cX11_goThrough 31 = .ok (.iinc 6 1, 3) := by decide +kernel
theorem dX11_goThrough_34 : decode cX11_goThrough 34 = .ok (.goto (-19), 3) := by decide +kernel
theorem dX11_goThrough_37 : decode cX11_goThrough 37 = .ok (.iconst 0, 1) := by decide +kernel
theorem dX11_goThrough_38 : decode cX11_goThrough 38 = .ok (.istore 6, 2) := by decide +kernel
theorem dX11_goThrough_40 : decode cX11_goThrough 40 = .ok (.iload 6, 2) := by decide +kernel
theorem dX11_goThrough_42 : decode cX11_goThrough 42 = .ok (.iload_n 2, 1) := by decide +kernel
theorem dX11_goThrough_43 : decode cX11_goThrough 43 = .ok (.if_icmp .ge 174, 3) := by decide +kernel
theorem dX11_goThrough_46 : decode cX11_goThrough 46 = .ok (.bipush 75, 2) := by decide +kernel
theorem dX11_goThrough_48 : decode cX11_goThrough 48 = .ok (.iload_n 3, 1) := by decide +kernel
theorem dX11_goThrough_49 : decode cX11_goThrough 49 = .ok (.imul, 1) := by decide +kernel
theorem dX11_goThrough_50 : decode cX11_goThrough 50 = .ok (.bipush 74, 2) := by decide +kernel
theorem dX11_goThrough_52 : decode cX11_goThrough 52 = .ok (.iadd, 1) := by decide +kernel
theorem dX11_goThrough_53 : decode cX11_goThrough 53 = .ok (.ldc_w 419, 3) := by decide +kernel
theorem dX11_goThrough_56 : decode cX11_goThrough 56 = .ok (.irem, 1) := by decide +kernel
theorem dX11_goThrough_57 : decode cX11_goThrough 57 = .ok (.istore_n 3, 1) := by decide +kernel
theorem dX11_goThrough_58 : decode cX11_goThrough 58 = .ok (.aload_n 0, 1) := by decide +kernel
theorem dX11_goThrough_59 : decode cX11_goThrough 59 = .ok (.aload_n 0, 1) := by decide +kernel
theorem dX11_goThrough_60 : decode cX11_goThrough 60 = .ok (.getfield 26, 3) := by decide +kernel
theorem dX11_goThrough_63 : decode cX11_goThrough 63 = .ok (.bipush 24, 2) := by decide +kernel
theorem dX11_goThrough_65 : decode cX11_goThrough 65 = .ok (.iaload, 1) := by decide +kernel
theorem dX11_goThrough_66 : decode cX11_goThrough 66 = .ok (.iload 6, 2) := by decide +kernel
theorem dX11_goThrough_68 : decode cX11_goThrough 68 = .ok (.iadd, 1) := by decide +kernel
theorem dX11_goThrough_69 : decode cX11_goThrough 69 = .ok (.bipush 24, 2) := by decide +kernel
theorem dX11_goThrough_71 : decode cX11_goThrough 71 = .ok (.irem, 1) := by decide +kernel
theorem dX11_goThrough_72 : decode cX11_goThrough 72 = .ok (.invokevirtual 307, 3) := by decide +kernel
theorem dX11_goThrough_75 : decode cX11_goThrough 75 = .ok (.iload_n 3, 1) := by decide +kernel
theorem dX11_goThrough_76 : decode cX11_goThrough 76 = .ok (.iconst 3, 1) := by decide +kernel
theorem dX11_goThrough_77 : decode cX11_goThrough 77 = .ok (.irem, 1) := by decide +kernel
theorem dX11_goThrough_78 : decode cX11_goThrough 78 = .ok (.iadd, 1) := by decide +kernel
theorem dX11_goThrough_79 : decode cX11_goThrough 79 = .ok (.iconst 1, 1) := by decide +kernel
theorem dX11_goThrough_80 : decode cX11_goThrough 80 = .ok (.isub, 1) := by decide +kernel
theorem dX11_goThrough_81 : decode cX11_goThrough 81 = .ok (.istore 7, 2) := by decide +kernel
theorem dX11_goThrough_83 : decode cX11_goThrough 83 = .ok (.aload_n 0, 1) := by decide +kernel
theorem dX11_goThrough_84 : decode cX11_goThrough 84 = .ok (.iload 4, 2) := by decide +kernel
theorem dX11_goThrough_86 : decode cX11_goThrough 86 = .ok (.iload 7, 2) := by decide +kernel
theorem dX11_goThrough_88 : decode cX11_goThrough 88 = .ok (.iconst 1, 1) := by decide +kernel
theorem dX11_goThrough_89 : decode cX11_goThrough 89 = .ok (.if_icmp .ge 7, 3) := by decide +kernel
theorem dX11_goThrough_92 : decode cX11_goThrough 92 = .ok (.iconst 1, 1) := by decide +kernel
theorem dX11_goThrough_93 : decode cX11_goThrough 93 = .ok (.goto 5, 3) := by decide +kernel
theorem dX11_goThrough_96 : decode cX11_goThrough 96 = .ok (.iload 7, 2) := by decide +kernel
theorem dX11_goThrough_98 : decode cX11_goThrough 98 = .ok (.invokevirtual 345, 3) := by decide +kernel
theorem dX11_goThrough_101 : decode cX11_goThrough 101 = .ok (.pop, 1) := by decide +kernel
theorem dX11_goThrough_102 : decode cX11_goThrough 102 = .ok (.iconst 0, 1) := by decide +kernel
theorem dX11_goThrough_103 : decode cX11_goThrough 103 = .ok (.istore 8, 2) := by decide +kernel
theorem dX11_goThrough_105 : decode cX11_goThrough 105 = .ok (.iconst 0, 1) := by decide +kernel
theorem dX11_goThrough_106 : decode cX11_goThrough 106 = .ok (.istore 9, 2) := by decide +kernel
theorem dX11_goThrough_108 : decode cX11_goThrough 108 = .ok (.iload 9, 2) := by decide +kernel
theorem dX11_goThrough_110 : decode cX11_goThrough 110 = .ok (.aload_n 0, 1) := by decide +kernel
theorem dX11_goThrough_111 : decode cX11_goThrough 111 = .ok (.getfield 20, 3) := by decide +kernel
theorem dX11_goThrough_114 : decode cX11_goThrough 114 = .ok (.iconst 3, 1) := by decide +kernel
theorem dX11_goThrough_115 : decode cX11_goThrough 115 = .ok (.iaload, 1) := by decide +kernel
theorem dX11_goThrough_116 : decode cX11_goThrough 116 = .ok (.if_icmp .ge 86, 3) := by decide +kernel
theorem dX11_goThrough_119 : decode cX11_goThrough 119 = .ok (.iload 8, 2) := by decide +kernel
theorem dX11_goThrough_121 : decode cX11_goThrough 121 = .ok (.aload_n 0, 1) := by decide +kernel
theorem dX11_goThrough_122 : decode cX11_goThrough 122 = .ok (.getfield 20, 3) := by decide +kernel
theorem dX11_goThrough_125 : decode cX11_goThrough 125 = .ok (.iconst 1, 1) := by decide +kernel
theorem dX11_goThrough_126 : decode cX11_goThrough 126 = .ok (.iaload, 1) := by decide +kernel
theorem dX11_goThrough_127 : decode cX11_goThrough 127 = .ok (.if_icmp .ge 75, 3) := by decide +kernel
theorem dX11_goThrough_130 : decode cX11_goThrough 130 = .ok (.aload_n 0, 1) := by decide +kernel
theorem dX11_goThrough_131 : decode cX11_goThrough 131 = .ok (.getfield 41, 3) := by decide +kernel
theorem dX11_goThrough_134 : decode cX11_goThrough 134 = .ok (.iload 9, 2) := by decide +kernel
theorem dX11_goThrough_136 : decode cX11_goThrough 136 = .ok (.iaload, 1) := by decide +kernel
theorem dX11_goThrough_137 : decode cX11_goThrough 137 = .ok (.iload 9, 2) := by decide +kernel
theorem dX11_goThrough_139 : decode cX11_goThrough 139 = .ok (.if_icmp .ge 6, 3) := by decide +kernel
theorem dX11_goThrough_142 : decode cX11_goThrough 142 = .ok (.goto 54, 3) := by decide +kernel
theorem dX11_goThrough_145 : decode cX11_goThrough 145 = .ok (.iinc 8 1, 3) := by decide +kernel
theorem dX11_goThrough_148 : decode cX11_goThrough 148 = .ok (.aload_n 0, 1) := by decide +kernel
theorem dX11_goThrough_149 : decode cX11_goThrough 149 = .ok (.getfield 53, 3) := by decide +kernel
theorem dX11_goThrough_152 : decode cX11_goThrough 152 = .ok (.iload 9, 2) := by decide +kernel
theorem dX11_goThrough_154 : decode cX11_goThrough 154 = .ok (.iload 6, 2) := by decide +kernel
theorem dX11_goThrough_156 : decode cX11_goThrough 156 = .ok (.iconst 1, 1) := by decide +kernel
theorem dX11_goThrough_157 : decode cX11_goThrough 157 = .ok (.iadd, 1) := by decide +kernel
theorem dX11_goThrough_158 : decode cX11_goThrough 158 = .ok (.iastore, 1) := by decide +kernel
theorem dX11_goThrough_159 : decode cX11_goThrough 159 = .ok (.aload_n 0, 1) := by decide +kernel
theorem dX11_goThrough_160 : decode cX11_goThrough 160 = .ok (.getfield 53, 3) := by decide +kernel
theorem dX11_goThrough_163 : decode cX11_goThrough 163 = .ok (.aload_n 0, 1) := by decide +kernel
theorem dX11_goThrough_164 : decode cX11_goThrough 164 = .ok (.getfield 41, 3) := by decide +kernel
theorem dX11_goThrough_167 : decode cX11_goThrough 167 = .ok (.iload 9, 2) := by decide +kernel
theorem dX11_goThrough_169 : decode cX11_goThrough 169 = .ok (.iaload, 1) := by decide +kernel
theorem dX11_goThrough_170 : decode cX11_goThrough 170 = .ok (.iload 6, 2) := by decide +kernel
theorem dX11_goThrough_172 : decode cX11_goThrough 172 = .ok (.iconst 1, 1) := by decide +kernel
theorem dX11_goThrough_173 : decode cX11_goThrough 173 = .ok (.iadd, 1) := by decide +kernel
theorem dX11_goThrough_174 : decode cX11_goThrough 174 = .ok (.iastore, 1) := by decide +kernel
theorem dX11_goThrough_175 : decode cX11_goThrough 175 = .ok (.iload 4, 2) := by decide +kernel
theorem dX11_goThrough_177 : decode cX11_goThrough 177 = .ok (.iconst 1, 1) := by decide +kernel
theorem dX11_goThrough_178 : decode cX11_goThrough 178 = .ok (.iload 9, 2) := by decide +kernel
theorem dX11_goThrough_180 : decode cX11_goThrough 180 = .ok (.ishl, 1) := by decide +kernel
theorem dX11_goThrough_181 : decode cX11_goThrough 181 = .ok (.iconst 1, 1) := by decide +kernel
theorem dX11_goThrough_182 : decode cX11_goThrough 182 = .ok (.aload_n 0, 1) := by decide +kernel
theorem dX11_goThrough_183 : decode cX11_goThrough 183 = .ok (.getfield 41, 3) := by decide +kernel
theorem dX11_goThrough_186 : decode cX11_goThrough 186 = .ok (.iload 9, 2) := by decide +kernel
theorem dX11_goThrough_188 : decode cX11_goThrough 188 = .ok (.iaload, 1) := by decide +kernel
theorem dX11_goThrough_189 : decode cX11_goThrough 189 = .ok (.ishl, 1) := by decide +kernel
theorem dX11_goThrough_190 : decode cX11_goThrough 190 = .ok (.ior, 1) := by decide +kernel
theorem dX11_goThrough_191 : decode cX11_goThrough 191 = .ok (.iconst (-1), 1) := by decide +kernel
theorem dX11_goThrough_192 : decode cX11_goThrough 192 = .ok (.ixor, 1) := by decide +kernel
theorem dX11_goThrough_193 : decode cX11_goThrough 193 = .ok (.iand, 1) := by decide +kernel
theorem dX11_goThrough_194 : decode cX11_goThrough 194 = .ok (.istore 4, 2) := by decide +kernel
theorem dX11_goThrough_196 : decode cX11_goThrough 196 = .ok (.iinc 9 1, 3) := by decide +kernel
theorem dX11_goThrough_199 : decode cX11_goThrough 199 = .ok (.goto (-91), 3) := by decide +kernel
theorem dX11_goThrough_202 : decode cX11_goThrough 202 = .ok (.iload 5, 2) := by decide +kernel
theorem dX11_goThrough_204 : decode cX11_goThrough 204 = .ok (.iconst 2, 1) := by decide +kernel
theorem dX11_goThrough_205 : decode cX11_goThrough 205 = .ok (.iload 8, 2) := by decide +kernel
theorem dX11_goThrough_207 : decode cX11_goThrough 207 = .ok (.imul, 1) := by decide +kernel
theorem dX11_goThrough_208 : decode cX11_goThrough 208 = .ok (.iadd, 1) := by decide +kernel
theorem dX11_goThrough_209 : decode cX11_goThrough 209 = .ok (.istore 5, 2) := by decide +kernel
theorem dX11_goThrough_211 : decode cX11_goThrough 211 = .ok (.iinc 6 1, 3) := by decide +kernel
theorem dX11_goThrough_214 : decode cX11_goThrough 214 = .ok (.goto (-174), 3) := by decide +kernel
theorem dX11_goThrough_217 : decode cX11_goThrough 217 = .ok (.iload 5, 2) := by decide +kernel
theorem dX11_goThrough_219 : decode cX11_goThrough 219 = .ok (.ireturn, 1) := by decide +kernel
theorem dX11_dayWhy_0 : decode cX11_dayWhy 0 = .ok (.iload_n 1, 1) := by decide +kernel
theorem dX11_dayWhy_1 : decode cX11_dayWhy 1 = .ok (.ifCond .ne 7, 3) := by decide +kernel
theorem dX11_dayWhy_4 : decode cX11_dayWhy 4 = .ok (.iconst 1, 1) := by decide +kernel
theorem dX11_dayWhy_5 : decode cX11_dayWhy 5 = .ok (.goto 29, 3) := by decide +kernel
theorem dX11_dayWhy_8 : decode cX11_dayWhy 8 = .ok (.iload_n 2, 1) := by decide +kernel
theorem dX11_dayWhy_9 : decode cX11_dayWhy 9 = .ok (.iconst 0, 1) := by decide +kernel
theorem dX11_dayWhy_10 : decode cX11_dayWhy 10 = .ok (.ldc_w 420, 3) := by decide +kernel
theorem dX11_dayWhy_13 : decode cX11_dayWhy 13 = .ok (.invokestatic 147, 3) := by decide +kernel
theorem dX11_dayWhy_16 : decode cX11_dayWhy 16 = .ok (.ifCond .eq 17, 3) := by decide +kernel
theorem dX11_dayWhy_19 : decode cX11_dayWhy 19 = .ok (.iload_n 3, 1) := by decide +kernel
theorem dX11_dayWhy_20 : decode cX11_dayWhy 20 = .ok (.iconst 0, 1) := by decide +kernel
theorem dX11_dayWhy_21 : decode cX11_dayWhy 21 = .ok (.bipush 24, 2) := by decide +kernel
theorem dX11_dayWhy_23 : decode cX11_dayWhy 23 = .ok (.invokestatic 147, 3) := by decide +kernel
theorem dX11_dayWhy_26 : decode cX11_dayWhy 26 = .ok (.ifCond .eq 7, 3) := by decide +kernel
theorem dX11_dayWhy_29 : decode cX11_dayWhy 29 = .ok (.iconst 0, 1) := by decide +kernel
theorem dX11_dayWhy_30 : decode cX11_dayWhy 30 = .ok (.goto 4, 3) := by decide +kernel
theorem dX11_dayWhy_33 : decode cX11_dayWhy 33 = .ok (.iconst 2, 1) := by decide +kernel
theorem dX11_dayWhy_34 : decode cX11_dayWhy 34 = .ok (.ireturn, 1) := by decide +kernel
theorem dX11_day_0 : decode cX11_day 0 = .ok (.aload_n 0, 1) := by decide +kernel
theorem dX11_day_1 : decode cX11_day 1 = .ok (.invokevirtual 168, 3) := by decide +kernel
theorem dX11_day_4 : decode cX11_day 4 = .ok (.aload_n 0, 1) := by decide +kernel
theorem dX11_day_5 : decode cX11_day 5 = .ok (.aload_n 0, 1) := by decide +kernel
theorem dX11_day_6 : decode cX11_day 6 = .ok (.getfield 181, 3) := by decide +kernel
theorem dX11_day_9 : decode cX11_day 9 = .ok (.iload_n 1, 1) := by decide +kernel
theorem dX11_day_10 : decode cX11_day 10 = .ok (.iload_n 2, 1) := by decide +kernel
theorem dX11_day_11 : decode cX11_day 11 = .ok (.invokevirtual 421, 3) := by decide +kernel
theorem dX11_day_14 : decode cX11_day 14 = .ok (.istore_n 3, 1) := by decide +kernel
theorem dX11_day_15 : decode cX11_day 15 = .ok (.iload_n 3, 1) := by decide +kernel
theorem dX11_day_16 : decode cX11_day 16 = .ok (.ifCond .eq 11, 3) := by decide +kernel
theorem dX11_day_19 : decode cX11_day 19 = .ok (.aload_n 0, 1) := by decide +kernel
theorem dX11_day_20 : decode cX11_day 20 = .ok (.iload_n 3, 1) := by decide +kernel
theorem dX11_day_21 : decode cX11_day 21 = .ok (.invokevirtual 171, 3) := by decide +kernel
theorem dX11_day_24 : decode cX11_day 24 = .ok (.goto 9, 3) := by decide +kernel
theorem dX11_day_27 : decode cX11_day 27 = .ok (.aload_n 0, 1) := by decide +kernel
theorem dX11_day_28 : decode cX11_day 28 = .ok (.iload_n 1, 1) := by decide +kernel
theorem dX11_day_29 : decode cX11_day 29 = .ok (.iload_n 2, 1) := by decide +kernel
theorem dX11_day_30 : decode cX11_day 30 = .ok (.invokevirtual 425, 3) := by decide +kernel
theorem dX11_day_33 : decode cX11_day 33 = .ok (.ireturn, 1) := by decide +kernel
theorem dX11_crossedIn_0 : decode cX11_crossedIn 0 = .ok (.aload_n 0, 1) := by decide +kernel
theorem dX11_crossedIn_1 : decode cX11_crossedIn 1 = .ok (.invokevirtual 168, 3) := by decide +kernel
theorem dX11_crossedIn_4 : decode cX11_crossedIn 4 = .ok (.aload_n 0, 1) := by decide +kernel
theorem dX11_crossedIn_5 : decode cX11_crossedIn 5 = .ok (.aload_n 0, 1) := by decide +kernel
theorem dX11_crossedIn_6 : decode cX11_crossedIn 6 = .ok (.iload_n 1, 1) := by decide +kernel
theorem dX11_crossedIn_7 : decode cX11_crossedIn 7 = .ok (.invokevirtual 297, 3) := by decide +kernel
theorem dX11_crossedIn_10 : decode cX11_crossedIn 10 = .ok (.iload_n 2, 1) := by decide +kernel
theorem dX11_crossedIn_11 : decode cX11_crossedIn 11 = .ok (.iload_n 3, 1) := by decide +kernel
theorem dX11_crossedIn_12 : decode cX11_crossedIn 12 = .ok (.invokevirtual 421, 3) := by decide +kernel
theorem dX11_crossedIn_15 : decode cX11_crossedIn 15 = .ok (.istore 4, 2) := by decide +kernel
theorem dX11_crossedIn_17 : decode cX11_crossedIn 17 = .ok (.iload 4, 2) := by decide +kernel
theorem dX11_crossedIn_19 : decode cX11_crossedIn 19 = .ok (.ifCond .eq 10, 3) := by decide +kernel
theorem dX11_crossedIn_22 : decode cX11_crossedIn 22 = .ok (.aload_n 0, 1) := by decide +kernel
theorem dX11_crossedIn_23 : decode cX11_crossedIn 23 = .ok (.iload 4, 2) := by decide +kernel
theorem dX11_crossedIn_25 : decode cX11_crossedIn 25 = .ok (.invokevirtual 171, 3) := by decide +kernel
theorem dX11_crossedIn_28 : decode cX11_crossedIn 28 = .ok (.ireturn, 1) := by decide +kernel
theorem dX11_crossedIn_29 : decode cX11_crossedIn 29 = .ok (.aload_n 0, 1) := by decide +kernel
theorem dX11_crossedIn_30 : decode cX11_crossedIn 30 = .ok (.iload_n 2, 1) := by decide +kernel
theorem dX11_crossedIn_31 : decode cX11_crossedIn 31 = .ok (.iload_n 3, 1) := by decide +kernel
theorem dX11_crossedIn_32 : decode cX11_crossedIn 32 = .ok (.invokevirtual 425, 3) := by decide +kernel
theorem dX11_crossedIn_35 : decode cX11_crossedIn 35 = .ok (.pop, 1) := by decide +kernel
theorem dX11_crossedIn_36 : decode cX11_crossedIn 36 = .ok (.aload_n 0, 1) := by decide +kernel
theorem dX11_crossedIn_37 : decode cX11_crossedIn 37 = .ok (.getfield 53, 3) := by decide +kernel
theorem dX11_crossedIn_40 : decode cX11_crossedIn 40 = .ok (.iload_n 1, 1) := by decide +kernel
theorem dX11_crossedIn_41 : decode cX11_crossedIn 41 = .ok (.iaload, 1) := by decide +kernel
theorem dX11_crossedIn_42 : decode cX11_crossedIn 42 = .ok (.ireturn, 1) := by decide +kernel
theorem dX11_note_0 : decode cX11_note 0 = .ok (.aload_n 0, 1) := by decide +kernel
theorem dX11_note_1 : decode cX11_note 1 = .ok (.getfield 184, 3) := by decide +kernel
theorem dX11_note_4 : decode cX11_note 4 = .ok (.bipush 16, 2) := by decide +kernel
theorem dX11_note_6 : decode cX11_note 6 = .ok (.if_icmp .ne 43, 3) := by decide +kernel
theorem dX11_note_9 : decode cX11_note 9 = .ok (.iconst 0, 1) := by decide +kernel
theorem dX11_note_10 : decode cX11_note 10 = .ok (.istore_n 1, 1) := by decide +kernel
theorem dX11_note_11 : decode cX11_note 11 = .ok (.iload_n 1, 1) := by decide +kernel
theorem dX11_note_12 : decode cX11_note 12 = .ok (.sipush 390, 3) := by decide +kernel
theorem dX11_note_15 : decode cX11_note 15 = .ok (.if_icmp .ge 24, 3) := by decide +kernel
theorem dX11_note_18 : decode cX11_note 18 = .ok (.aload_n 0, 1) := by decide +kernel
theorem dX11_note_19 : decode cX11_note 19 = .ok (.getfield 29, 3) := by decide +kernel
theorem dX11_note_22 : decode cX11_note 22 = .ok (.iload_n 1, 1) := by decide +kernel
theorem dX11_note_23 : decode cX11_note 23 = .ok (.aload_n 0, 1) := by decide +kernel
theorem dX11_note_24 : decode cX11_note 24 = .ok (.getfield 29, 3) := by decide +kernel
theorem dX11_note_27 : decode cX11_note 27 = .ok (.iload_n 1, 1) := by decide +kernel
theorem dX11_note_28 : decode cX11_note 28 = .ok (.bipush 26, 2) := by decide +kernel
theorem dX11_note_30 : decode cX11_note 30 = .ok (.iadd, 1) := by decide +kernel
theorem dX11_note_31 : decode cX11_note 31 = .ok (.iaload, 1) := by decide +kernel
theorem dX11_note_32 : decode cX11_note 32 = .ok (.iastore, 1) := by decide +kernel
theorem dX11_note_33 : decode cX11_note 33 = .ok (.iinc 1 1, 3) := by decide +kernel
theorem dX11_note_36 : decode cX11_note 36 = .ok (.goto (-25), 3) := by decide +kernel
theorem dX11_note_39 : decode cX11_note 39 = .ok (.aload_n 0, 1) := by decide +kernel
theorem dX11_note_40 : decode cX11_note 40 = .ok (.dup, 1) := by decide +kernel
theorem dX11_note_41 : decode cX11_note 41 = .ok (.getfield 184, 3) := by decide +kernel
theorem dX11_note_44 : decode cX11_note 44 = .ok (.iconst 1, 1) := by decide +kernel
theorem dX11_note_45 : decode cX11_note 45 = .ok (.isub, 1) := by decide +kernel
theorem dX11_note_46 : decode cX11_note 46 = .ok (.putfield 184, 3) := by decide +kernel
theorem dX11_note_49 : decode cX11_note 49 = .ok (.aload_n 0, 1) := by decide +kernel
theorem dX11_note_50 : decode cX11_note 50 = .ok (.getfield 26, 3) := by decide +kernel
theorem dX11_note_53 : decode cX11_note 53 = .ok (.iconst 0, 1) := by decide +kernel
theorem dX11_note_54 : decode cX11_note 54 = .ok (.aload_n 0, 1) := by decide +kernel
theorem dX11_note_55 : decode cX11_note 55 = .ok (.getfield 29, 3) := by decide +kernel
theorem dX11_note_58 : decode cX11_note 58 = .ok (.bipush 26, 2) := by decide +kernel
theorem dX11_note_60 : decode cX11_note 60 = .ok (.aload_n 0, 1) := by decide +kernel
theorem dX11_note_61 : decode cX11_note 61 = .ok (.getfield 184, 3) := by decide +kernel
theorem dX11_note_64 : decode cX11_note 64 = .ok (.imul, 1) := by decide +kernel
theorem dX11_note_65 : decode cX11_note 65 = .ok (.bipush 26, 2) := by decide +kernel
theorem dX11_note_67 : decode cX11_note 67 = .ok (.invokestatic 177, 3) := by decide +kernel
theorem dX11_note_70 : decode cX11_note 70 = .ok (.aload_n 0, 1) := by decide +kernel
theorem dX11_note_71 : decode cX11_note 71 = .ok (.dup, 1) := by decide +kernel
theorem dX11_note_72 : decode cX11_note 72 = .ok (.getfield 184, 3) := by decide +kernel
theorem dX11_note_75 : decode cX11_note 75 = .ok (.iconst 1, 1) := by decide +kernel
theorem dX11_note_76 : decode cX11_note 76 = .ok (.iadd, 1) := by decide +kernel
theorem dX11_note_77 : decode cX11_note 77 = .ok (.putfield 184, 3) := by decide +kernel
theorem dX11_note_80 : decode cX11_note 80 = .ok (.return_, 1) := by decide +kernel
theorem dX11_cross_0 : decode cX11_cross 0 = .ok (.aload_n 0, 1) := by decide +kernel
theorem dX11_cross_1 : decode cX11_cross 1 = .ok (.invokevirtual 168, 3) := by decide +kernel
theorem dX11_cross_4 : decode cX11_cross 4 = .ok (.aload_n 0, 1) := by decide +kernel
theorem dX11_cross_5 : decode cX11_cross 5 = .ok (.iload_n 1, 1) := by decide +kernel
theorem dX11_cross_6 : decode cX11_cross 6 = .ok (.iload_n 2, 1) := by decide +kernel
theorem dX11_cross_7 : decode cX11_cross 7 = .ok (.invokevirtual 310, 3) := by decide +kernel
theorem dX11_cross_10 : decode cX11_cross 10 = .ok (.ifCond .ne 9, 3) := by decide +kernel
theorem dX11_cross_13 : decode cX11_cross 13 = .ok (.aload_n 0, 1) := by decide +kernel
theorem dX11_cross_14 : decode cX11_cross 14 = .ok (.iconst 1, 1) := by decide +kernel
theorem dX11_cross_15 : decode cX11_cross 15 = .ok (.invokevirtual 171, 3) := by decide +kernel
theorem dX11_cross_18 : decode cX11_cross 18 = .ok (.ireturn, 1) := by decide +kernel
theorem dX11_cross_19 : decode cX11_cross 19 = .ok (.aload_n 0, 1) := by decide +kernel
theorem dX11_cross_20 : decode cX11_cross 20 = .ok (.iload_n 1, 1) := by decide +kernel
theorem dX11_cross_21 : decode cX11_cross 21 = .ok (.iload_n 2, 1) := by decide +kernel
theorem dX11_cross_22 : decode cX11_cross 22 = .ok (.aload_n 0, 1) := by decide +kernel
theorem dX11_cross_23 : decode cX11_cross 23 = .ok (.aload_n 0, 1) := by decide +kernel
theorem dX11_cross_24 : decode cX11_cross 24 = .ok (.getfield 26, 3) := by decide +kernel
theorem dX11_cross_27 : decode cX11_cross 27 = .ok (.bipush 24, 2) := by decide +kernel
theorem dX11_cross_29 : decode cX11_cross 29 = .ok (.iaload, 1) := by decide +kernel
theorem dX11_cross_30 : decode cX11_cross 30 = .ok (.invokevirtual 307, 3) := by decide +kernel
theorem dX11_cross_33 : decode cX11_cross 33 = .ok (.invokevirtual 313, 3) := by decide +kernel
theorem dX11_cross_36 : decode cX11_cross 36 = .ok (.istore_n 3, 1) := by decide +kernel
theorem dX11_cross_37 : decode cX11_cross 37 = .ok (.aload_n 0, 1) := by decide +kernel
theorem dX11_cross_38 : decode cX11_cross 38 = .ok (.getfield 26, 3) := by decide +kernel
theorem dX11_cross_41 : decode cX11_cross 41 = .ok (.iload_n 1, 1) := by decide +kernel
theorem dX11_cross_42 : decode cX11_cross 42 = .ok (.iaload, 1) := by decide +kernel
theorem dX11_cross_43 : decode cX11_cross 43 = .ok (.aload_n 0, 1) := by decide +kernel
theorem dX11_cross_44 : decode cX11_cross 44 = .ok (.getfield 26, 3) := by decide +kernel
theorem dX11_cross_47 : decode cX11_cross 47 = .ok (.iload_n 2, 1) := by decide +kernel
theorem dX11_cross_48 : decode cX11_cross 48 = .ok (.iaload, 1) := by decide +kernel
theorem dX11_cross_49 : decode cX11_cross 49 = .ok (.if_icmp .ne 7, 3) := by decide +kernel
theorem dX11_cross_52 : decode cX11_cross 52 = .ok (.iload_n 3, 1) := by decide +kernel
theorem dX11_cross_53 : decode cX11_cross 53 = .ok (.ifCond .ne 9, 3) := by decide +kernel
theorem dX11_cross_56 : decode cX11_cross 56 = .ok (.aload_n 0, 1) := by decide +kernel
theorem dX11_cross_57 : decode cX11_cross 57 = .ok (.iconst 5, 1) := by decide +kernel
theorem dX11_cross_58 : decode cX11_cross 58 = .ok (.invokevirtual 171, 3) := by decide +kernel
theorem dX11_cross_61 : decode cX11_cross 61 = .ok (.ireturn, 1) := by decide +kernel
theorem dX11_cross_62 : decode cX11_cross 62 = .ok (.aload_n 0, 1) := by decide +kernel
theorem dX11_cross_63 : decode cX11_cross 63 = .ok (.invokevirtual 428, 3) := by decide +kernel
theorem dX11_cross_66 : decode cX11_cross 66 = .ok (.aload_n 0, 1) := by decide +kernel
theorem dX11_cross_67 : decode cX11_cross 67 = .ok (.getfield 26, 3) := by decide +kernel
theorem dX11_cross_70 : decode cX11_cross 70 = .ok (.iload_n 1, 1) := by decide +kernel
theorem dX11_cross_71 : decode cX11_cross 71 = .ok (.iconst 1, 1) := by decide +kernel
theorem dX11_cross_72 : decode cX11_cross 72 = .ok (.aload_n 0, 1) := by decide +kernel
theorem dX11_cross_73 : decode cX11_cross 73 = .ok (.getfield 26, 3) := by decide +kernel
theorem dX11_cross_76 : decode cX11_cross 76 = .ok (.iload_n 1, 1) := by decide +kernel
theorem dX11_cross_77 : decode cX11_cross 77 = .ok (.iaload, 1) := by decide +kernel
theorem dX11_cross_78 : decode cX11_cross 78 = .ok (.isub, 1) := by decide +kernel
theorem dX11_cross_79 : decode cX11_cross 79 = .ok (.iastore, 1) := by decide +kernel
theorem dX11_cross_80 : decode cX11_cross 80 = .ok (.aload_n 0, 1) := by decide +kernel
theorem dX11_cross_81 : decode cX11_cross 81 = .ok (.getfield 26, 3) := by decide +kernel
theorem dX11_cross_84 : decode cX11_cross 84 = .ok (.iload_n 2, 1) := by decide +kernel
theorem dX11_cross_85 : decode cX11_cross 85 = .ok (.iconst 1, 1) := by decide +kernel
theorem dX11_cross_86 : decode cX11_cross 86 = .ok (.aload_n 0, 1) := by decide +kernel
theorem dX11_cross_87 : decode cX11_cross 87 = .ok (.getfield 26, 3) := by decide +kernel
theorem dX11_cross_90 : decode cX11_cross 90 = .ok (.iload_n 2, 1) := by decide +kernel
theorem dX11_cross_91 : decode cX11_cross 91 = .ok (.iaload, 1) := by decide +kernel
theorem dX11_cross_92 : decode cX11_cross 92 = .ok (.isub, 1) := by decide +kernel
theorem dX11_cross_93 : decode cX11_cross 93 = .ok (.iastore, 1) := by decide +kernel
theorem dX11_cross_94 : decode cX11_cross 94 = .ok (.iload_n 3, 1) := by decide +kernel
theorem dX11_cross_95 : decode cX11_cross 95 = .ok (.iconst 1, 1) := by decide +kernel
theorem dX11_cross_96 : decode cX11_cross 96 = .ok (.if_icmp .ne 29, 3) := by decide +kernel
theorem dX11_cross_99 : decode cX11_cross 99 = .ok (.aload_n 0, 1) := by decide +kernel
theorem dX11_cross_100 : decode cX11_cross 100 = .ok (.getfield 26, 3) := by decide +kernel
theorem dX11_cross_103 : decode cX11_cross 103 = .ok (.bipush 16, 2) := by decide +kernel
theorem dX11_cross_105 : decode cX11_cross 105 = .ok (.iload_n 1, 1) := by decide +kernel
theorem dX11_cross_106 : decode cX11_cross 106 = .ok (.iadd, 1) := by decide +kernel
theorem dX11_cross_107 : decode cX11_cross 107 = .ok (.dup2, 1) := by decide +kernel
theorem dX11_cross_108 : decode cX11_cross 108 = .ok (.iaload, 1) := by decide +kernel
theorem dX11_cross_109 : decode cX11_cross 109 = .ok (.iconst 1, 1) := by decide +kernel
theorem dX11_cross_110 : decode cX11_cross 110 = .ok (.iadd, 1) := by decide +kernel
theorem dX11_cross_111 : decode cX11_cross 111 = .ok (.iastore, 1) := by decide +kernel
theorem dX11_cross_112 : decode cX11_cross 112 = .ok (.aload_n 0, 1) := by decide +kernel
theorem dX11_cross_113 : decode cX11_cross 113 = .ok (.getfield 26, 3) := by decide +kernel
theorem dX11_cross_116 : decode cX11_cross 116 = .ok (.bipush 16, 2) := by decide +kernel
theorem dX11_cross_118 : decode cX11_cross 118 = .ok (.iload_n 2, 1) := by decide +kernel
theorem dX11_cross_119 : decode cX11_cross 119 = .ok (.iadd, 1) := by decide +kernel
theorem dX11_cross_120 : decode cX11_cross 120 = .ok (.dup2, 1) := by decide +kernel
theorem dX11_cross_121 : decode cX11_cross 121 = .ok (.iaload, 1) := by decide +kernel
theorem dX11_cross_122 : decode cX11_cross 122 = .ok (.iconst 1, 1) := by decide +kernel
theorem dX11_cross_123 : decode cX11_cross 123 = .ok (.iadd, 1) := by decide +kernel
theorem dX11_cross_124 : decode cX11_cross 124 = .ok (.iastore, 1) := by decide +kernel
theorem dX11_cross_125 : decode cX11_cross 125 = .ok (.iload_n 3, 1) := by decide +kernel
theorem dX11_cross_126 : decode cX11_cross 126 = .ok (.ireturn, 1) := by decide +kernel
theorem dX11_buy_0 : decode cX11_buy 0 = .ok (.aload_n 0, 1) := by decide +kernel
theorem dX11_buy_1 : decode cX11_buy 1 = .ok (.invokevirtual 168, 3) := by decide +kernel
theorem dX11_buy_4 : decode cX11_buy 4 = .ok (.aload_n 0, 1) := by decide +kernel
theorem dX11_buy_5 : decode cX11_buy 5 = .ok (.iload_n 1, 1) := by decide +kernel
theorem dX11_buy_6 : decode cX11_buy 6 = .ok (.invokevirtual 297, 3) := by decide +kernel
theorem dX11_buy_9 : decode cX11_buy 9 = .ok (.ifCond .eq 11, 3) := by decide +kernel
theorem dX11_buy_12 : decode cX11_buy 12 = .ok (.aload_n 0, 1) := by decide +kernel
theorem dX11_buy_13 : decode cX11_buy 13 = .ok (.iload_n 2, 1) := by decide +kernel
theorem dX11_buy_14 : decode cX11_buy 14 = .ok (.invokevirtual 294, 3) := by decide +kernel
theorem dX11_buy_17 : decode cX11_buy 17 = .ok (.ifCond .ne 9, 3) := by decide +kernel
theorem dX11_buy_20 : decode cX11_buy 20 = .ok (.aload_n 0, 1) := by decide +kernel
theorem dX11_buy_21 : decode cX11_buy 21 = .ok (.iconst 1, 1) := by decide +kernel
theorem dX11_buy_22 : decode cX11_buy 22 = .ok (.invokevirtual 171, 3) := by decide +kernel
theorem dX11_buy_25 : decode cX11_buy 25 = .ok (.ireturn, 1) := by decide +kernel
theorem dX11_buy_26 : decode cX11_buy 26 = .ok (.aload_n 0, 1) := by decide +kernel
theorem dX11_buy_27 : decode cX11_buy 27 = .ok (.getfield 26, 3) := by decide +kernel
theorem dX11_buy_30 : decode cX11_buy 30 = .ok (.bipush 8, 2) := by decide +kernel
theorem dX11_buy_32 : decode cX11_buy 32 = .ok (.iload_n 1, 1) := by decide +kernel
theorem dX11_buy_33 : decode cX11_buy 33 = .ok (.iadd, 1) := by decide +kernel
theorem dX11_buy_34 : decode cX11_buy 34 = .ok (.iaload, 1) := by decide +kernel
theorem dX11_buy_35 : decode cX11_buy 35 = .ok (.iload_n 2, 1) := by decide +kernel
theorem dX11_buy_36 : decode cX11_buy 36 = .ok (.invokestatic 266, 3) := by decide +kernel
theorem dX11_buy_39 : decode cX11_buy 39 = .ok (.ifCond .eq 9, 3) := by decide +kernel
theorem dX11_buy_42 : decode cX11_buy 42 = .ok (.aload_n 0, 1) := by decide +kernel
theorem dX11_buy_43 : decode cX11_buy 43 = .ok (.iconst 5, 1) := by decide +kernel
theorem dX11_buy_44 : decode cX11_buy 44 = .ok (.invokevirtual 171, 3) := by decide +kernel
theorem dX11_buy_47 : decode cX11_buy 47 = .ok (.ireturn, 1) := by decide +kernel
theorem dX11_buy_48 : decode cX11_buy 48 = .ok (.aload_n 0, 1) := by decide +kernel
theorem dX11_buy_49 : decode cX11_buy 49 = .ok (.invokevirtual 428, 3) := by decide +kernel
theorem dX11_buy_52 : decode cX11_buy 52 = .ok (.aload_n 0, 1) := by decide +kernel
theorem dX11_buy_53 : decode cX11_buy 53 = .ok (.getfield 26, 3) := by decide +kernel
theorem dX11_buy_56 : decode cX11_buy 56 = .ok (.bipush 8, 2) := by decide +kernel
theorem dX11_buy_58 : decode cX11_buy 58 = .ok (.iload_n 1, 1) := by decide +kernel
theorem dX11_buy_59 : decode cX11_buy 59 = .ok (.iadd, 1) := by decide +kernel
theorem dX11_buy_60 : decode cX11_buy 60 = .ok (.dup2, 1) := by decide +kernel
theorem dX11_buy_61 : decode cX11_buy 61 = .ok (.iaload, 1) := by decide +kernel
theorem dX11_buy_62 : decode cX11_buy 62 = .ok (.iconst 1, 1) := by decide +kernel
theorem dX11_buy_63 : decode cX11_buy 63 = .ok (.iload_n 2, 1) := by decide +kernel
theorem dX11_buy_64 : decode cX11_buy 64 = .ok (.ishl, 1) := by decide +kernel
theorem dX11_buy_65 : decode cX11_buy 65 = .ok (.ior, 1) := by decide +kernel
theorem dX11_buy_66 : decode cX11_buy 66 = .ok (.iastore, 1) := by decide +kernel
theorem dX11_buy_67 : decode cX11_buy 67 = .ok (.aload_n 0, 1) := by decide +kernel
theorem dX11_buy_68 : decode cX11_buy 68 = .ok (.getfield 26, 3) := by decide +kernel
theorem dX11_buy_71 : decode cX11_buy 71 = .ok (.bipush 25, 2) := by decide +kernel
theorem dX11_buy_73 : decode cX11_buy 73 = .ok (.dup2, 1) := by decide +kernel
theorem dX11_buy_74 : decode cX11_buy 74 = .ok (.iaload, 1) := by decide +kernel
theorem dX11_buy_75 : decode cX11_buy 75 = .ok (.aload_n 0, 1) := by decide +kernel
theorem dX11_buy_76 : decode cX11_buy 76 = .ok (.iload_n 2, 1) := by decide +kernel
theorem dX11_buy_77 : decode cX11_buy 77 = .ok (.invokevirtual 329, 3) := by decide +kernel
theorem dX11_buy_80 : decode cX11_buy 80 = .ok (.iadd, 1) := by decide +kernel
theorem dX11_buy_81 : decode cX11_buy 81 = .ok (.iastore, 1) := by decide +kernel
theorem dX11_buy_82 : decode cX11_buy 82 = .ok (.aload_n 0, 1) := by decide +kernel
theorem dX11_buy_83 : decode cX11_buy 83 = .ok (.getfield 26, 3) := by decide +kernel
theorem dX11_buy_86 : decode cX11_buy 86 = .ok (.bipush 25, 2) := by decide +kernel
theorem dX11_buy_88 : decode cX11_buy 88 = .ok (.iaload, 1) := by decide +kernel
theorem dX11_buy_89 : decode cX11_buy 89 = .ok (.ireturn, 1) := by decide +kernel
theorem dX11_hours_0 : decode cX11_hours 0 = .ok (.aload_n 0, 1) := by decide +kernel
theorem dX11_hours_1 : decode cX11_hours 1 = .ok (.invokevirtual 168, 3) := by decide +kernel
theorem dX11_hours_4 : decode cX11_hours 4 = .ok (.aload_n 0, 1) := by decide +kernel
theorem dX11_hours_5 : decode cX11_hours 5 = .ok (.getfield 181, 3) := by decide +kernel
theorem dX11_hours_8 : decode cX11_hours 8 = .ok (.ifCond .ne 9, 3) := by decide +kernel
theorem dX11_hours_11 : decode cX11_hours 11 = .ok (.aload_n 0, 1) := by decide +kernel
theorem dX11_hours_12 : decode cX11_hours 12 = .ok (.iconst 1, 1) := by decide +kernel
theorem dX11_hours_13 : decode cX11_hours 13 = .ok (.invokevirtual 171, 3) := by decide +kernel
theorem dX11_hours_16 : decode cX11_hours 16 = .ok (.ireturn, 1) := by decide +kernel
theorem dX11_hours_17 : decode cX11_hours 17 = .ok (.iload_n 1, 1) := by decide +kernel
theorem dX11_hours_18 : decode cX11_hours 18 = .ok (.iconst 1, 1) := by decide +kernel
theorem dX11_hours_19 : decode cX11_hours 19 = .ok (.bipush 23, 2) := by decide +kernel
theorem dX11_hours_21 : decode cX11_hours 21 = .ok (.invokestatic 147, 3) := by decide +kernel
theorem dX11_hours_24 : decode cX11_hours 24 = .ok (.ifCond .ne 9, 3) := by decide +kernel
theorem dX11_hours_27 : decode cX11_hours 27 = .ok (.aload_n 0, 1) := by decide +kernel
theorem dX11_hours_28 : decode cX11_hours 28 = .ok (.iconst 2, 1) := by decide +kernel
theorem dX11_hours_29 : decode cX11_hours 29 = .ok (.invokevirtual 171, 3) := by decide +kernel
theorem dX11_hours_32 : decode cX11_hours 32 = .ok (.ireturn, 1) := by decide +kernel
theorem dX11_hours_33 : decode cX11_hours 33 = .ok (.aload_n 0, 1) := by decide +kernel
theorem dX11_hours_34 : decode cX11_hours 34 = .ok (.invokevirtual 428, 3) := by decide +kernel
theorem dX11_hours_37 : decode cX11_hours 37 = .ok (.aload_n 0, 1) := by decide +kernel
theorem dX11_hours_38 : decode cX11_hours 38 = .ok (.getfield 26, 3) := by decide +kernel
theorem dX11_hours_41 : decode cX11_hours 41 = .ok (.bipush 24, 2) := by decide +kernel
theorem dX11_hours_43 : decode cX11_hours 43 = .ok (.aload_n 0, 1) := by decide +kernel
theorem dX11_hours_44 : decode cX11_hours 44 = .ok (.getfield 26, 3) := by decide +kernel
theorem dX11_hours_47 : decode cX11_hours 47 = .ok (.bipush 24, 2) := by decide +kernel
theorem dX11_hours_49 : decode cX11_hours 49 = .ok (.iaload, 1) := by decide +kernel
theorem dX11_hours_50 : decode cX11_hours 50 = .ok (.iload_n 1, 1) := by decide +kernel
theorem dX11_hours_51 : decode cX11_hours 51 = .ok (.iadd, 1) := by decide +kernel
theorem dX11_hours_52 : decode cX11_hours 52 = .ok (.bipush 24, 2) := by decide +kernel
theorem dX11_hours_54 : decode cX11_hours 54 = .ok (.irem, 1) := by decide +kernel
theorem dX11_hours_55 : decode cX11_hours 55 = .ok (.iastore, 1) := by decide +kernel
theorem dX11_hours_56 : decode cX11_hours 56 = .ok (.aload_n 0, 1) := by decide +kernel
theorem dX11_hours_57 : decode cX11_hours 57 = .ok (.getfield 26, 3) := by decide +kernel
theorem dX11_hours_60 : decode cX11_hours 60 = .ok (.bipush 24, 2) := by decide +kernel
theorem dX11_hours_62 : decode cX11_hours 62 = .ok (.iaload, 1) := by decide +kernel
theorem dX11_hours_63 : decode cX11_hours 63 = .ok (.ireturn, 1) := by decide +kernel
theorem dX11_undo_0 : decode cX11_undo 0 = .ok (.aload_n 0, 1) := by decide +kernel
theorem dX11_undo_1 : decode cX11_undo 1 = .ok (.invokevirtual 168, 3) := by decide +kernel
theorem dX11_undo_4 : decode cX11_undo 4 = .ok (.aload_n 0, 1) := by decide +kernel
theorem dX11_undo_5 : decode cX11_undo 5 = .ok (.getfield 184, 3) := by decide +kernel
theorem dX11_undo_8 : decode cX11_undo 8 = .ok (.ifCond .ne 10, 3) := by decide +kernel
theorem dX11_undo_11 : decode cX11_undo 11 = .ok (.aload_n 0, 1) := by decide +kernel
theorem dX11_undo_12 : decode cX11_undo 12 = .ok (.bipush 6, 2) := by decide +kernel
theorem dX11_undo_14 : decode cX11_undo 14 = .ok (.invokevirtual 431, 3) := by decide +kernel
theorem dX11_undo_17 : decode cX11_undo 17 = .ok (.ireturn, 1) := by decide +kernel
theorem dX11_undo_18 : decode cX11_undo 18 = .ok (.aload_n 0, 1) := by decide +kernel
theorem dX11_undo_19 : decode cX11_undo 19 = .ok (.dup, 1) := by decide +kernel
theorem dX11_undo_20 : decode cX11_undo 20 = .ok (.getfield 184, 3) := by decide +kernel
theorem dX11_undo_23 : decode cX11_undo 23 = .ok (.iconst 1, 1) := by decide +kernel
theorem dX11_undo_24 : decode cX11_undo 24 = .ok (.isub, 1) := by decide +kernel
theorem dX11_undo_25 : decode cX11_undo 25 = .ok (.putfield 184, 3) := by decide +kernel
theorem dX11_undo_28 : decode cX11_undo 28 = .ok (.aload_n 0, 1) := by decide +kernel
theorem dX11_undo_29 : decode cX11_undo 29 = .ok (.getfield 29, 3) := by decide +kernel
theorem dX11_undo_32 : decode cX11_undo 32 = .ok (.bipush 26, 2) := by decide +kernel
theorem dX11_undo_34 : decode cX11_undo 34 = .ok (.aload_n 0, 1) := by decide +kernel
theorem dX11_undo_35 : decode cX11_undo 35 = .ok (.getfield 184, 3) := by decide +kernel
theorem dX11_undo_38 : decode cX11_undo 38 = .ok (.imul, 1) := by decide +kernel
theorem dX11_undo_39 : decode cX11_undo 39 = .ok (.aload_n 0, 1) := by decide +kernel
theorem dX11_undo_40 : decode cX11_undo 40 = .ok (.getfield 26, 3) := by decide +kernel
theorem dX11_undo_43 : decode cX11_undo 43 = .ok (.iconst 0, 1) := by decide +kernel
theorem dX11_undo_44 : decode cX11_undo 44 = .ok (.bipush 26, 2) := by decide +kernel
theorem dX11_undo_46 : decode cX11_undo 46 = .ok (.invokestatic 177, 3) := by decide +kernel
theorem dX11_undo_49 : decode cX11_undo 49 = .ok (.iconst 1, 1) := by decide +kernel
theorem dX11_undo_50 : decode cX11_undo 50 = .ok (.ireturn, 1) := by decide +kernel
theorem dX11_image_0 : decode cX11_image 0 = .ok (.aload_n 0, 1) := by decide +kernel
theorem dX11_image_1 : decode cX11_image 1 = .ok (.invokevirtual 168, 3) := by decide +kernel
theorem dX11_image_4 : decode cX11_image 4 = .ok (.aload_n 0, 1) := by decide +kernel
theorem dX11_image_5 : decode cX11_image 5 = .ok (.getfield 181, 3) := by decide +kernel
theorem dX11_image_8 : decode cX11_image 8 = .ok (.ifCond .ne 9, 3) := by decide +kernel
theorem dX11_image_11 : decode cX11_image 11 = .ok (.aload_n 0, 1) := by decide +kernel
theorem dX11_image_12 : decode cX11_image 12 = .ok (.iconst 1, 1) := by decide +kernel
theorem dX11_image_13 : decode cX11_image 13 = .ok (.invokevirtual 171, 3) := by decide +kernel
theorem dX11_image_16 : decode cX11_image 16 = .ok (.ireturn, 1) := by decide +kernel
theorem dX11_image_17 : decode cX11_image 17 = .ok (.aload_n 0, 1) := by decide +kernel
theorem dX11_image_18 : decode cX11_image 18 = .ok (.getfield 187, 3) := by decide +kernel
theorem dX11_image_21 : decode cX11_image 21 = .ok (.iconst 3, 1) := by decide +kernel
theorem dX11_image_22 : decode cX11_image 22 = .ok (.if_icmp .ne 9, 3) := by decide +kernel
theorem dX11_image_25 : decode cX11_image 25 = .ok (.aload_n 0, 1) := by decide +kernel
theorem dX11_image_26 : decode cX11_image 26 = .ok (.iconst 3, 1) := by decide +kernel
theorem dX11_image_27 : decode cX11_image 27 = .ok (.invokevirtual 171, 3) := by decide +kernel
theorem dX11_image_30 : decode cX11_image 30 = .ok (.ireturn, 1) := by decide +kernel
theorem dX11_image_31 : decode cX11_image 31 = .ok (.aload_n 0, 1) := by decide +kernel
theorem dX11_image_32 : decode cX11_image 32 = .ok (.getfield 26, 3) := by decide +kernel
theorem dX11_image_35 : decode cX11_image 35 = .ok (.iconst 0, 1) := by decide +kernel
theorem dX11_image_36 : decode cX11_image 36 = .ok (.aload_n 0, 1) := by decide +kernel
theorem dX11_image_37 : decode cX11_image 37 = .ok (.getfield 32, 3) := by decide +kernel
theorem dX11_image_40 : decode cX11_image 40 = .ok (.bipush 26, 2) := by decide +kernel
theorem dX11_image_42 : decode cX11_image 42 = .ok (.aload_n 0, 1) := by decide +kernel
theorem dX11_image_43 : decode cX11_image 43 = .ok (.getfield 187, 3) := by decide +kernel
theorem dX11_image_46 : decode cX11_image 46 = .ok (.imul, 1) := by decide +kernel
theorem dX11_image_47 : decode cX11_image 47 = .ok (.bipush 26, 2) := by decide +kernel
theorem dX11_image_49 : decode cX11_image 49 = .ok (.invokestatic 177, 3) := by decide +kernel
theorem dX11_image_52 : decode cX11_image 52 = .ok (.aload_n 0, 1) := by decide +kernel
theorem dX11_image_53 : decode cX11_image 53 = .ok (.dup, 1) := by decide +kernel
theorem dX11_image_54 : decode cX11_image 54 = .ok (.getfield 187, 3) := by decide +kernel
theorem dX11_image_57 : decode cX11_image 57 = .ok (.iconst 1, 1) := by decide +kernel
theorem dX11_image_58 : decode cX11_image 58 = .ok (.iadd, 1) := by decide +kernel
theorem dX11_image_59 : decode cX11_image 59 = .ok (.putfield 187, 3) := by decide +kernel
theorem dX11_image_62 : decode cX11_image 62 = .ok (.aload_n 0, 1) := by decide +kernel
theorem dX11_image_63 : decode cX11_image 63 = .ok (.getfield 187, 3) := by decide +kernel
theorem dX11_image_66 : decode cX11_image 66 = .ok (.iconst 1, 1) := by decide +kernel
theorem dX11_image_67 : decode cX11_image 67 = .ok (.isub, 1) := by decide +kernel
theorem dX11_image_68 : decode cX11_image 68 = .ok (.ireturn, 1) := by decide +kernel
theorem dX11_back_0 : decode cX11_back 0 = .ok (.aload_n 0, 1) := by decide +kernel
theorem dX11_back_1 : decode cX11_back 1 = .ok (.invokevirtual 168, 3) := by decide +kernel
theorem dX11_back_4 : decode cX11_back 4 = .ok (.iload_n 1, 1) := by decide +kernel
theorem dX11_back_5 : decode cX11_back 5 = .ok (.iconst 0, 1) := by decide +kernel
theorem dX11_back_6 : decode cX11_back 6 = .ok (.aload_n 0, 1) := by decide +kernel
theorem dX11_back_7 : decode cX11_back 7 = .ok (.getfield 187, 3) := by decide +kernel
theorem dX11_back_10 : decode cX11_back 10 = .ok (.iconst 1, 1) := by decide +kernel
theorem dX11_back_11 : decode cX11_back 11 = .ok (.isub, 1) := by decide +kernel
theorem dX11_back_12 : decode cX11_back 12 = .ok (.invokestatic 147, 3) := by decide +kernel
theorem dX11_back_15 : decode cX11_back 15 = .ok (.ifCond .ne 9, 3) := by decide +kernel
theorem dX11_back_18 : decode cX11_back 18 = .ok (.aload_n 0, 1) := by decide +kernel
theorem dX11_back_19 : decode cX11_back 19 = .ok (.iconst 1, 1) := by decide +kernel
theorem dX11_back_20 : decode cX11_back 20 = .ok (.invokevirtual 431, 3) := by decide +kernel
theorem dX11_back_23 : decode cX11_back 23 = .ok (.ireturn, 1) := by decide +kernel
theorem dX11_back_24 : decode cX11_back 24 = .ok (.aload_n 0, 1) := by decide +kernel
theorem dX11_back_25 : decode cX11_back 25 = .ok (.getfield 32, 3) := by decide +kernel
theorem dX11_back_28 : decode cX11_back 28 = .ok (.bipush 26, 2) := by decide +kernel
theorem dX11_back_30 : decode cX11_back 30 = .ok (.iload_n 1, 1) := by decide +kernel
theorem dX11_back_31 : decode cX11_back 31 = .ok (.imul, 1) := by decide +kernel
theorem dX11_back_32 : decode cX11_back 32 = .ok (.aload_n 0, 1) := by decide +kernel
theorem dX11_back_33 : decode cX11_back 33 = .ok (.getfield 26, 3) := by decide +kernel
theorem dX11_back_36 : decode cX11_back 36 = .ok (.iconst 0, 1) := by decide +kernel
theorem dX11_back_37 : decode cX11_back 37 = .ok (.bipush 26, 2) := by decide +kernel
theorem dX11_back_39 : decode cX11_back 39 = .ok (.invokestatic 177, 3) := by decide +kernel
theorem dX11_back_42 : decode cX11_back 42 = .ok (.aload_n 0, 1) := by decide +kernel
theorem dX11_back_43 : decode cX11_back 43 = .ok (.iconst 0, 1) := by decide +kernel
theorem dX11_back_44 : decode cX11_back 44 = .ok (.putfield 184, 3) := by decide +kernel
theorem dX11_back_47 : decode cX11_back 47 = .ok (.iconst 1, 1) := by decide +kernel
theorem dX11_back_48 : decode cX11_back 48 = .ok (.ireturn, 1) := by decide +kernel
theorem dX11_led_0 : decode cX11_led 0 = .ok (.iconst 0, 1) := by decide +kernel
theorem dX11_led_1 : decode cX11_led 1 = .ok (.istore_n 2, 1) := by decide +kernel
theorem dX11_led_2 : decode cX11_led 2 = .ok (.iconst 0, 1) := by decide +kernel
theorem dX11_led_3 : decode cX11_led 3 = .ok (.istore_n 3, 1) := by decide +kernel
theorem dX11_led_4 : decode cX11_led 4 = .ok (.aload_n 0, 1) := by decide +kernel
theorem dX11_led_5 : decode cX11_led 5 = .ok (.getfield 181, 3) := by decide +kernel
theorem dX11_led_8 : decode cX11_led 8 = .ok (.ifCond .eq 49, 3) := by decide +kernel
theorem dX11_led_11 : decode cX11_led 11 = .ok (.iload_n 3, 1) := by decide +kernel
theorem dX11_led_12 : decode cX11_led 12 = .ok (.aload_n 0, 1) := by decide +kernel
theorem dX11_led_13 : decode cX11_led 13 = .ok (.getfield 20, 3) := by decide +kernel
theorem dX11_led_16 : decode cX11_led 16 = .ok (.iconst 3, 1) := by decide +kernel
theorem dX11_led_17 : decode cX11_led 17 = .ok (.iaload, 1) := by decide +kernel
theorem dX11_led_18 : decode cX11_led 18 = .ok (.if_icmp .ge 39, 3) := by decide +kernel
theorem dX11_led_21 : decode cX11_led 21 = .ok (.aload_n 0, 1) := by decide +kernel
theorem dX11_led_22 : decode cX11_led 22 = .ok (.getfield 26, 3) := by decide +kernel
theorem dX11_led_25 : decode cX11_led 25 = .ok (.bipush 16, 2) := by decide +kernel
theorem dX11_led_27 : decode cX11_led 27 = .ok (.iload_n 3, 1) := by decide +kernel
theorem dX11_led_28 : decode cX11_led 28 = .ok (.iadd, 1) := by decide +kernel
theorem dX11_led_29 : decode cX11_led 29 = .ok (.iaload, 1) := by decide +kernel
theorem dX11_led_30 : decode cX11_led 30 = .ok (.ifCond .ne 6, 3) := by decide +kernel
theorem dX11_led_33 : decode cX11_led 33 = .ok (.goto 18, 3) := by decide +kernel
theorem dX11_led_36 : decode cX11_led 36 = .ok (.iload_n 2, 1) := by decide +kernel
theorem dX11_led_37 : decode cX11_led 37 = .ok (.iload_n 1, 1) := by decide +kernel
theorem dX11_led_38 : decode cX11_led 38 = .ok (.if_icmp .ne 10, 3) := by decide +kernel
theorem dX11_led_41 : decode cX11_led 41 = .ok (.aload_n 0, 1) := by decide +kernel
theorem dX11_led_42 : decode cX11_led 42 = .ok (.iconst 0, 1) := by decide +kernel
theorem dX11_led_43 : decode cX11_led 43 = .ok (.putfield 56, 3) := by decide +kernel
theorem dX11_led_46 : decode cX11_led 46 = .ok (.iload_n 3, 1) := by decide +kernel
theorem dX11_led_47 : decode cX11_led 47 = .ok (.ireturn, 1) := by decide +kernel
theorem dX11_led_48 : decode cX11_led 48 = .ok (.iinc 2 1, 3) := by decide +kernel
theorem dX11_led_51 : decode cX11_led 51 = .ok (.iinc 3 1, 3) := by decide +kernel
theorem dX11_led_54 : decode cX11_led 54 = .ok (.goto (-50), 3) := by decide +kernel
theorem dX11_led_57 : decode cX11_led 57 = .ok (.aload_n 0, 1) := by decide +kernel
theorem dX11_led_58 : decode cX11_led 58 = .ok (.iconst 1, 1) := by decide +kernel
theorem dX11_led_59 : decode cX11_led 59 = .ok (.putfield 56, 3) := by decide +kernel
theorem dX11_led_62 : decode cX11_led 62 = .ok (.iconst 0, 1) := by decide +kernel
theorem dX11_led_63 : decode cX11_led 63 = .ok (.ireturn, 1) := by decide +kernel
theorem dX11_size_0 : decode cX11_size 0 = .ok (.aload_n 0, 1) := by decide +kernel
theorem dX11_size_1 : decode cX11_size 1 = .ok (.iconst 0, 1) := by decide +kernel
theorem dX11_size_2 : decode cX11_size 2 = .ok (.putfield 56, 3) := by decide +kernel
theorem dX11_size_5 : decode cX11_size 5 = .ok (.iload_n 1, 1) := by decide +kernel
theorem dX11_size_6 : decode cX11_size 6 = .ok (.bipush 12, 2) := by decide +kernel
theorem dX11_size_8 : decode cX11_size 8 = .ok (.if_icmp .ne 8, 3) := by decide +kernel
theorem dX11_size_11 : decode cX11_size 11 = .ok (.aload_n 0, 1) := by decide +kernel
theorem dX11_size_12 : decode cX11_size 12 = .ok (.getfield 62, 3) := by decide +kernel
theorem dX11_size_15 : decode cX11_size 15 = .ok (.ireturn, 1) := by decide +kernel
theorem dX11_size_16 : decode cX11_size 16 = .ok (.aload_n 0, 1) := by decide +kernel
theorem dX11_size_17 : decode cX11_size 17 = .ok (.getfield 181, 3) := by decide +kernel
theorem dX11_size_20 : decode cX11_size 20 = .ok (.ifCond .ne 19, 3) := by decide +kernel
theorem dX11_size_23 : decode cX11_size 23 = .ok (.iload_n 1, 1) := by decide +kernel
theorem dX11_size_24 : decode cX11_size 24 = .ok (.iconst 0, 1) := by decide +kernel
theorem dX11_size_25 : decode cX11_size 25 = .ok (.bipush 11, 2) := by decide +kernel
theorem dX11_size_27 : decode cX11_size 27 = .ok (.invokestatic 147, 3) := by decide +kernel
theorem dX11_size_30 : decode cX11_size 30 = .ok (.ifCond .eq 7, 3) := by decide +kernel
theorem dX11_size_33 : decode cX11_size 33 = .ok (.iconst 0, 1) := by decide +kernel
theorem dX11_size_34 : decode cX11_size 34 = .ok (.goto 4, 3) := by decide +kernel
theorem dX11_size_37 : decode cX11_size 37 = .ok (.iconst (-1), 1) := by decide +kernel
theorem dX11_size_38 : decode cX11_size 38 = .ok (.ireturn, 1) := by decide +kernel
theorem dX11_size_39 : decode cX11_size 39 = .ok (.iload_n 1, 1) := by decide +kernel
theorem dX11_size_40 : decode cX11_size 40 = .ok (.iconst 0, 1) := by decide +kernel
theorem dX11_size_41 : decode cX11_size 41 = .ok (.bipush 7, 2) := by decide +kernel
theorem dX11_size_43 : decode cX11_size 43 = .ok (.invokestatic 147, 3) := by decide +kernel
theorem dX11_size_46 : decode cX11_size 46 = .ok (.ifCond .eq 10, 3) := by decide +kernel
theorem dX11_size_49 : decode cX11_size 49 = .ok (.aload_n 0, 1) := by decide +kernel
theorem dX11_size_50 : decode cX11_size 50 = .ok (.getfield 20, 3) := by decide +kernel
theorem dX11_size_53 : decode cX11_size 53 = .ok (.iload_n 1, 1) := by decide +kernel
theorem dX11_size_54 : decode cX11_size 54 = .ok (.iaload, 1) := by decide +kernel
theorem dX11_size_55 : decode cX11_size 55 = .ok (.ireturn, 1) := by decide +kernel
theorem dX11_size_56 : decode cX11_size 56 = .ok (.iload_n 1, 1) := by decide +kernel
theorem dX11_size_57 : decode cX11_size 57 = .ok (.bipush 8, 2) := by decide +kernel
theorem dX11_size_59 : decode cX11_size 59 = .ok (.if_icmp .ne 13, 3) := by decide +kernel
theorem dX11_size_62 : decode cX11_size 62 = .ok (.aload_n 0, 1) := by decide +kernel
theorem dX11_size_63 : decode cX11_size 63 = .ok (.getfield 26, 3) := by decide +kernel
theorem dX11_size_66 : decode cX11_size 66 = .ok (.bipush 24, 2) := by decide +kernel
theorem dX11_size_68 : decode cX11_size 68 = .ok (.iaload, 1) := by decide +kernel
theorem dX11_size_69 : decode cX11_size 69 = .ok (.goto 46, 3) := by decide +kernel
theorem dX11_size_72 : decode cX11_size 72 = .ok (.iload_n 1, 1) := by decide +kernel
theorem dX11_size_73 : decode cX11_size 73 = .ok (.bipush 9, 2) := by decide +kernel
theorem dX11_size_75 : decode cX11_size 75 = .ok (.if_icmp .ne 13, 3) := by decide +kernel
theorem dX11_size_78 : decode cX11_size 78 = .ok (.aload_n 0, 1) := by decide +kernel
theorem dX11_size_79 : decode cX11_size 79 = .ok (.getfield 26, 3) := by decide +kernel
theorem dX11_size_82 : decode cX11_size 82 = .ok (.bipush 25, 2) := by decide +kernel
theorem dX11_size_84 : decode cX11_size 84 = .ok (.iaload, 1) := by decide +kernel
theorem dX11_size_85 : decode cX11_size 85 = .ok (.goto 30, 3) := by decide +kernel
theorem dX11_size_88 : decode cX11_size 88 = .ok (.iload_n 1, 1) := by decide +kernel
theorem dX11_size_89 : decode cX11_size 89 = .ok (.bipush 10, 2) := by decide +kernel
theorem dX11_size_91 : decode cX11_size 91 = .ok (.if_icmp .ne 10, 3) := by decide +kernel
theorem dX11_size_94 : decode cX11_size 94 = .ok (.aload_n 0, 1) := by decide +kernel
theorem dX11_size_95 : decode cX11_size 95 = .ok (.getfield 184, 3) := by decide +kernel
theorem dX11_size_98 : decode cX11_size 98 = .ok (.goto 17, 3) := by decide +kernel
theorem dX11_size_101 : decode cX11_size 101 = .ok (.iload_n 1, 1) := by decide +kernel
theorem dX11_size_102 : decode cX11_size 102 = .ok (.bipush 11, 2) := by decide +kernel
theorem dX11_size_104 : decode cX11_size 104 = .ok (.if_icmp .ne 10, 3) := by decide +kernel
theorem dX11_size_107 : decode cX11_size 107 = .ok (.aload_n 0, 1) := by decide +kernel
theorem dX11_size_108 : decode cX11_size 108 = .ok (.getfield 187, 3) := by decide +kernel
theorem dX11_size_111 : decode cX11_size 111 = .ok (.goto 4, 3) := by decide +kernel
theorem dX11_size_114 : decode cX11_size 114 = .ok (.iconst (-1), 1) := by decide +kernel
theorem dX11_size_115 : decode cX11_size 115 = .ok (.ireturn, 1) := by decide +kernel
theorem dX11_trouble_0 : decode cX11_trouble 0 = .ok (.aload_n 0, 1) := by decide +kernel
theorem dX11_trouble_1 : decode cX11_trouble 1 = .ok (.iconst 0, 1) := by decide +kernel
theorem dX11_trouble_2 : decode cX11_trouble 2 = .ok (.putfield 56, 3) := by decide +kernel
theorem dX11_trouble_5 : decode cX11_trouble 5 = .ok (.aload_n 0, 1) := by decide +kernel
theorem dX11_trouble_6 : decode cX11_trouble 6 = .ok (.getfield 59, 3) := by decide +kernel
theorem dX11_trouble_9 : decode cX11_trouble 9 = .ok (.ireturn, 1) := by decide +kernel
theorem dJ6_bitCount_0f7a4_0 : decode cJ6_bitCount_0f7a4 0 = .ok (.iload_n 0, 1) := by decide +kernel
theorem dJ6_bitCount_0f7a4_1 : decode cJ6_bitCount_0f7a4 1 = .ok (.iload_n 0, 1) := by decide +kernel
theorem dJ6_bitCount_0f7a4_2 : decode cJ6_bitCount_0f7a4 2 = .ok (.iconst 1, 1) := by decide +kernel
theorem dJ6_bitCount_0f7a4_3 : decode cJ6_bitCount_0f7a4 3 = .ok (.iushr, 1) := by decide +kernel
theorem dJ6_bitCount_0f7a4_4 : decode cJ6_bitCount_0f7a4 4 = .ok (.ldc_w 265, 3) := by decide +kernel
theorem dJ6_bitCount_0f7a4_7 : decode cJ6_bitCount_0f7a4 7 = .ok (.iand, 1) := by decide +kernel
theorem dJ6_bitCount_0f7a4_8 : decode cJ6_bitCount_0f7a4 8 = .ok (.isub, 1) := by decide +kernel
theorem dJ6_bitCount_0f7a4_9 : decode cJ6_bitCount_0f7a4 9 = .ok (.istore_n 0, 1) := by decide +kernel
theorem dJ6_bitCount_0f7a4_10 : decode cJ6_bitCount_0f7a4 10 = .ok (.iload_n 0, 1) := by decide +kernel
theorem dJ6_bitCount_0f7a4_11 : decode cJ6_bitCount_0f7a4 11 = .ok (.ldc_w 266, 3) := by decide +kernel
theorem dJ6_bitCount_0f7a4_14 : decode cJ6_bitCount_0f7a4 14 = .ok (.iand, 1) := by decide +kernel
theorem dJ6_bitCount_0f7a4_15 : decode cJ6_bitCount_0f7a4 15 = .ok (.iload_n 0, 1) := by decide +kernel
theorem dJ6_bitCount_0f7a4_16 : decode cJ6_bitCount_0f7a4 16 = .ok (.iconst 2, 1) := by decide +kernel
theorem dJ6_bitCount_0f7a4_17 : decode cJ6_bitCount_0f7a4 17 = .ok (.iushr, 1) := by decide +kernel
theorem dJ6_bitCount_0f7a4_18 : decode cJ6_bitCount_0f7a4 18 = .ok (.ldc_w 266, 3) := by decide +kernel
theorem dJ6_bitCount_0f7a4_21 : decode cJ6_bitCount_0f7a4 21 = .ok (.iand, 1) := by decide +kernel
theorem dJ6_bitCount_0f7a4_22 : decode cJ6_bitCount_0f7a4 22 = .ok (.iadd, 1) := by decide +kernel
theorem dJ6_bitCount_0f7a4_23 : decode cJ6_bitCount_0f7a4 23 = .ok (.istore_n 0, 1) := by decide +kernel
theorem dJ6_bitCount_0f7a4_24 : decode cJ6_bitCount_0f7a4 24 = .ok (.iload_n 0, 1) := by decide +kernel
theorem dJ6_bitCount_0f7a4_25 : decode cJ6_bitCount_0f7a4 25 = .ok (.iload_n 0, 1) := by decide +kernel
theorem dJ6_bitCount_0f7a4_26 : decode cJ6_bitCount_0f7a4 26 = .ok (.iconst 4, 1) := by decide +kernel
theorem dJ6_bitCount_0f7a4_27 : decode cJ6_bitCount_0f7a4 27 = .ok (.iushr, 1) := by decide +kernel
theorem dJ6_bitCount_0f7a4_28 : decode cJ6_bitCount_0f7a4 28 = .ok (.iadd, 1) := by decide +kernel
theorem dJ6_bitCount_0f7a4_29 : decode cJ6_bitCount_0f7a4 29 = .ok (.ldc_w 267, 3) := by decide +kernel
theorem dJ6_bitCount_0f7a4_32 : decode cJ6_bitCount_0f7a4 32 = .ok (.iand, 1) := by decide +kernel
theorem dJ6_bitCount_0f7a4_33 : decode cJ6_bitCount_0f7a4 33 = .ok (.istore_n 0, 1) := by decide +kernel
theorem dJ6_bitCount_0f7a4_34 : decode cJ6_bitCount_0f7a4 34 = .ok (.iload_n 0, 1) := by decide +kernel
theorem dJ6_bitCount_0f7a4_35 : decode cJ6_bitCount_0f7a4 35 = .ok (.iload_n 0, 1) := by decide +kernel
theorem dJ6_bitCount_0f7a4_36 : decode cJ6_bitCount_0f7a4 36 = .ok (.bipush 8, 2) := by decide +kernel
theorem dJ6_bitCount_0f7a4_38 : decode cJ6_bitCount_0f7a4 38 = .ok (.iushr, 1) := by decide +kernel
theorem dJ6_bitCount_0f7a4_39 : decode cJ6_bitCount_0f7a4 39 = .ok (.iadd, 1) := by decide +kernel
theorem dJ6_bitCount_0f7a4_40 : decode cJ6_bitCount_0f7a4 40 = .ok (.istore_n 0, 1) := by decide +kernel
theorem dJ6_bitCount_0f7a4_41 : decode cJ6_bitCount_0f7a4 41 = .ok (.iload_n 0, 1) := by decide +kernel
theorem dJ6_bitCount_0f7a4_42 : decode cJ6_bitCount_0f7a4 42 = .ok (.iload_n 0, 1) := by decide +kernel
theorem dJ6_bitCount_0f7a4_43 : decode cJ6_bitCount_0f7a4 43 = .ok (.bipush 16, 2) := by decide +kernel
theorem dJ6_bitCount_0f7a4_45 : decode cJ6_bitCount_0f7a4 45 = .ok (.iushr, 1) := by decide +kernel
theorem dJ6_bitCount_0f7a4_46 : decode cJ6_bitCount_0f7a4 46 = .ok (.iadd, 1) := by decide +kernel
theorem dJ6_bitCount_0f7a4_47 : decode cJ6_bitCount_0f7a4 47 = .ok (.istore_n 0, 1) := by decide +kernel
theorem dJ6_bitCount_0f7a4_48 : decode cJ6_bitCount_0f7a4 48 = .ok (.iload_n 0, 1) := by decide +kernel
theorem dJ6_bitCount_0f7a4_49 : decode cJ6_bitCount_0f7a4 49 = .ok (.bipush 63, 2) := by decide +kernel
theorem dJ6_bitCount_0f7a4_51 : decode cJ6_bitCount_0f7a4 51 = .ok (.iand, 1) := by decide +kernel
theorem dJ6_bitCount_0f7a4_52 : decode cJ6_bitCount_0f7a4 52 = .ok (.ireturn, 1) := by decide +kernel
theorem dJ9_max_7cf53_0 : decode cJ9_max_7cf53 0 = .ok (.iload_n 0, 1) := by decide +kernel
theorem dJ9_max_7cf53_1 : decode cJ9_max_7cf53 1 = .ok (.iload_n 1, 1) := by decide +kernel
theorem dJ9_max_7cf53_2 : decode cJ9_max_7cf53 2 = .ok (.if_icmp .lt 7, 3) := by decide +kernel
theorem dJ9_max_7cf53_5 : decode cJ9_max_7cf53 5 = .ok (.iload_n 0, 1) := by decide +kernel
theorem dJ9_max_7cf53_6 : decode cJ9_max_7cf53 6 = .ok (.goto 4, 3) := by decide +kernel
theorem dJ9_max_7cf53_9 : decode cJ9_max_7cf53 9 = .ok (.iload_n 1, 1) := by decide +kernel
theorem dJ9_max_7cf53_10 : decode cJ9_max_7cf53 10 = .ok (.ireturn, 1) := by decide +kernel
theorem dJ9_min_7cf53_0 : decode cJ9_min_7cf53 0 = .ok (.iload_n 0, 1) := by decide +kernel
theorem dJ9_min_7cf53_1 : decode cJ9_min_7cf53 1 = .ok (.iload_n 1, 1) := by decide +kernel
theorem dJ9_min_7cf53_2 : decode cJ9_min_7cf53 2 = .ok (.if_icmp .gt 7, 3) := by decide +kernel
theorem dJ9_min_7cf53_5 : decode cJ9_min_7cf53 5 = .ok (.iload_n 0, 1) := by decide +kernel
theorem dJ9_min_7cf53_6 : decode cJ9_min_7cf53 6 = .ok (.goto 4, 3) := by decide +kernel
theorem dJ9_min_7cf53_9 : decode cJ9_min_7cf53 9 = .ok (.iload_n 1, 1) := by decide +kernel
theorem dJ9_min_7cf53_10 : decode cJ9_min_7cf53 10 = .ok (.ireturn, 1) := by decide +kernel
theorem dJ0_length_8abf5_0 : decode cJ0_length_8abf5 0 = .ok (.aload_n 0, 1) := by decide +kernel
theorem dJ0_length_8abf5_1 : decode cJ0_length_8abf5 1 = .ok (.getfield 9, 3) := by decide +kernel
theorem dJ0_length_8abf5_4 : decode cJ0_length_8abf5 4 = .ok (.arraylength, 1) := by decide +kernel
theorem dJ0_length_8abf5_5 : decode cJ0_length_8abf5 5 = .ok (.aload_n 0, 1) := by decide +kernel
theorem dJ0_length_8abf5_6 : decode cJ0_length_8abf5 6 = .ok (.invokevirtual 335, 3) := by decide +kernel
theorem dJ0_length_8abf5_9 : decode cJ0_length_8abf5 9 = .ok (.ishr, 1) := by decide +kernel
theorem dJ0_length_8abf5_10 : decode cJ0_length_8abf5 10 = .ok (.ireturn, 1) := by decide +kernel
theorem dJ0_charAt_5068e_0 : decode cJ0_charAt_5068e 0 = .ok (.aload_n 0, 1) := by decide +kernel
theorem dJ0_charAt_5068e_1 : decode cJ0_charAt_5068e 1 = .ok (.invokevirtual 492, 3) := by decide +kernel
theorem dJ0_charAt_5068e_4 : decode cJ0_charAt_5068e 4 = .ok (.ifCond .eq 12, 3) := by decide +kernel
theorem dJ0_charAt_5068e_7 : decode cJ0_charAt_5068e 7 = .ok (.aload_n 0, 1) := by decide +kernel
theorem dJ0_charAt_5068e_8 : decode cJ0_charAt_5068e 8 = .ok (.getfield 9, 3) := by decide +kernel
theorem dJ0_charAt_5068e_11 : decode cJ0_charAt_5068e 11 = .ok (.iload_n 1, 1) := by decide +kernel
theorem dJ0_charAt_5068e_12 : decode cJ0_charAt_5068e 12 = .ok (.invokestatic 495, 3) := by decide +kernel
theorem dJ0_charAt_5068e_15 : decode cJ0_charAt_5068e 15 = .ok (.ireturn, 1) := by decide +kernel
theorem dJ0_charAt_5068e_16 : decode cJ0_charAt_5068e 16 = .ok (.aload_n 0, 1) := by decide +kernel
theorem dJ0_charAt_5068e_17 : decode cJ0_charAt_5068e 17 = .ok (.getfield 9, 3) := by decide +kernel
theorem dJ0_charAt_5068e_20 : decode cJ0_charAt_5068e 20 = .ok (.iload_n 1, 1) := by decide +kernel
theorem dJ0_charAt_5068e_21 : decode cJ0_charAt_5068e 21 = .ok (.invokestatic 498, 3) := by decide +kernel
theorem dJ0_charAt_5068e_24 : decode cJ0_charAt_5068e 24 = .ok (.ireturn, 1) := by decide +kernel
theorem dJ0_coder_7d493_0 : decode cJ0_coder_7d493 0 = .ok (.getstatic 38, 3) := by decide +kernel
theorem dJ0_coder_7d493_3 : decode cJ0_coder_7d493 3 = .ok (.ifCond .eq 10, 3) := by decide +kernel
theorem dJ0_coder_7d493_6 : decode cJ0_coder_7d493 6 = .ok (.aload_n 0, 1) := by decide +kernel
theorem dJ0_coder_7d493_7 : decode cJ0_coder_7d493 7 = .ok (.getfield 15, 3) := by decide +kernel
theorem dJ0_coder_7d493_10 : decode cJ0_coder_7d493 10 = .ok (.goto 4, 3) := by decide +kernel
theorem dJ0_coder_7d493_13 : decode cJ0_coder_7d493 13 = .ok (.iconst 1, 1) := by decide +kernel
theorem dJ0_coder_7d493_14 : decode cJ0_coder_7d493 14 = .ok (.ireturn, 1) := by decide +kernel
theorem dJ0_isLatin1_aae02_0 : decode cJ0_isLatin1_aae02 0 = .ok (.getstatic 38, 3) := by decide +kernel
theorem dJ0_isLatin1_aae02_3 : decode cJ0_isLatin1_aae02 3 = .ok (.ifCond .eq 14, 3) := by decide +kernel
theorem dJ0_isLatin1_aae02_6 : decode cJ0_isLatin1_aae02 6 = .ok (.aload_n 0, 1) := by decide +kernel
theorem dJ0_isLatin1_aae02_7 : decode cJ0_isLatin1_aae02 7 = .ok (.getfield 15, 3) := by decide +kernel
theorem dJ0_isLatin1_aae02_10 : decode cJ0_isLatin1_aae02 10 = .ok (.ifCond .ne 7, 3) := by decide +kernel
theorem dJ0_isLatin1_aae02_13 : decode cJ0_isLatin1_aae02 13 = .ok (.iconst 1, 1) := by decide +kernel
theorem dJ0_isLatin1_aae02_14 : decode cJ0_isLatin1_aae02 14 = .ok (.goto 4, 3) := by decide +kernel
theorem dJ0_isLatin1_aae02_17 : decode cJ0_isLatin1_aae02 17 = .ok (.iconst 0, 1) := by decide +kernel
theorem dJ0_isLatin1_aae02_18 : decode cJ0_isLatin1_aae02 18 = .ok (.ireturn, 1) := by decide +kernel
theorem dJ0_checkIndex_df160_0 : decode cJ0_checkIndex_df160 0 = .ok (.iload_n 0, 1) := by decide +kernel
theorem dJ0_checkIndex_df160_1 : decode cJ0_checkIndex_df160 1 = .ok (.iload_n 1, 1) := by decide +kernel
theorem dJ0_checkIndex_df160_2 : decode cJ0_checkIndex_df160 2 = .ok (.getstatic 1053, 3) := by decide +kernel
theorem dJ0_checkIndex_df160_5 : decode cJ0_checkIndex_df160 5 = .ok (.invokestatic 1059, 3) := by decide +kernel
theorem dJ0_checkIndex_df160_8 : decode cJ0_checkIndex_df160 8 = .ok (.pop, 1) := by decide +kernel
theorem dJ0_checkIndex_df160_9 : decode cJ0_checkIndex_df160 9 = .ok (.return_, 1) := by decide +kernel
theorem dJ1_charAt_3b067_0 : decode cJ1_charAt_3b067 0 = .ok (.iload_n 1, 1) := by decide +kernel
theorem dJ1_charAt_3b067_1 : decode cJ1_charAt_3b067 1 = .ok (.aload_n 0, 1) := by decide +kernel
theorem dJ1_charAt_3b067_2 : decode cJ1_charAt_3b067 2 = .ok (.arraylength, 1) := by decide +kernel
theorem dJ1_charAt_3b067_3 : decode cJ1_charAt_3b067 3 = .ok (.invokestatic 9, 3) := by decide +kernel
theorem dJ1_charAt_3b067_6 : decode cJ1_charAt_3b067 6 = .ok (.aload_n 0, 1) := by decide +kernel
theorem dJ1_charAt_3b067_7 : decode cJ1_charAt_3b067 7 = .ok (.iload_n 1, 1) := by decide +kernel
theorem dJ1_charAt_3b067_8 : decode cJ1_charAt_3b067 8 = .ok (.baload, 1) := by decide +kernel
theorem dJ1_charAt_3b067_9 : decode cJ1_charAt_3b067 9 = .ok (.sipush 255, 3) := by decide +kernel
theorem dJ1_charAt_3b067_12 : decode cJ1_charAt_3b067 12 = .ok (.iand, 1) := by decide +kernel
theorem dJ1_charAt_3b067_13 : decode cJ1_charAt_3b067 13 = .ok (.i2c, 1) := by decide +kernel
theorem dJ1_charAt_3b067_14 : decode cJ1_charAt_3b067 14 = .ok (.ireturn, 1) := by decide +kernel
theorem dJ2_getChar_3b067_0 : decode cJ2_getChar_3b067 0 = .ok (.getstatic 44, 3) := by decide +kernel
theorem dJ2_getChar_3b067_3 : decode cJ2_getChar_3b067 3 = .ok (.ifCond .ne 25, 3) := by decide +kernel
theorem dJ2_getChar_3b067_6 : decode cJ2_getChar_3b067 6 = .ok (.iload_n 1, 1) := by decide +kernel
theorem dJ2_getChar_3b067_7 : decode cJ2_getChar_3b067 7 = .ok (.ifCond .lt 11, 3) := by decide +kernel
theorem dJ2_getChar_3b067_10 : decode cJ2_getChar_3b067 10 = .ok (.iload_n 1, 1) := by decide +kernel
theorem dJ2_getChar_3b067_11 : decode cJ2_getChar_3b067 11 = .ok (.aload_n 0, 1) := by decide +kernel
theorem dJ2_getChar_3b067_12 : decode cJ2_getChar_3b067 12 = .ok (.invokestatic 48, 3) := by decide +kernel
theorem dJ2_getChar_3b067_15 : decode cJ2_getChar_3b067 15 = .ok (.if_icmp .lt 13, 3) := by decide +kernel
theorem dJ2_getChar_3b067_18 : decode cJ2_getChar_3b067 18 = .ok (.new 52, 3) := by decide +kernel
theorem dJ2_getChar_3b067_21 : decode cJ2_getChar_3b067 21 = .ok (.dup, 1) := by decide +kernel
theorem dJ2_getChar_3b067_22 : decode cJ2_getChar_3b067 22 = .ok (.ldc 54, 2) := by decide +kernel
theorem dJ2_getChar_3b067_24 : decode cJ2_getChar_3b067 24 = .ok (.invokespecial 56, 3) := by decide +kernel
theorem dJ2_getChar_3b067_27 : decode cJ2_getChar_3b067 27 = .ok (.athrow, 1) := by decide +kernel
theorem dJ2_getChar_3b067_28 : decode cJ2_getChar_3b067 28 = .ok (.iload_n 1, 1) := by decide +kernel
theorem dJ2_getChar_3b067_29 : decode cJ2_getChar_3b067 29 = .ok (.iconst 1, 1) := by decide +kernel
theorem dJ2_getChar_3b067_30 : decode cJ2_getChar_3b067 30 = .ok (.ishl, 1) := by decide +kernel
theorem dJ2_getChar_3b067_31 : decode cJ2_getChar_3b067 31 = .ok (.istore_n 1, 1) := by decide +kernel
theorem dJ2_getChar_3b067_32 : decode cJ2_getChar_3b067 32 = .ok (.aload_n 0, 1) := by decide +kernel
theorem dJ2_getChar_3b067_33 : decode cJ2_getChar_3b067 33 = .ok (.iload_n 1, 1) := by decide +kernel
theorem dJ2_getChar_3b067_34 : decode cJ2_getChar_3b067 34 = .ok (.iinc 1 1, 3) := by decide +kernel
theorem dJ2_getChar_3b067_37 : decode cJ2_getChar_3b067 37 = .ok (.baload, 1) := by decide +kernel
theorem dJ2_getChar_3b067_38 : decode cJ2_getChar_3b067 38 = .ok (.sipush 255, 3) := by decide +kernel
theorem dJ2_getChar_3b067_41 : decode cJ2_getChar_3b067 41 = .ok (.iand, 1) := by decide +kernel
theorem dJ2_getChar_3b067_42 : decode cJ2_getChar_3b067 42 = .ok (.getstatic 59, 3) := by decide +kernel
theorem dJ2_getChar_3b067_45 : decode cJ2_getChar_3b067 45 = .ok (.ishl, 1) := by decide +kernel
theorem dJ2_getChar_3b067_46 : decode cJ2_getChar_3b067 46 = .ok (.aload_n 0, 1) := by decide +kernel
theorem dJ2_getChar_3b067_47 : decode cJ2_getChar_3b067 47 = .ok (.iload_n 1, 1) := by decide +kernel
theorem dJ2_getChar_3b067_48 : decode cJ2_getChar_3b067 48 = .ok (.baload, 1) := by decide +kernel
theorem dJ2_getChar_3b067_49 : decode cJ2_getChar_3b067 49 = .ok (.sipush 255, 3) := by decide +kernel
theorem dJ2_getChar_3b067_52 : decode cJ2_getChar_3b067 52 = .ok (.iand, 1) := by decide +kernel
theorem dJ2_getChar_3b067_53 : decode cJ2_getChar_3b067 53 = .ok (.getstatic 63, 3) := by decide +kernel
theorem dJ2_getChar_3b067_56 : decode cJ2_getChar_3b067 56 = .ok (.ishl, 1) := by decide +kernel
theorem dJ2_getChar_3b067_57 : decode cJ2_getChar_3b067 57 = .ok (.ior, 1) := by decide +kernel
theorem dJ2_getChar_3b067_58 : decode cJ2_getChar_3b067 58 = .ok (.i2c, 1) := by decide +kernel
theorem dJ2_getChar_3b067_59 : decode cJ2_getChar_3b067 59 = .ok (.ireturn, 1) := by decide +kernel
theorem dJ2_length_9d52b_0 : decode cJ2_length_9d52b 0 = .ok (.aload_n 0, 1) := by decide +kernel
theorem dJ2_length_9d52b_1 : decode cJ2_length_9d52b 1 = .ok (.arraylength, 1) := by decide +kernel
theorem dJ2_length_9d52b_2 : decode cJ2_length_9d52b 2 = .ok (.iconst 1, 1) := by decide +kernel
theorem dJ2_length_9d52b_3 : decode cJ2_length_9d52b 3 = .ok (.ishr, 1) := by decide +kernel
theorem dJ2_length_9d52b_4 : decode cJ2_length_9d52b 4 = .ok (.ireturn, 1) := by decide +kernel
theorem dJ2_charAt_3b067_0 : decode cJ2_charAt_3b067 0 = .ok (.iload_n 1, 1) := by decide +kernel
theorem dJ2_charAt_3b067_1 : decode cJ2_charAt_3b067 1 = .ok (.aload_n 0, 1) := by decide +kernel
theorem dJ2_charAt_3b067_2 : decode cJ2_charAt_3b067 2 = .ok (.invokestatic 67, 3) := by decide +kernel
theorem dJ2_charAt_3b067_5 : decode cJ2_charAt_3b067 5 = .ok (.aload_n 0, 1) := by decide +kernel
theorem dJ2_charAt_3b067_6 : decode cJ2_charAt_3b067 6 = .ok (.iload_n 1, 1) := by decide +kernel
theorem dJ2_charAt_3b067_7 : decode cJ2_charAt_3b067 7 = .ok (.invokestatic 71, 3) := by decide +kernel
theorem dJ2_charAt_3b067_10 : decode cJ2_charAt_3b067 10 = .ok (.ireturn, 1) := by decide +kernel
theorem dJ2_checkIndex_2214a_0 : decode cJ2_checkIndex_2214a 0 = .ok (.iload_n 0, 1) := by decide +kernel
theorem dJ2_checkIndex_2214a_1 : decode cJ2_checkIndex_2214a 1 = .ok (.aload_n 1, 1) := by decide +kernel
theorem dJ2_checkIndex_2214a_2 : decode cJ2_checkIndex_2214a 2 = .ok (.invokestatic 48, 3) := by decide +kernel
theorem dJ2_checkIndex_2214a_5 : decode cJ2_checkIndex_2214a 5 = .ok (.invokestatic 414, 3) := by decide +kernel
theorem dJ2_checkIndex_2214a_8 : decode cJ2_checkIndex_2214a 8 = .ok (.return_, 1) := by decide +kernel
theorem dJ7_fill_53178_0 : decode cJ7_fill_53178 0 = .ok (.iconst 0, 1) := by decide +kernel
theorem dJ7_fill_53178_1 : decode cJ7_fill_53178 1 = .ok (.istore_n 2, 1) := by decide +kernel
theorem dJ7_fill_53178_2 : decode cJ7_fill_53178 2 = .ok (.aload_n 0, 1) := by decide +kernel
theorem dJ7_fill_53178_3 : decode cJ7_fill_53178 3 = .ok (.arraylength, 1) := by decide +kernel
theorem dJ7_fill_53178_4 : decode cJ7_fill_53178 4 = .ok (.istore_n 3, 1) := by decide +kernel
theorem dJ7_fill_53178_5 : decode cJ7_fill_53178 5 = .ok (.iload_n 2, 1) := by decide +kernel
theorem dJ7_fill_53178_6 : decode cJ7_fill_53178 6 = .ok (.iload_n 3, 1) := by decide +kernel
theorem dJ7_fill_53178_7 : decode cJ7_fill_53178 7 = .ok (.if_icmp .ge 13, 3) := by decide +kernel
theorem dJ7_fill_53178_10 : decode cJ7_fill_53178 10 = .ok (.aload_n 0, 1) := by decide +kernel
theorem dJ7_fill_53178_11 : decode cJ7_fill_53178 11 = .ok (.iload_n 2, 1) := by decide +kernel
theorem dJ7_fill_53178_12 : decode cJ7_fill_53178 12 = .ok (.iload_n 1, 1) := by decide +kernel
theorem dJ7_fill_53178_13 : decode cJ7_fill_53178 13 = .ok (.iastore, 1) := by decide +kernel
theorem dJ7_fill_53178_14 : decode cJ7_fill_53178 14 = .ok (.iinc 2 1, 3) := by decide +kernel
theorem dJ7_fill_53178_17 : decode cJ7_fill_53178 17 = .ok (.goto (-12), 3) := by decide +kernel
theorem dJ7_fill_53178_20 : decode cJ7_fill_53178 20 = .ok (.return_, 1) := by decide +kernel
