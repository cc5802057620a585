theorem dX0_init_0 : decode cX0_init 0 = .ok (.aload_n 0, 1) := by decide +kernel
theorem dX0_init_1 : decode cX0_init 1 = .ok (.invokespecial 3, 3) := by decide +kernel
theorem dX0_init_4 : decode cX0_init 4 = .ok (.aload_n 0, 1) := by decide +kernel
theorem dX0_init_5 : decode cX0_init 5 = .ok (.bipush 8, 2) := by decide +kernel
theorem dX0_init_7 : decode cX0_init 7 = .ok (.newarray .int, 2) := by decide +kernel
theorem dX0_init_9 : decode cX0_init 9 = .ok (.putfield 9, 3) := by decide +kernel
theorem dX0_init_12 : decode cX0_init 12 = .ok (.aload_n 0, 1) := by decide +kernel
theorem dX0_init_13 : decode cX0_init 13 = .ok (.aload_n 1, 1) := by decide +kernel
theorem dX0_init_14 : decode cX0_init 14 = .ok (.putfield 15, 3) := by decide +kernel
theorem dX0_init_17 : decode cX0_init 17 = .ok (.aload_n 0, 1) := by decide +kernel
theorem dX0_init_18 : decode cX0_init 18 = .ok (.aload_n 2, 1) := by decide +kernel
theorem dX0_init_19 : decode cX0_init 19 = .ok (.putfield 19, 3) := by decide +kernel
theorem dX0_init_22 : decode cX0_init 22 = .ok (.return_, 1) := by decide +kernel
theorem dX0_pass_0 : decode cX0_pass 0 = .ok (.aload_n 0, 1) := by decide +kernel
theorem dX0_pass_1 : decode cX0_pass 1 = .ok (.getfield 9, 3) := by decide +kernel
theorem dX0_pass_4 : decode cX0_pass 4 = .ok (.bipush (-2), 2) := by decide +kernel
theorem dX0_pass_6 : decode cX0_pass 6 = .ok (.invokestatic 23, 3) := by decide +kernel
theorem dX0_pass_9 : decode cX0_pass 9 = .ok (.aload_n 0, 1) := by decide +kernel
theorem dX0_pass_10 : decode cX0_pass 10 = .ok (.getfield 15, 3) := by decide +kernel
theorem dX0_pass_13 : decode cX0_pass 13 = .ok (.getfield 29, 3) := by decide +kernel
theorem dX0_pass_16 : decode cX0_pass 16 = .ok (.iconst 0, 1) := by decide +kernel
theorem dX0_pass_17 : decode cX0_pass 17 = .ok (.invokevirtual 35, 3) := by decide +kernel
theorem dX0_pass_20 : decode cX0_pass 20 = .ok (.istore_n 3, 1) := by decide +kernel
theorem dX0_pass_21 : decode cX0_pass 21 = .ok (.iload_n 3, 1) := by decide +kernel
theorem dX0_pass_22 : decode cX0_pass 22 = .ok (.istore 4, 2) := by decide +kernel
theorem dX0_pass_24 : decode cX0_pass 24 = .ok (.iload_n 1, 1) := by decide +kernel
theorem dX0_pass_25 : decode cX0_pass 25 = .ok (.istore 5, 2) := by decide +kernel
theorem dX0_pass_27 : decode cX0_pass 27 = .ok (.iconst 0, 1) := by decide +kernel
theorem dX0_pass_28 : decode cX0_pass 28 = .ok (.istore 6, 2) := by decide +kernel
theorem dX0_pass_30 : decode cX0_pass 30 = .ok (.iload 6, 2) := by decide +kernel
theorem dX0_pass_32 : decode cX0_pass 32 = .ok (.iload_n 2, 1) := by decide +kernel
theorem dX0_pass_33 : decode cX0_pass 33 = .ok (.if_icmp .ge 110, 3) := by decide +kernel
theorem dX0_pass_36 : decode cX0_pass 36 = .ok (.iload 4, 2) := by decide +kernel
theorem dX0_pass_38 : decode cX0_pass 38 = .ok (.invokestatic 41, 3) := by decide +kernel
theorem dX0_pass_41 : decode cX0_pass 41 = .ok (.iconst 1, 1) := by decide +kernel
theorem dX0_pass_42 : decode cX0_pass 42 = .ok (.if_icmp .le 101, 3) := by decide +kernel
theorem dX0_pass_45 : decode cX0_pass 45 = .ok (.bipush 75, 2) := by decide +kernel
theorem dX0_pass_47 : decode cX0_pass 47 = .ok (.iload 5, 2) := by decide +kernel
theorem dX0_pass_49 : decode cX0_pass 49 = .ok (.imul, 1) := by decide +kernel
theorem dX0_pass_50 : decode cX0_pass 50 = .ok (.bipush 74, 2) := by decide +kernel
theorem dX0_pass_52 : decode cX0_pass 52 = .ok (.iadd, 1) := by decide +kernel
theorem dX0_pass_53 : decode cX0_pass 53 = .ok (.ldc 46, 2) := by decide +kernel
theorem dX0_pass_55 : decode cX0_pass 55 = .ok (.irem, 1) := by decide +kernel
theorem dX0_pass_56 : decode cX0_pass 56 = .ok (.istore 5, 2) := by decide +kernel
theorem dX0_pass_58 : decode cX0_pass 58 = .ok (.aload_n 0, 1) := by decide +kernel
theorem dX0_pass_59 : decode cX0_pass 59 = .ok (.getfield 15, 3) := by decide +kernel
theorem dX0_pass_62 : decode cX0_pass 62 = .ok (.getfield 47, 3) := by decide +kernel
theorem dX0_pass_65 : decode cX0_pass 65 = .ok (.aload_n 0, 1) := by decide +kernel
theorem dX0_pass_66 : decode cX0_pass 66 = .ok (.getfield 15, 3) := by decide +kernel
theorem dX0_pass_69 : decode cX0_pass 69 = .ok (.getfield 29, 3) := by decide +kernel
theorem dX0_pass_72 : decode cX0_pass 72 = .ok (.getfield 51, 3) := by decide +kernel
theorem dX0_pass_75 : decode cX0_pass 75 = .ok (.iload 6, 2) := by decide +kernel
theorem dX0_pass_77 : decode cX0_pass 77 = .ok (.iadd, 1) := by decide +kernel
theorem dX0_pass_78 : decode cX0_pass 78 = .ok (.bipush 24, 2) := by decide +kernel
theorem dX0_pass_80 : decode cX0_pass 80 = .ok (.irem, 1) := by decide +kernel
theorem dX0_pass_81 : decode cX0_pass 81 = .ok (.invokevirtual 55, 3) := by decide +kernel
theorem dX0_pass_84 : decode cX0_pass 84 = .ok (.istore 7, 2) := by decide +kernel
theorem dX0_pass_86 : decode cX0_pass 86 = .ok (.aload_n 0, 1) := by decide +kernel
theorem dX0_pass_87 : decode cX0_pass 87 = .ok (.getfield 15, 3) := by decide +kernel
theorem dX0_pass_90 : decode cX0_pass 90 = .ok (.iconst 1, 1) := by decide +kernel
theorem dX0_pass_91 : decode cX0_pass 91 = .ok (.iload 7, 2) := by decide +kernel
theorem dX0_pass_93 : decode cX0_pass 93 = .ok (.iload 5, 2) := by decide +kernel
theorem dX0_pass_95 : decode cX0_pass 95 = .ok (.iconst 3, 1) := by decide +kernel
theorem dX0_pass_96 : decode cX0_pass 96 = .ok (.irem, 1) := by decide +kernel
theorem dX0_pass_97 : decode cX0_pass 97 = .ok (.iadd, 1) := by decide +kernel
theorem dX0_pass_98 : decode cX0_pass 98 = .ok (.iconst 1, 1) := by decide +kernel
theorem dX0_pass_99 : decode cX0_pass 99 = .ok (.isub, 1) := by decide +kernel
theorem dX0_pass_100 : decode cX0_pass 100 = .ok (.invokestatic 60, 3) := by decide +kernel
theorem dX0_pass_103 : decode cX0_pass 103 = .ok (.invokevirtual 66, 3) := by decide +kernel
theorem dX0_pass_106 : decode cX0_pass 106 = .ok (.aload_n 0, 1) := by decide +kernel
theorem dX0_pass_107 : decode cX0_pass 107 = .ok (.getfield 19, 3) := by decide +kernel
theorem dX0_pass_110 : decode cX0_pass 110 = .ok (.aload_n 0, 1) := by decide +kernel
theorem dX0_pass_111 : decode cX0_pass 111 = .ok (.getfield 15, 3) := by decide +kernel
theorem dX0_pass_114 : decode cX0_pass 114 = .ok (.getfield 70, 3) := by decide +kernel
theorem dX0_pass_117 : decode cX0_pass 117 = .ok (.iload 4, 2) := by decide +kernel
theorem dX0_pass_119 : decode cX0_pass 119 = .ok (.invokevirtual 73, 3) := by decide +kernel
theorem dX0_pass_122 : decode cX0_pass 122 = .ok (.iload 4, 2) := by decide +kernel
theorem dX0_pass_124 : decode cX0_pass 124 = .ok (.aload_n 0, 1) := by decide +kernel
theorem dX0_pass_125 : decode cX0_pass 125 = .ok (.iload 6, 2) := by decide +kernel
theorem dX0_pass_127 : decode cX0_pass 127 = .ok (.iconst 1, 1) := by decide +kernel
theorem dX0_pass_128 : decode cX0_pass 128 = .ok (.iadd, 1) := by decide +kernel
theorem dX0_pass_129 : decode cX0_pass 129 = .ok (.invokevirtual 78, 3) := by decide +kernel
theorem dX0_pass_132 : decode cX0_pass 132 = .ok (.iconst (-1), 1) := by decide +kernel
theorem dX0_pass_133 : decode cX0_pass 133 = .ok (.ixor, 1) := by decide +kernel
theorem dX0_pass_134 : decode cX0_pass 134 = .ok (.iand, 1) := by decide +kernel
theorem dX0_pass_135 : decode cX0_pass 135 = .ok (.istore 4, 2) := by decide +kernel
theorem dX0_pass_137 : decode cX0_pass 137 = .ok (.iinc 6 1, 3) := by decide +kernel
theorem dX0_pass_140 : decode cX0_pass 140 = .ok (.goto (-110), 3) := by decide +kernel
theorem dX0_pass_143 : decode cX0_pass 143 = .ok (.iload_n 3, 1) := by decide +kernel
theorem dX0_pass_144 : decode cX0_pass 144 = .ok (.iload 4, 2) := by decide +kernel
theorem dX0_pass_146 : decode cX0_pass 146 = .ok (.iconst (-1), 1) := by decide +kernel
theorem dX0_pass_147 : decode cX0_pass 147 = .ok (.ixor, 1) := by decide +kernel
theorem dX0_pass_148 : decode cX0_pass 148 = .ok (.iand, 1) := by decide +kernel
theorem dX0_pass_149 : decode cX0_pass 149 = .ok (.invokestatic 41, 3) := by decide +kernel
theorem dX0_pass_152 : decode cX0_pass 152 = .ok (.ireturn, 1) := by decide +kernel
theorem dX0_crossersAt_0 : decode cX0_crossersAt 0 = .ok (.iconst 0, 1) := by decide +kernel
theorem dX0_crossersAt_1 : decode cX0_crossersAt 1 = .ok (.istore_n 2, 1) := by decide +kernel
theorem dX0_crossersAt_2 : decode cX0_crossersAt 2 = .ok (.iconst 0, 1) := by decide +kernel
theorem dX0_crossersAt_3 : decode cX0_crossersAt 3 = .ok (.istore_n 3, 1) := by decide +kernel
theorem dX0_crossersAt_4 : decode cX0_crossersAt 4 = .ok (.iconst 0, 1) := by decide +kernel
theorem dX0_crossersAt_5 : decode cX0_crossersAt 5 = .ok (.istore 4, 2) := by decide +kernel
theorem dX0_crossersAt_7 : decode cX0_crossersAt 7 = .ok (.iload 4, 2) := by decide +kernel
theorem dX0_crossersAt_9 : decode cX0_crossersAt 9 = .ok (.bipush 8, 2) := by decide +kernel
theorem dX0_crossersAt_11 : decode cX0_crossersAt 11 = .ok (.if_icmp .ge 73, 3) := by decide +kernel
theorem dX0_crossersAt_14 : decode cX0_crossersAt 14 = .ok (.iload_n 3, 1) := by decide +kernel
theorem dX0_crossersAt_15 : decode cX0_crossersAt 15 = .ok (.aload_n 0, 1) := by decide +kernel
theorem dX0_crossersAt_16 : decode cX0_crossersAt 16 = .ok (.getfield 15, 3) := by decide +kernel
theorem dX0_crossersAt_19 : decode cX0_crossersAt 19 = .ok (.getfield 47, 3) := by decide +kernel
theorem dX0_crossersAt_22 : decode cX0_crossersAt 22 = .ok (.getfield 81, 3) := by decide +kernel
theorem dX0_crossersAt_25 : decode cX0_crossersAt 25 = .ok (.if_icmp .ge 59, 3) := by decide +kernel
theorem dX0_crossersAt_28 : decode cX0_crossersAt 28 = .ok (.aload_n 0, 1) := by decide +kernel
theorem dX0_crossersAt_29 : decode cX0_crossersAt 29 = .ok (.getfield 19, 3) := by decide +kernel
theorem dX0_crossersAt_32 : decode cX0_crossersAt 32 = .ok (.getfield 84, 3) := by decide +kernel
theorem dX0_crossersAt_35 : decode cX0_crossersAt 35 = .ok (.iload 4, 2) := by decide +kernel
theorem dX0_crossersAt_37 : decode cX0_crossersAt 37 = .ok (.iaload, 1) := by decide +kernel
theorem dX0_crossersAt_38 : decode cX0_crossersAt 38 = .ok (.istore 5, 2) := by decide +kernel
theorem dX0_crossersAt_40 : decode cX0_crossersAt 40 = .ok (.iload 5, 2) := by decide +kernel
theorem dX0_crossersAt_42 : decode cX0_crossersAt 42 = .ok (.iload 4, 2) := by decide +kernel
theorem dX0_crossersAt_44 : decode cX0_crossersAt 44 = .ok (.if_icmp .le 34, 3) := by decide +kernel
theorem dX0_crossersAt_47 : decode cX0_crossersAt 47 = .ok (.iload_n 2, 1) := by decide +kernel
theorem dX0_crossersAt_48 : decode cX0_crossersAt 48 = .ok (.iconst 1, 1) := by decide +kernel
theorem dX0_crossersAt_49 : decode cX0_crossersAt 49 = .ok (.iload 4, 2) := by decide +kernel
theorem dX0_crossersAt_51 : decode cX0_crossersAt 51 = .ok (.ishl, 1) := by decide +kernel
theorem dX0_crossersAt_52 : decode cX0_crossersAt 52 = .ok (.iconst 1, 1) := by decide +kernel
theorem dX0_crossersAt_53 : decode cX0_crossersAt 53 = .ok (.iload 5, 2) := by decide +kernel
theorem dX0_crossersAt_55 : decode cX0_crossersAt 55 = .ok (.ishl, 1) := by decide +kernel
theorem dX0_crossersAt_56 : decode cX0_crossersAt 56 = .ok (.ior, 1) := by decide +kernel
theorem dX0_crossersAt_57 : decode cX0_crossersAt 57 = .ok (.ior, 1) := by decide +kernel
theorem dX0_crossersAt_58 : decode cX0_crossersAt 58 = .ok (.istore_n 2, 1) := by decide +kernel
theorem dX0_crossersAt_59 : decode cX0_crossersAt 59 = .ok (.aload_n 0, 1) := by decide +kernel
theorem dX0_crossersAt_60 : decode cX0_crossersAt 60 = .ok (.getfield 9, 3) := by decide +kernel
theorem dX0_crossersAt_63 : decode cX0_crossersAt 63 = .ok (.iload 4, 2) := by decide +kernel
theorem dX0_crossersAt_65 : decode cX0_crossersAt 65 = .ok (.iload_n 1, 1) := by decide +kernel
theorem dX0_crossersAt_66 : decode cX0_crossersAt 66 = .ok (.iastore, 1) := by decide +kernel
theorem dX0_crossersAt_67 : decode cX0_crossersAt 67 = .ok (.aload_n 0, 1) := by decide +kernel
theorem dX0_crossersAt_68 : decode cX0_crossersAt 68 = .ok (.getfield 9, 3) := by decide +kernel
theorem dX0_crossersAt_71 : decode cX0_crossersAt 71 = .ok (.iload 5, 2) := by decide +kernel
theorem dX0_crossersAt_73 : decode cX0_crossersAt 73 = .ok (.iload_n 1, 1) := by decide +kernel
theorem dX0_crossersAt_74 : decode cX0_crossersAt 74 = .ok (.iastore, 1) := by decide +kernel
theorem dX0_crossersAt_75 : decode cX0_crossersAt 75 = .ok (.iinc 3 1, 3) := by decide +kernel
theorem dX0_crossersAt_78 : decode cX0_crossersAt 78 = .ok (.iinc 4 1, 3) := by decide +kernel
theorem dX0_crossersAt_81 : decode cX0_crossersAt 81 = .ok (.goto (-74), 3) := by decide +kernel
theorem dX0_crossersAt_84 : decode cX0_crossersAt 84 = .ok (.iload_n 2, 1) := by decide +kernel
theorem dX0_crossersAt_85 : decode cX0_crossersAt 85 = .ok (.ireturn, 1) := by decide +kernel
theorem dX1_init_0 : decode cX1_init 0 = .ok (.aload_n 0, 1) := by decide +kernel
theorem dX1_init_1 : decode cX1_init 1 = .ok (.invokespecial 3, 3) := by decide +kernel
theorem dX1_init_4 : decode cX1_init 4 = .ok (.aload_n 0, 1) := by decide +kernel
theorem dX1_init_5 : decode cX1_init 5 = .ok (.iconst 3, 1) := by decide +kernel
theorem dX1_init_6 : decode cX1_init 6 = .ok (.newarray .int, 2) := by decide +kernel
theorem dX1_init_8 : decode cX1_init 8 = .ok (.putfield 9, 3) := by decide +kernel
theorem dX1_init_11 : decode cX1_init 11 = .ok (.aload_n 0, 1) := by decide +kernel
theorem dX1_init_12 : decode cX1_init 12 = .ok (.bipush (-2), 2) := by decide +kernel
theorem dX1_init_14 : decode cX1_init 14 = .ok (.putfield 15, 3) := by decide +kernel
theorem dX1_init_17 : decode cX1_init 17 = .ok (.aload_n 0, 1) := by decide +kernel
theorem dX1_init_18 : decode cX1_init 18 = .ok (.bipush (-2), 2) := by decide +kernel
theorem dX1_init_20 : decode cX1_init 20 = .ok (.putfield 19, 3) := by decide +kernel
theorem dX1_init_23 : decode cX1_init 23 = .ok (.aload_n 0, 1) := by decide +kernel
theorem dX1_init_24 : decode cX1_init 24 = .ok (.aload_n 1, 1) := by decide +kernel
theorem dX1_init_25 : decode cX1_init 25 = .ok (.putfield 22, 3) := by decide +kernel
theorem dX1_init_28 : decode cX1_init 28 = .ok (.return_, 1) := by decide +kernel
theorem dX1_firstUntrue_0 : decode cX1_firstUntrue 0 = .ok (.aload_n 0, 1) := by decide +kernel
theorem dX1_firstUntrue_1 : decode cX1_firstUntrue 1 = .ok (.getfield 22, 3) := by decide +kernel
theorem dX1_firstUntrue_4 : decode cX1_firstUntrue 4 = .ok (.getfield 26, 3) := by decide +kernel
theorem dX1_firstUntrue_7 : decode cX1_firstUntrue 7 = .ok (.astore_n 2, 1) := by decide +kernel
theorem dX1_firstUntrue_8 : decode cX1_firstUntrue 8 = .ok (.iconst 0, 1) := by decide +kernel
theorem dX1_firstUntrue_9 : decode cX1_firstUntrue 9 = .ok (.istore_n 3, 1) := by decide +kernel
theorem dX1_firstUntrue_10 : decode cX1_firstUntrue 10 = .ok (.iload_n 3, 1) := by decide +kernel
theorem dX1_firstUntrue_11 : decode cX1_firstUntrue 11 = .ok (.aload_n 2, 1) := by decide +kernel
theorem dX1_firstUntrue_12 : decode cX1_firstUntrue 12 = .ok (.getfield 32, 3) := by decide +kernel
theorem dX1_firstUntrue_15 : decode cX1_firstUntrue 15 = .ok (.if_icmp .ge 40, 3) := by decide +kernel
theorem dX1_firstUntrue_18 : decode cX1_firstUntrue 18 = .ok (.aload_n 0, 1) := by decide +kernel
theorem dX1_firstUntrue_19 : decode cX1_firstUntrue 19 = .ok (.getfield 22, 3) := by decide +kernel
theorem dX1_firstUntrue_22 : decode cX1_firstUntrue 22 = .ok (.aload_n 2, 1) := by decide +kernel
theorem dX1_firstUntrue_23 : decode cX1_firstUntrue 23 = .ok (.getfield 37, 3) := by decide +kernel
theorem dX1_firstUntrue_26 : decode cX1_firstUntrue 26 = .ok (.iload_n 3, 1) := by decide +kernel
theorem dX1_firstUntrue_27 : decode cX1_firstUntrue 27 = .ok (.iaload, 1) := by decide +kernel
theorem dX1_firstUntrue_28 : decode cX1_firstUntrue 28 = .ok (.aload_n 2, 1) := by decide +kernel
theorem dX1_firstUntrue_29 : decode cX1_firstUntrue 29 = .ok (.getfield 40, 3) := by decide +kernel
theorem dX1_firstUntrue_32 : decode cX1_firstUntrue 32 = .ok (.iload_n 3, 1) := by decide +kernel
theorem dX1_firstUntrue_33 : decode cX1_firstUntrue 33 = .ok (.iaload, 1) := by decide +kernel
theorem dX1_firstUntrue_34 : decode cX1_firstUntrue 34 = .ok (.iload_n 1, 1) := by decide +kernel
theorem dX1_firstUntrue_35 : decode cX1_firstUntrue 35 = .ok (.invokevirtual 43, 3) := by decide +kernel
theorem dX1_firstUntrue_38 : decode cX1_firstUntrue 38 = .ok (.aload_n 2, 1) := by decide +kernel
theorem dX1_firstUntrue_39 : decode cX1_firstUntrue 39 = .ok (.getfield 47, 3) := by decide +kernel
theorem dX1_firstUntrue_42 : decode cX1_firstUntrue 42 = .ok (.iload_n 3, 1) := by decide +kernel
theorem dX1_firstUntrue_43 : decode cX1_firstUntrue 43 = .ok (.iaload, 1) := by decide +kernel
theorem dX1_firstUntrue_44 : decode cX1_firstUntrue 44 = .ok (.if_icmp .eq 5, 3) := by decide +kernel
theorem dX1_firstUntrue_47 : decode cX1_firstUntrue 47 = .ok (.iload_n 3, 1) := by decide +kernel
theorem dX1_firstUntrue_48 : decode cX1_firstUntrue 48 = .ok (.ireturn, 1) := by decide +kernel
theorem dX1_firstUntrue_49 : decode cX1_firstUntrue 49 = .ok (.iinc 3 1, 3) := by decide +kernel
theorem dX1_firstUntrue_52 : decode cX1_firstUntrue 52 = .ok (.goto (-42), 3) := by decide +kernel
theorem dX1_firstUntrue_55 : decode cX1_firstUntrue 55 = .ok (.bipush (-2), 2) := by decide +kernel
theorem dX1_firstUntrue_57 : decode cX1_firstUntrue 57 = .ok (.ireturn, 1) := by decide +kernel
theorem dX1_ears_0 : decode cX1_ears 0 = .ok (.iconst 0, 1) := by decide +kernel
theorem dX1_ears_1 : decode cX1_ears 1 = .ok (.istore_n 1, 1) := by decide +kernel
theorem dX1_ears_2 : decode cX1_ears 2 = .ok (.iconst 1, 1) := by decide +kernel
theorem dX1_ears_3 : decode cX1_ears 3 = .ok (.istore_n 2, 1) := by decide +kernel
theorem dX1_ears_4 : decode cX1_ears 4 = .ok (.iload_n 2, 1) := by decide +kernel
theorem dX1_ears_5 : decode cX1_ears 5 = .ok (.bipush 6, 2) := by decide +kernel
theorem dX1_ears_7 : decode cX1_ears 7 = .ok (.if_icmp .gt 29, 3) := by decide +kernel
theorem dX1_ears_10 : decode cX1_ears 10 = .ok (.iload_n 1, 1) := by decide +kernel
theorem dX1_ears_11 : decode cX1_ears 11 = .ok (.aload_n 0, 1) := by decide +kernel
theorem dX1_ears_12 : decode cX1_ears 12 = .ok (.iload_n 2, 1) := by decide +kernel
theorem dX1_ears_13 : decode cX1_ears 13 = .ok (.invokevirtual 50, 3) := by decide +kernel
theorem dX1_ears_16 : decode cX1_ears 16 = .ok (.bipush (-2), 2) := by decide +kernel
theorem dX1_ears_18 : decode cX1_ears 18 = .ok (.if_icmp .ne 9, 3) := by decide +kernel
theorem dX1_ears_21 : decode cX1_ears 21 = .ok (.iconst 1, 1) := by decide +kernel
theorem dX1_ears_22 : decode cX1_ears 22 = .ok (.iload_n 2, 1) := by decide +kernel
theorem dX1_ears_23 : decode cX1_ears 23 = .ok (.ishl, 1) := by decide +kernel
theorem dX1_ears_24 : decode cX1_ears 24 = .ok (.goto 4, 3) := by decide +kernel
theorem dX1_ears_27 : decode cX1_ears 27 = .ok (.iconst 0, 1) := by decide +kernel
theorem dX1_ears_28 : decode cX1_ears 28 = .ok (.ior, 1) := by decide +kernel
theorem dX1_ears_29 : decode cX1_ears 29 = .ok (.istore_n 1, 1) := by decide +kernel
theorem dX1_ears_30 : decode cX1_ears 30 = .ok (.iinc 2 1, 3) := by decide +kernel
theorem dX1_ears_33 : decode cX1_ears 33 = .ok (.goto (-29), 3) := by decide +kernel
theorem dX1_ears_36 : decode cX1_ears 36 = .ok (.iload_n 1, 1) := by decide +kernel
theorem dX1_ears_37 : decode cX1_ears 37 = .ok (.ireturn, 1) := by decide +kernel
theorem dX1_endOf_0 : decode cX1_endOf 0 = .ok (.bipush (-2), 2) := by decide +kernel
theorem dX1_endOf_2 : decode cX1_endOf 2 = .ok (.istore_n 3, 1) := by decide +kernel
theorem dX1_endOf_3 : decode cX1_endOf 3 = .ok (.iconst 1, 1) := by decide +kernel
theorem dX1_endOf_4 : decode cX1_endOf 4 = .ok (.istore 4, 2) := by decide +kernel
theorem dX1_endOf_6 : decode cX1_endOf 6 = .ok (.iload 4, 2) := by decide +kernel
theorem dX1_endOf_8 : decode cX1_endOf 8 = .ok (.bipush 6, 2) := by decide +kernel
theorem dX1_endOf_10 : decode cX1_endOf 10 = .ok (.if_icmp .gt 31, 3) := by decide +kernel
theorem dX1_endOf_13 : decode cX1_endOf 13 = .ok (.iload_n 1, 1) := by decide +kernel
theorem dX1_endOf_14 : decode cX1_endOf 14 = .ok (.iload 4, 2) := by decide +kernel
theorem dX1_endOf_16 : decode cX1_endOf 16 = .ok (.invokestatic 54, 3) := by decide +kernel
theorem dX1_endOf_19 : decode cX1_endOf 19 = .ok (.ifCond .eq 16, 3) := by decide +kernel
theorem dX1_endOf_22 : decode cX1_endOf 22 = .ok (.iload_n 2, 1) := by decide +kernel
theorem dX1_endOf_23 : decode cX1_endOf 23 = .ok (.ifCond .ne 9, 3) := by decide +kernel
theorem dX1_endOf_26 : decode cX1_endOf 26 = .ok (.iload_n 3, 1) := by decide +kernel
theorem dX1_endOf_27 : decode cX1_endOf 27 = .ok (.bipush (-2), 2) := by decide +kernel
theorem dX1_endOf_29 : decode cX1_endOf 29 = .ok (.if_icmp .ne 6, 3) := by decide +kernel
theorem dX1_endOf_32 : decode cX1_endOf 32 = .ok (.iload 4, 2) := by decide +kernel
theorem dX1_endOf_34 : decode cX1_endOf 34 = .ok (.istore_n 3, 1) := by decide +kernel
theorem dX1_endOf_35 : decode cX1_endOf 35 = .ok (.iinc 4 1, 3) := by decide +kernel
theorem dX1_endOf_38 : decode cX1_endOf 38 = .ok (.goto (-32), 3) := by decide +kernel
theorem dX1_endOf_41 : decode cX1_endOf 41 = .ok (.iload_n 3, 1) := by decide +kernel
theorem dX1_endOf_42 : decode cX1_endOf 42 = .ok (.ireturn, 1) := by decide +kernel
theorem dX1_seekQuestion_0 : decode cX1_seekQuestion 0 = .ok (.aload_n 0, 1) := by decide +kernel
theorem dX1_seekQuestion_1 : decode cX1_seekQuestion 1 = .ok (.bipush (-2), 2) := by decide +kernel
theorem dX1_seekQuestion_3 : decode cX1_seekQuestion 3 = .ok (.putfield 15, 3) := by decide +kernel
theorem dX1_seekQuestion_6 : decode cX1_seekQuestion 6 = .ok (.aload_n 0, 1) := by decide +kernel
theorem dX1_seekQuestion_7 : decode cX1_seekQuestion 7 = .ok (.bipush (-2), 2) := by decide +kernel
theorem dX1_seekQuestion_9 : decode cX1_seekQuestion 9 = .ok (.putfield 19, 3) := by decide +kernel
theorem dX1_seekQuestion_12 : decode cX1_seekQuestion 12 = .ok (.iload_n 1, 1) := by decide +kernel
theorem dX1_seekQuestion_13 : decode cX1_seekQuestion 13 = .ok (.ifCond .ne 7, 3) := by decide +kernel
theorem dX1_seekQuestion_16 : decode cX1_seekQuestion 16 = .ok (.iconst 0, 1) := by decide +kernel
theorem dX1_seekQuestion_17 : decode cX1_seekQuestion 17 = .ok (.goto 13, 3) := by decide +kernel
theorem dX1_seekQuestion_20 : decode cX1_seekQuestion 20 = .ok (.aload_n 0, 1) := by decide +kernel
theorem dX1_seekQuestion_21 : decode cX1_seekQuestion 21 = .ok (.getfield 22, 3) := by decide +kernel
theorem dX1_seekQuestion_24 : decode cX1_seekQuestion 24 = .ok (.getfield 26, 3) := by decide +kernel
theorem dX1_seekQuestion_27 : decode cX1_seekQuestion 27 = .ok (.getfield 58, 3) := by decide +kernel
theorem dX1_seekQuestion_30 : decode cX1_seekQuestion 30 = .ok (.istore_n 2, 1) := by decide +kernel
theorem dX1_seekQuestion_31 : decode cX1_seekQuestion 31 = .ok (.iconst 0, 1) := by decide +kernel
theorem dX1_seekQuestion_32 : decode cX1_seekQuestion 32 = .ok (.istore_n 3, 1) := by decide +kernel
theorem dX1_seekQuestion_33 : decode cX1_seekQuestion 33 = .ok (.iload_n 3, 1) := by decide +kernel
theorem dX1_seekQuestion_34 : decode cX1_seekQuestion 34 = .ok (.iload_n 2, 1) := by decide +kernel
theorem dX1_seekQuestion_35 : decode cX1_seekQuestion 35 = .ok (.if_icmp .ge 71, 3) := by decide +kernel
theorem dX1_seekQuestion_38 : decode cX1_seekQuestion 38 = .ok (.iload_n 3, 1) := by decide +kernel
theorem dX1_seekQuestion_39 : decode cX1_seekQuestion 39 = .ok (.iconst 1, 1) := by decide +kernel
theorem dX1_seekQuestion_40 : decode cX1_seekQuestion 40 = .ok (.iadd, 1) := by decide +kernel
theorem dX1_seekQuestion_41 : decode cX1_seekQuestion 41 = .ok (.istore 4, 2) := by decide +kernel
theorem dX1_seekQuestion_43 : decode cX1_seekQuestion 43 = .ok (.iload 4, 2) := by decide +kernel
theorem dX1_seekQuestion_45 : decode cX1_seekQuestion 45 = .ok (.iload_n 2, 1) := by decide +kernel
theorem dX1_seekQuestion_46 : decode cX1_seekQuestion 46 = .ok (.if_icmp .ge 54, 3) := by decide +kernel
theorem dX1_seekQuestion_49 : decode cX1_seekQuestion 49 = .ok (.aload_n 0, 1) := by decide +kernel
theorem dX1_seekQuestion_50 : decode cX1_seekQuestion 50 = .ok (.iload_n 3, 1) := by decide +kernel
theorem dX1_seekQuestion_51 : decode cX1_seekQuestion 51 = .ok (.iload 4, 2) := by decide +kernel
theorem dX1_seekQuestion_53 : decode cX1_seekQuestion 53 = .ok (.iload_n 1, 1) := by decide +kernel
theorem dX1_seekQuestion_54 : decode cX1_seekQuestion 54 = .ok (.invokevirtual 61, 3) := by decide +kernel
theorem dX1_seekQuestion_57 : decode cX1_seekQuestion 57 = .ok (.istore 5, 2) := by decide +kernel
theorem dX1_seekQuestion_59 : decode cX1_seekQuestion 59 = .ok (.aload_n 0, 1) := by decide +kernel
theorem dX1_seekQuestion_60 : decode cX1_seekQuestion 60 = .ok (.getfield 19, 3) := by decide +kernel
theorem dX1_seekQuestion_63 : decode cX1_seekQuestion 63 = .ok (.bipush (-2), 2) := by decide +kernel
theorem dX1_seekQuestion_65 : decode cX1_seekQuestion 65 = .ok (.if_icmp .eq 12, 3) := by decide +kernel
theorem dX1_seekQuestion_68 : decode cX1_seekQuestion 68 = .ok (.iload 5, 2) := by decide +kernel
theorem dX1_seekQuestion_70 : decode cX1_seekQuestion 70 = .ok (.aload_n 0, 1) := by decide +kernel
theorem dX1_seekQuestion_71 : decode cX1_seekQuestion 71 = .ok (.getfield 19, 3) := by decide +kernel
theorem dX1_seekQuestion_74 : decode cX1_seekQuestion 74 = .ok (.if_icmp .ge 20, 3) := by decide +kernel
theorem dX1_seekQuestion_77 : decode cX1_seekQuestion 77 = .ok (.aload_n 0, 1) := by decide +kernel
theorem dX1_seekQuestion_78 : decode cX1_seekQuestion 78 = .ok (.iload 5, 2) := by decide +kernel
theorem dX1_seekQuestion_80 : decode cX1_seekQuestion 80 = .ok (.putfield 19, 3) := by decide +kernel
theorem dX1_seekQuestion_83 : decode cX1_seekQuestion 83 = .ok (.aload_n 0, 1) := by decide +kernel
theorem dX1_seekQuestion_84 : decode cX1_seekQuestion 84 = .ok (.bipush 10, 2) := by decide +kernel
theorem dX1_seekQuestion_86 : decode cX1_seekQuestion 86 = .ok (.iload_n 3, 1) := by decide +kernel
theorem dX1_seekQuestion_87 : decode cX1_seekQuestion 87 = .ok (.imul, 1) := by decide +kernel
theorem dX1_seekQuestion_88 : decode cX1_seekQuestion 88 = .ok (.iload 4, 2) := by decide +kernel
theorem dX1_seekQuestion_90 : decode cX1_seekQuestion 90 = .ok (.iadd, 1) := by decide +kernel
theorem dX1_seekQuestion_91 : decode cX1_seekQuestion 91 = .ok (.putfield 15, 3) := by decide +kernel
theorem dX1_seekQuestion_94 : decode cX1_seekQuestion 94 = .ok (.iinc 4 1, 3) := by decide +kernel
theorem dX1_seekQuestion_97 : decode cX1_seekQuestion 97 = .ok (.goto (-54), 3) := by decide +kernel
theorem dX1_seekQuestion_100 : decode cX1_seekQuestion 100 = .ok (.iinc 3 1, 3) := by decide +kernel
theorem dX1_seekQuestion_103 : decode cX1_seekQuestion 103 = .ok (.goto (-70), 3) := by decide +kernel
theorem dX1_seekQuestion_106 : decode cX1_seekQuestion 106 = .ok (.return_, 1) := by decide +kernel
theorem dX1_mostLeft_0 : decode cX1_mostLeft 0 = .ok (.aload_n 0, 1) := by decide +kernel
theorem dX1_mostLeft_1 : decode cX1_mostLeft 1 = .ok (.getfield 9, 3) := by decide +kernel
theorem dX1_mostLeft_4 : decode cX1_mostLeft 4 = .ok (.iconst 0, 1) := by decide +kernel
theorem dX1_mostLeft_5 : decode cX1_mostLeft 5 = .ok (.invokestatic 64, 3) := by decide +kernel
theorem dX1_mostLeft_8 : decode cX1_mostLeft 8 = .ok (.iconst 1, 1) := by decide +kernel
theorem dX1_mostLeft_9 : decode cX1_mostLeft 9 = .ok (.istore 4, 2) := by decide +kernel
theorem dX1_mostLeft_11 : decode cX1_mostLeft 11 = .ok (.iload 4, 2) := by decide +kernel
theorem dX1_mostLeft_13 : decode cX1_mostLeft 13 = .ok (.bipush 6, 2) := by decide +kernel
theorem dX1_mostLeft_15 : decode cX1_mostLeft 15 = .ok (.if_icmp .gt 38, 3) := by decide +kernel
theorem dX1_mostLeft_18 : decode cX1_mostLeft 18 = .ok (.iload_n 3, 1) := by decide +kernel
theorem dX1_mostLeft_19 : decode cX1_mostLeft 19 = .ok (.iload 4, 2) := by decide +kernel
theorem dX1_mostLeft_21 : decode cX1_mostLeft 21 = .ok (.invokestatic 54, 3) := by decide +kernel
theorem dX1_mostLeft_24 : decode cX1_mostLeft 24 = .ok (.ifCond .eq 23, 3) := by decide +kernel
theorem dX1_mostLeft_27 : decode cX1_mostLeft 27 = .ok (.aload_n 0, 1) := by decide +kernel
theorem dX1_mostLeft_28 : decode cX1_mostLeft 28 = .ok (.getfield 9, 3) := by decide +kernel
theorem dX1_mostLeft_31 : decode cX1_mostLeft 31 = .ok (.aload_n 0, 1) := by decide +kernel
theorem dX1_mostLeft_32 : decode cX1_mostLeft 32 = .ok (.getfield 22, 3) := by decide +kernel
theorem dX1_mostLeft_35 : decode cX1_mostLeft 35 = .ok (.iload_n 1, 1) := by decide +kernel
theorem dX1_mostLeft_36 : decode cX1_mostLeft 36 = .ok (.iload_n 2, 1) := by decide +kernel
theorem dX1_mostLeft_37 : decode cX1_mostLeft 37 = .ok (.iload 4, 2) := by decide +kernel
theorem dX1_mostLeft_39 : decode cX1_mostLeft 39 = .ok (.invokevirtual 43, 3) := by decide +kernel
theorem dX1_mostLeft_42 : decode cX1_mostLeft 42 = .ok (.dup2, 1) := by decide +kernel
theorem dX1_mostLeft_43 : decode cX1_mostLeft 43 = .ok (.iaload, 1) := by decide +kernel
theorem dX1_mostLeft_44 : decode cX1_mostLeft 44 = .ok (.iconst 1, 1) := by decide +kernel
theorem dX1_mostLeft_45 : decode cX1_mostLeft 45 = .ok (.iadd, 1) := by decide +kernel
theorem dX1_mostLeft_46 : decode cX1_mostLeft 46 = .ok (.iastore, 1) := by decide +kernel
theorem dX1_mostLeft_47 : decode cX1_mostLeft 47 = .ok (.iinc 4 1, 3) := by decide +kernel
theorem dX1_mostLeft_50 : decode cX1_mostLeft 50 = .ok (.goto (-39), 3) := by decide +kernel
theorem dX1_mostLeft_53 : decode cX1_mostLeft 53 = .ok (.aload_n 0, 1) := by decide +kernel
theorem dX1_mostLeft_54 : decode cX1_mostLeft 54 = .ok (.getfield 9, 3) := by decide +kernel
theorem dX1_mostLeft_57 : decode cX1_mostLeft 57 = .ok (.iconst 0, 1) := by decide +kernel
theorem dX1_mostLeft_58 : decode cX1_mostLeft 58 = .ok (.iaload, 1) := by decide +kernel
theorem dX1_mostLeft_59 : decode cX1_mostLeft 59 = .ok (.aload_n 0, 1) := by decide +kernel
theorem dX1_mostLeft_60 : decode cX1_mostLeft 60 = .ok (.getfield 9, 3) := by decide +kernel
theorem dX1_mostLeft_63 : decode cX1_mostLeft 63 = .ok (.iconst 1, 1) := by decide +kernel
theorem dX1_mostLeft_64 : decode cX1_mostLeft 64 = .ok (.iaload, 1) := by decide +kernel
theorem dX1_mostLeft_65 : decode cX1_mostLeft 65 = .ok (.aload_n 0, 1) := by decide +kernel
theorem dX1_mostLeft_66 : decode cX1_mostLeft 66 = .ok (.getfield 9, 3) := by decide +kernel
theorem dX1_mostLeft_69 : decode cX1_mostLeft 69 = .ok (.iconst 2, 1) := by decide +kernel
theorem dX1_mostLeft_70 : decode cX1_mostLeft 70 = .ok (.iaload, 1) := by decide +kernel
theorem dX1_mostLeft_71 : decode cX1_mostLeft 71 = .ok (.invokestatic 70, 3) := by decide +kernel
theorem dX1_mostLeft_74 : decode cX1_mostLeft 74 = .ok (.invokestatic 70, 3) := by decide +kernel
theorem dX1_mostLeft_77 : decode cX1_mostLeft 77 = .ok (.ireturn, 1) := by decide +kernel
theorem dX2_init_0 : decode cX2_init 0 = .ok (.aload_n 0, 1) := by decide +kernel
theorem dX2_init_1 : decode cX2_init 1 = .ok (.invokespecial 3, 3) := by decide +kernel
theorem dX2_init_4 : decode cX2_init 4 = .ok (.aload_n 0, 1) := by decide +kernel
theorem dX2_init_5 : decode cX2_init 5 = .ok (.iconst 0, 1) := by decide +kernel
theorem dX2_init_6 : decode cX2_init 6 = .ok (.putfield 9, 3) := by decide +kernel
theorem dX2_init_9 : decode cX2_init 9 = .ok (.aload_n 0, 1) := by decide +kernel
theorem dX2_init_10 : decode cX2_init 10 = .ok (.iconst 0, 1) := by decide +kernel
theorem dX2_init_11 : decode cX2_init 11 = .ok (.putfield 15, 3) := by decide +kernel
theorem dX2_init_14 : decode cX2_init 14 = .ok (.aload_n 0, 1) := by decide +kernel
theorem dX2_init_15 : decode cX2_init 15 = .ok (.iconst 0, 1) := by decide +kernel
theorem dX2_init_16 : decode cX2_init 16 = .ok (.putfield 18, 3) := by decide +kernel
theorem dX2_init_19 : decode cX2_init 19 = .ok (.aload_n 0, 1) := by decide +kernel
theorem dX2_init_20 : decode cX2_init 20 = .ok (.iconst 0, 1) := by decide +kernel
theorem dX2_init_21 : decode cX2_init 21 = .ok (.putfield 21, 3) := by decide +kernel
theorem dX2_init_24 : decode cX2_init 24 = .ok (.aload_n 0, 1) := by decide +kernel
theorem dX2_init_25 : decode cX2_init 25 = .ok (.bipush 8, 2) := by decide +kernel
theorem dX2_init_27 : decode cX2_init 27 = .ok (.newarray .int, 2) := by decide +kernel
theorem dX2_init_29 : decode cX2_init 29 = .ok (.putfield 24, 3) := by decide +kernel
theorem dX2_init_32 : decode cX2_init 32 = .ok (.aload_n 0, 1) := by decide +kernel
theorem dX2_init_33 : decode cX2_init 33 = .ok (.bipush 8, 2) := by decide +kernel
theorem dX2_init_35 : decode cX2_init 35 = .ok (.newarray .int, 2) := by decide +kernel
theorem dX2_init_37 : decode cX2_init 37 = .ok (.putfield 28, 3) := by decide +kernel
theorem dX2_init_40 : decode cX2_init 40 = .ok (.return_, 1) := by decide +kernel
theorem dX2_begin_0 : decode cX2_begin 0 = .ok (.aload_n 0, 1) := by decide +kernel
theorem dX2_begin_1 : decode cX2_begin 1 = .ok (.iconst 0, 1) := by decide +kernel
theorem dX2_begin_2 : decode cX2_begin 2 = .ok (.putfield 9, 3) := by decide +kernel
theorem dX2_begin_5 : decode cX2_begin 5 = .ok (.aload_n 0, 1) := by decide +kernel
theorem dX2_begin_6 : decode cX2_begin 6 = .ok (.iconst 0, 1) := by decide +kernel
theorem dX2_begin_7 : decode cX2_begin 7 = .ok (.putfield 15, 3) := by decide +kernel
theorem dX2_begin_10 : decode cX2_begin 10 = .ok (.aload_n 0, 1) := by decide +kernel
theorem dX2_begin_11 : decode cX2_begin 11 = .ok (.iconst 1, 1) := by decide +kernel
theorem dX2_begin_12 : decode cX2_begin 12 = .ok (.aload_n 1, 1) := by decide +kernel
theorem dX2_begin_13 : decode cX2_begin 13 = .ok (.getfield 31, 3) := by decide +kernel
theorem dX2_begin_16 : decode cX2_begin 16 = .ok (.ishl, 1) := by decide +kernel
theorem dX2_begin_17 : decode cX2_begin 17 = .ok (.iconst 1, 1) := by decide +kernel
theorem dX2_begin_18 : decode cX2_begin 18 = .ok (.isub, 1) := by decide +kernel
theorem dX2_begin_19 : decode cX2_begin 19 = .ok (.putfield 18, 3) := by decide +kernel
theorem dX2_begin_22 : decode cX2_begin 22 = .ok (.aload_n 0, 1) := by decide +kernel
theorem dX2_begin_23 : decode cX2_begin 23 = .ok (.aload_n 1, 1) := by decide +kernel
theorem dX2_begin_24 : decode cX2_begin 24 = .ok (.getfield 36, 3) := by decide +kernel
theorem dX2_begin_27 : decode cX2_begin 27 = .ok (.putfield 21, 3) := by decide +kernel
theorem dX2_begin_30 : decode cX2_begin 30 = .ok (.aload_n 1, 1) := by decide +kernel
theorem dX2_begin_31 : decode cX2_begin 31 = .ok (.getfield 39, 3) := by decide +kernel
theorem dX2_begin_34 : decode cX2_begin 34 = .ok (.iconst 0, 1) := by decide +kernel
theorem dX2_begin_35 : decode cX2_begin 35 = .ok (.aload_n 0, 1) := by decide +kernel
theorem dX2_begin_36 : decode cX2_begin 36 = .ok (.getfield 24, 3) := by decide +kernel
theorem dX2_begin_39 : decode cX2_begin 39 = .ok (.iconst 0, 1) := by decide +kernel
theorem dX2_begin_40 : decode cX2_begin 40 = .ok (.bipush 8, 2) := by decide +kernel
theorem dX2_begin_42 : decode cX2_begin 42 = .ok (.invokestatic 42, 3) := by decide +kernel
theorem dX2_begin_45 : decode cX2_begin 45 = .ok (.aload_n 0, 1) := by decide +kernel
theorem dX2_begin_46 : decode cX2_begin 46 = .ok (.getfield 28, 3) := by decide +kernel
theorem dX2_begin_49 : decode cX2_begin 49 = .ok (.iconst 0, 1) := by decide +kernel
theorem dX2_begin_50 : decode cX2_begin 50 = .ok (.invokestatic 48, 3) := by decide +kernel
theorem dX2_begin_53 : decode cX2_begin 53 = .ok (.return_, 1) := by decide +kernel
theorem dX2_onBank_0 : decode cX2_onBank 0 = .ok (.iload_n 1, 1) := by decide +kernel
theorem dX2_onBank_1 : decode cX2_onBank 1 = .ok (.iconst 1, 1) := by decide +kernel
theorem dX2_onBank_2 : decode cX2_onBank 2 = .ok (.if_icmp .ne 10, 3) := by decide +kernel
theorem dX2_onBank_5 : decode cX2_onBank 5 = .ok (.aload_n 0, 1) := by decide +kernel
theorem dX2_onBank_6 : decode cX2_onBank 6 = .ok (.getfield 21, 3) := by decide +kernel
theorem dX2_onBank_9 : decode cX2_onBank 9 = .ok (.goto 14, 3) := by decide +kernel
theorem dX2_onBank_12 : decode cX2_onBank 12 = .ok (.aload_n 0, 1) := by decide +kernel
theorem dX2_onBank_13 : decode cX2_onBank 13 = .ok (.getfield 18, 3) := by decide +kernel
theorem dX2_onBank_16 : decode cX2_onBank 16 = .ok (.aload_n 0, 1) := by decide +kernel
theorem dX2_onBank_17 : decode cX2_onBank 17 = .ok (.getfield 21, 3) := by decide +kernel
theorem dX2_onBank_20 : decode cX2_onBank 20 = .ok (.iconst (-1), 1) := by decide +kernel
theorem dX2_onBank_21 : decode cX2_onBank 21 = .ok (.ixor, 1) := by decide +kernel
theorem dX2_onBank_22 : decode cX2_onBank 22 = .ok (.iand, 1) := by decide +kernel
theorem dX2_onBank_23 : decode cX2_onBank 23 = .ok (.ireturn, 1) := by decide +kernel
theorem dX2_bankOf_0 : decode cX2_bankOf 0 = .ok (.aload_n 0, 1) := by decide +kernel
theorem dX2_bankOf_1 : decode cX2_bankOf 1 = .ok (.getfield 21, 3) := by decide +kernel
theorem dX2_bankOf_4 : decode cX2_bankOf 4 = .ok (.iload_n 1, 1) := by decide +kernel
theorem dX2_bankOf_5 : decode cX2_bankOf 5 = .ok (.invokestatic 54, 3) := by decide +kernel
theorem dX2_bankOf_8 : decode cX2_bankOf 8 = .ok (.ifCond .eq 7, 3) := by decide +kernel
theorem dX2_bankOf_11 : decode cX2_bankOf 11 = .ok (.iconst 1, 1) := by decide +kernel
theorem dX2_bankOf_12 : decode cX2_bankOf 12 = .ok (.goto 4, 3) := by decide +kernel
theorem dX2_bankOf_15 : decode cX2_bankOf 15 = .ok (.iconst 0, 1) := by decide +kernel
theorem dX2_bankOf_16 : decode cX2_bankOf 16 = .ok (.ireturn, 1) := by decide +kernel
theorem dX2_carryOver_0 : decode cX2_carryOver 0 = .ok (.aload_n 0, 1) := by decide +kernel
theorem dX2_carryOver_1 : decode cX2_carryOver 1 = .ok (.dup, 1) := by decide +kernel
theorem dX2_carryOver_2 : decode cX2_carryOver 2 = .ok (.getfield 21, 3) := by decide +kernel
theorem dX2_carryOver_5 : decode cX2_carryOver 5 = .ok (.iconst 1, 1) := by decide +kernel
theorem dX2_carryOver_6 : decode cX2_carryOver 6 = .ok (.iload_n 1, 1) := by decide +kernel
theorem dX2_carryOver_7 : decode cX2_carryOver 7 = .ok (.ishl, 1) := by decide +kernel
theorem dX2_carryOver_8 : decode cX2_carryOver 8 = .ok (.ixor, 1) := by decide +kernel
theorem dX2_carryOver_9 : decode cX2_carryOver 9 = .ok (.putfield 21, 3) := by decide +kernel
theorem dX2_carryOver_12 : decode cX2_carryOver 12 = .ok (.return_, 1) := by decide +kernel
theorem dX2_has_0 : decode cX2_has 0 = .ok (.aload_n 0, 1) := by decide +kernel
theorem dX2_has_1 : decode cX2_has 1 = .ok (.getfield 24, 3) := by decide +kernel
theorem dX2_has_4 : decode cX2_has 4 = .ok (.iload_n 1, 1) := by decide +kernel
theorem dX2_has_5 : decode cX2_has 5 = .ok (.iaload, 1) := by decide +kernel
theorem dX2_has_6 : decode cX2_has 6 = .ok (.iload_n 2, 1) := by decide +kernel
theorem dX2_has_7 : decode cX2_has 7 = .ok (.invokestatic 54, 3) := by decide +kernel
theorem dX2_has_10 : decode cX2_has 10 = .ok (.ireturn, 1) := by decide +kernel
theorem dX2_whoHas_0 : decode cX2_whoHas 0 = .ok (.iconst 0, 1) := by decide +kernel
theorem dX2_whoHas_1 : decode cX2_whoHas 1 = .ok (.istore_n 2, 1) := by decide +kernel
theorem dX2_whoHas_2 : decode cX2_whoHas 2 = .ok (.iconst 0, 1) := by decide +kernel
theorem dX2_whoHas_3 : decode cX2_whoHas 3 = .ok (.istore_n 3, 1) := by decide +kernel
theorem dX2_whoHas_4 : decode cX2_whoHas 4 = .ok (.iload_n 3, 1) := by decide +kernel
theorem dX2_whoHas_5 : decode cX2_whoHas 5 = .ok (.bipush 8, 2) := by decide +kernel
theorem dX2_whoHas_7 : decode cX2_whoHas 7 = .ok (.if_icmp .ge 35, 3) := by decide +kernel
theorem dX2_whoHas_10 : decode cX2_whoHas 10 = .ok (.aload_n 0, 1) := by decide +kernel
theorem dX2_whoHas_11 : decode cX2_whoHas 11 = .ok (.getfield 18, 3) := by decide +kernel
theorem dX2_whoHas_14 : decode cX2_whoHas 14 = .ok (.iload_n 3, 1) := by decide +kernel
theorem dX2_whoHas_15 : decode cX2_whoHas 15 = .ok (.invokestatic 54, 3) := by decide +kernel
theorem dX2_whoHas_18 : decode cX2_whoHas 18 = .ok (.ifCond .eq 18, 3) := by decide +kernel
theorem dX2_whoHas_21 : decode cX2_whoHas 21 = .ok (.aload_n 0, 1) := by decide +kernel
theorem dX2_whoHas_22 : decode cX2_whoHas 22 = .ok (.iload_n 3, 1) := by decide +kernel
theorem dX2_whoHas_23 : decode cX2_whoHas 23 = .ok (.iload_n 1, 1) := by decide +kernel
theorem dX2_whoHas_24 : decode cX2_whoHas 24 = .ok (.invokevirtual 58, 3) := by decide +kernel
theorem dX2_whoHas_27 : decode cX2_whoHas 27 = .ok (.ifCond .eq 9, 3) := by decide +kernel
theorem dX2_whoHas_30 : decode cX2_whoHas 30 = .ok (.iload_n 2, 1) := by decide +kernel
theorem dX2_whoHas_31 : decode cX2_whoHas 31 = .ok (.iconst 1, 1) := by decide +kernel
theorem dX2_whoHas_32 : decode cX2_whoHas 32 = .ok (.iload_n 3, 1) := by decide +kernel
theorem dX2_whoHas_33 : decode cX2_whoHas 33 = .ok (.ishl, 1) := by decide +kernel
theorem dX2_whoHas_34 : decode cX2_whoHas 34 = .ok (.ior, 1) := by decide +kernel
theorem dX2_whoHas_35 : decode cX2_whoHas 35 = .ok (.istore_n 2, 1) := by decide +kernel
theorem dX2_whoHas_36 : decode cX2_whoHas 36 = .ok (.iinc 3 1, 3) := by decide +kernel
theorem dX2_whoHas_39 : decode cX2_whoHas 39 = .ok (.goto (-35), 3) := by decide +kernel
theorem dX2_whoHas_42 : decode cX2_whoHas 42 = .ok (.iload_n 2, 1) := by decide +kernel
theorem dX2_whoHas_43 : decode cX2_whoHas 43 = .ok (.ireturn, 1) := by decide +kernel
theorem dX3_init_0 : decode cX3_init 0 = .ok (.aload_n 0, 1) := by decide +kernel
theorem dX3_init_1 : decode cX3_init 1 = .ok (.invokespecial 3, 3) := by decide +kernel
theorem dX3_init_4 : decode cX3_init 4 = .ok (.aload_n 0, 1) := by decide +kernel
theorem dX3_init_5 : decode cX3_init 5 = .ok (.bipush 8, 2) := by decide +kernel
theorem dX3_init_7 : decode cX3_init 7 = .ok (.newarray .int, 2) := by decide +kernel
theorem dX3_init_9 : decode cX3_init 9 = .ok (.putfield 9, 3) := by decide +kernel
theorem dX3_init_12 : decode cX3_init 12 = .ok (.aload_n 0, 1) := by decide +kernel
theorem dX3_init_13 : decode cX3_init 13 = .ok (.sipush 256, 3) := by decide +kernel
theorem dX3_init_16 : decode cX3_init 16 = .ok (.newarray .int, 2) := by decide +kernel
theorem dX3_init_18 : decode cX3_init 18 = .ok (.putfield 15, 3) := by decide +kernel
theorem dX3_init_21 : decode cX3_init 21 = .ok (.return_, 1) := by decide +kernel
theorem dX3_leastOf_0 : decode cX3_leastOf 0 = .ok (.iconst 0, 1) := by decide +kernel
theorem dX3_leastOf_1 : decode cX3_leastOf 1 = .ok (.istore_n 1, 1) := by decide +kernel
theorem dX3_leastOf_2 : decode cX3_leastOf 2 = .ok (.iload_n 1, 1) := by decide +kernel
theorem dX3_leastOf_3 : decode cX3_leastOf 3 = .ok (.bipush 8, 2) := by decide +kernel
theorem dX3_leastOf_5 : decode cX3_leastOf 5 = .ok (.if_icmp .ge 19, 3) := by decide +kernel
theorem dX3_leastOf_8 : decode cX3_leastOf 8 = .ok (.iload_n 0, 1) := by decide +kernel
theorem dX3_leastOf_9 : decode cX3_leastOf 9 = .ok (.iload_n 1, 1) := by decide +kernel
theorem dX3_leastOf_10 : decode cX3_leastOf 10 = .ok (.invokestatic 18, 3) := by decide +kernel
theorem dX3_leastOf_13 : decode cX3_leastOf 13 = .ok (.ifCond .eq 5, 3) := by decide +kernel
theorem dX3_leastOf_16 : decode cX3_leastOf 16 = .ok (.iload_n 1, 1) := by decide +kernel
theorem dX3_leastOf_17 : decode cX3_leastOf 17 = .ok (.ireturn, 1) := by decide +kernel
theorem dX3_leastOf_18 : decode cX3_leastOf 18 = .ok (.iinc 1 1, 3) := by decide +kernel
theorem dX3_leastOf_21 : decode cX3_leastOf 21 = .ok (.goto (-19), 3) := by decide +kernel
theorem dX3_leastOf_24 : decode cX3_leastOf 24 = .ok (.iconst (-1), 1) := by decide +kernel
theorem dX3_leastOf_25 : decode cX3_leastOf 25 = .ok (.ireturn, 1) := by decide +kernel
theorem dX3_most_0 : decode cX3_most 0 = .ok (.iconst 0, 1) := by decide +kernel
theorem dX3_most_1 : decode cX3_most 1 = .ok (.istore_n 3, 1) := by decide +kernel
theorem dX3_most_2 : decode cX3_most 2 = .ok (.iload_n 3, 1) := by decide +kernel
theorem dX3_most_3 : decode cX3_most 3 = .ok (.iload_n 2, 1) := by decide +kernel
theorem dX3_most_4 : decode cX3_most 4 = .ok (.if_icmp .gt 36, 3) := by decide +kernel
theorem dX3_most_7 : decode cX3_most 7 = .ok (.iload_n 3, 1) := by decide +kernel
theorem dX3_most_8 : decode cX3_most 8 = .ok (.sipush 256, 3) := by decide +kernel
theorem dX3_most_11 : decode cX3_most 11 = .ok (.if_icmp .ge 29, 3) := by decide +kernel
theorem dX3_most_14 : decode cX3_most 14 = .ok (.iload_n 3, 1) := by decide +kernel
theorem dX3_most_15 : decode cX3_most 15 = .ok (.iload_n 2, 1) := by decide +kernel
theorem dX3_most_16 : decode cX3_most 16 = .ok (.iconst (-1), 1) := by decide +kernel
theorem dX3_most_17 : decode cX3_most 17 = .ok (.ixor, 1) := by decide +kernel
theorem dX3_most_18 : decode cX3_most 18 = .ok (.iand, 1) := by decide +kernel
theorem dX3_most_19 : decode cX3_most 19 = .ok (.ifCond .ne 15, 3) := by decide +kernel
theorem dX3_most_22 : decode cX3_most 22 = .ok (.aload_n 0, 1) := by decide +kernel
theorem dX3_most_23 : decode cX3_most 23 = .ok (.getfield 15, 3) := by decide +kernel
theorem dX3_most_26 : decode cX3_most 26 = .ok (.iload_n 3, 1) := by decide +kernel
theorem dX3_most_27 : decode cX3_most 27 = .ok (.aload_n 0, 1) := by decide +kernel
theorem dX3_most_28 : decode cX3_most 28 = .ok (.aload_n 1, 1) := by decide +kernel
theorem dX3_most_29 : decode cX3_most 29 = .ok (.iload_n 3, 1) := by decide +kernel
theorem dX3_most_30 : decode cX3_most 30 = .ok (.invokevirtual 22, 3) := by decide +kernel
theorem dX3_most_33 : decode cX3_most 33 = .ok (.iastore, 1) := by decide +kernel
theorem dX3_most_34 : decode cX3_most 34 = .ok (.iinc 3 1, 3) := by decide +kernel
theorem dX3_most_37 : decode cX3_most 37 = .ok (.goto (-35), 3) := by decide +kernel
theorem dX3_most_40 : decode cX3_most 40 = .ok (.aload_n 0, 1) := by decide +kernel
theorem dX3_most_41 : decode cX3_most 41 = .ok (.getfield 15, 3) := by decide +kernel
theorem dX3_most_44 : decode cX3_most 44 = .ok (.iload_n 2, 1) := by decide +kernel
theorem dX3_most_45 : decode cX3_most 45 = .ok (.sipush 255, 3) := by decide +kernel
theorem dX3_most_48 : decode cX3_most 48 = .ok (.iand, 1) := by decide +kernel
theorem dX3_most_49 : decode cX3_most 49 = .ok (.iaload, 1) := by decide +kernel
theorem dX3_most_50 : decode cX3_most 50 = .ok (.ireturn, 1) := by decide +kernel
theorem dX3_mostIn_0 : decode cX3_mostIn 0 = .ok (.iload_n 2, 1) := by decide +kernel
theorem dX3_mostIn_1 : decode cX3_mostIn 1 = .ok (.invokestatic 26, 3) := by decide +kernel
theorem dX3_mostIn_4 : decode cX3_mostIn 4 = .ok (.istore_n 3, 1) := by decide +kernel
theorem dX3_mostIn_5 : decode cX3_mostIn 5 = .ok (.iload_n 3, 1) := by decide +kernel
theorem dX3_mostIn_6 : decode cX3_mostIn 6 = .ok (.iconst (-1), 1) := by decide +kernel
theorem dX3_mostIn_7 : decode cX3_mostIn 7 = .ok (.if_icmp .ne 5, 3) := by decide +kernel
theorem dX3_mostIn_10 : decode cX3_mostIn 10 = .ok (.iconst 0, 1) := by decide +kernel
theorem dX3_mostIn_11 : decode cX3_mostIn 11 = .ok (.ireturn, 1) := by decide +kernel
theorem dX3_mostIn_12 : decode cX3_mostIn 12 = .ok (.iload_n 2, 1) := by decide +kernel
theorem dX3_mostIn_13 : decode cX3_mostIn 13 = .ok (.iconst 1, 1) := by decide +kernel
theorem dX3_mostIn_14 : decode cX3_mostIn 14 = .ok (.iload_n 3, 1) := by decide +kernel
theorem dX3_mostIn_15 : decode cX3_mostIn 15 = .ok (.ishl, 1) := by decide +kernel
theorem dX3_mostIn_16 : decode cX3_mostIn 16 = .ok (.iconst (-1), 1) := by decide +kernel
theorem dX3_mostIn_17 : decode cX3_mostIn 17 = .ok (.ixor, 1) := by decide +kernel
theorem dX3_mostIn_18 : decode cX3_mostIn 18 = .ok (.iand, 1) := by decide +kernel
theorem dX3_mostIn_19 : decode cX3_mostIn 19 = .ok (.istore 4, 2) := by decide +kernel
theorem dX3_mostIn_21 : decode cX3_mostIn 21 = .ok (.aload_n 0, 1) := by decide +kernel
theorem dX3_mostIn_22 : decode cX3_mostIn 22 = .ok (.getfield 15, 3) := by decide +kernel
theorem dX3_mostIn_25 : decode cX3_mostIn 25 = .ok (.iload 4, 2) := by decide +kernel
theorem dX3_mostIn_27 : decode cX3_mostIn 27 = .ok (.iaload, 1) := by decide +kernel
theorem dX3_mostIn_28 : decode cX3_mostIn 28 = .ok (.istore 5, 2) := by decide +kernel
theorem dX3_mostIn_30 : decode cX3_mostIn 30 = .ok (.iload_n 3, 1) := by decide +kernel
theorem dX3_mostIn_31 : decode cX3_mostIn 31 = .ok (.iconst 1, 1) := by decide +kernel
theorem dX3_mostIn_32 : decode cX3_mostIn 32 = .ok (.iadd, 1) := by decide +kernel
theorem dX3_mostIn_33 : decode cX3_mostIn 33 = .ok (.istore 6, 2) := by decide +kernel
theorem dX3_mostIn_35 : decode cX3_mostIn 35 = .ok (.iload 6, 2) := by decide +kernel
theorem dX3_mostIn_37 : decode cX3_mostIn 37 = .ok (.bipush 8, 2) := by decide +kernel
theorem dX3_mostIn_39 : decode cX3_mostIn 39 = .ok (.if_icmp .ge 46, 3) := by decide +kernel
theorem dX3_mostIn_42 : decode cX3_mostIn 42 = .ok (.iload 4, 2) := by decide +kernel
theorem dX3_mostIn_44 : decode cX3_mostIn 44 = .ok (.aload_n 1, 1) := by decide +kernel
theorem dX3_mostIn_45 : decode cX3_mostIn 45 = .ok (.iload_n 3, 1) := by decide +kernel
theorem dX3_mostIn_46 : decode cX3_mostIn 46 = .ok (.iaload, 1) := by decide +kernel
theorem dX3_mostIn_47 : decode cX3_mostIn 47 = .ok (.iand, 1) := by decide +kernel
theorem dX3_mostIn_48 : decode cX3_mostIn 48 = .ok (.iload 6, 2) := by decide +kernel
theorem dX3_mostIn_50 : decode cX3_mostIn 50 = .ok (.invokestatic 18, 3) := by decide +kernel
theorem dX3_mostIn_53 : decode cX3_mostIn 53 = .ok (.ifCond .eq 26, 3) := by decide +kernel
theorem dX3_mostIn_56 : decode cX3_mostIn 56 = .ok (.iload 5, 2) := by decide +kernel
theorem dX3_mostIn_58 : decode cX3_mostIn 58 = .ok (.iconst 1, 1) := by decide +kernel
theorem dX3_mostIn_59 : decode cX3_mostIn 59 = .ok (.aload_n 0, 1) := by decide +kernel
theorem dX3_mostIn_60 : decode cX3_mostIn 60 = .ok (.getfield 15, 3) := by decide +kernel
theorem dX3_mostIn_63 : decode cX3_mostIn 63 = .ok (.iload 4, 2) := by decide +kernel
theorem dX3_mostIn_65 : decode cX3_mostIn 65 = .ok (.iconst 1, 1) := by decide +kernel
theorem dX3_mostIn_66 : decode cX3_mostIn 66 = .ok (.iload 6, 2) := by decide +kernel
theorem dX3_mostIn_68 : decode cX3_mostIn 68 = .ok (.ishl, 1) := by decide +kernel
theorem dX3_mostIn_69 : decode cX3_mostIn 69 = .ok (.iconst (-1), 1) := by decide +kernel
theorem dX3_mostIn_70 : decode cX3_mostIn 70 = .ok (.ixor, 1) := by decide +kernel
theorem dX3_mostIn_71 : decode cX3_mostIn 71 = .ok (.iand, 1) := by decide +kernel
theorem dX3_mostIn_72 : decode cX3_mostIn 72 = .ok (.iaload, 1) := by decide +kernel
theorem dX3_mostIn_73 : decode cX3_mostIn 73 = .ok (.iadd, 1) := by decide +kernel
theorem dX3_mostIn_74 : decode cX3_mostIn 74 = .ok (.invokestatic 30, 3) := by decide +kernel
theorem dX3_mostIn_77 : decode cX3_mostIn 77 = .ok (.istore 5, 2) := by decide +kernel
theorem dX3_mostIn_79 : decode cX3_mostIn 79 = .ok (.iinc 6 1, 3) := by decide +kernel
theorem dX3_mostIn_82 : decode cX3_mostIn 82 = .ok (.goto (-47), 3) := by decide +kernel
theorem dX3_mostIn_85 : decode cX3_mostIn 85 = .ok (.iload 5, 2) := by decide +kernel
theorem dX3_mostIn_87 : decode cX3_mostIn 87 = .ok (.ireturn, 1) := by decide +kernel
theorem dX3_pairFirst_0 : decode cX3_pairFirst 0 = .ok (.aload_n 0, 1) := by decide +kernel
theorem dX3_pairFirst_1 : decode cX3_pairFirst 1 = .ok (.aload_n 1, 1) := by decide +kernel
theorem dX3_pairFirst_2 : decode cX3_pairFirst 2 = .ok (.iload_n 2, 1) := by decide +kernel
theorem dX3_pairFirst_3 : decode cX3_pairFirst 3 = .ok (.invokevirtual 36, 3) := by decide +kernel
theorem dX3_pairFirst_6 : decode cX3_pairFirst 6 = .ok (.pop, 1) := by decide +kernel
theorem dX3_pairFirst_7 : decode cX3_pairFirst 7 = .ok (.aload_n 0, 1) := by decide +kernel
theorem dX3_pairFirst_8 : decode cX3_pairFirst 8 = .ok (.getfield 9, 3) := by decide +kernel
theorem dX3_pairFirst_11 : decode cX3_pairFirst 11 = .ok (.bipush (-2), 2) := by decide +kernel
theorem dX3_pairFirst_13 : decode cX3_pairFirst 13 = .ok (.invokestatic 39, 3) := by decide +kernel
theorem dX3_pairFirst_16 : decode cX3_pairFirst 16 = .ok (.iload_n 2, 1) := by decide +kernel
theorem dX3_pairFirst_17 : decode cX3_pairFirst 17 = .ok (.sipush 255, 3) := by decide +kernel
theorem dX3_pairFirst_20 : decode cX3_pairFirst 20 = .ok (.iand, 1) := by decide +kernel
theorem dX3_pairFirst_21 : decode cX3_pairFirst 21 = .ok (.istore_n 3, 1) := by decide +kernel
theorem dX3_pairFirst_22 : decode cX3_pairFirst 22 = .ok (.iconst 0, 1) := by decide +kernel
theorem dX3_pairFirst_23 : decode cX3_pairFirst 23 = .ok (.istore 4, 2) := by decide +kernel
theorem dX3_pairFirst_25 : decode cX3_pairFirst 25 = .ok (.iload 4, 2) := by decide +kernel
theorem dX3_pairFirst_27 : decode cX3_pairFirst 27 = .ok (.bipush 8, 2) := by decide +kernel
theorem dX3_pairFirst_29 : decode cX3_pairFirst 29 = .ok (.if_icmp .ge 71, 3) := by decide +kernel
theorem dX3_pairFirst_32 : decode cX3_pairFirst 32 = .ok (.iload_n 3, 1) := by decide +kernel
theorem dX3_pairFirst_33 : decode cX3_pairFirst 33 = .ok (.iload 4, 2) := by decide +kernel
theorem dX3_pairFirst_35 : decode cX3_pairFirst 35 = .ok (.invokestatic 18, 3) := by decide +kernel
theorem dX3_pairFirst_38 : decode cX3_pairFirst 38 = .ok (.ifCond .eq 56, 3) := by decide +kernel
theorem dX3_pairFirst_41 : decode cX3_pairFirst 41 = .ok (.aload_n 0, 1) := by decide +kernel
theorem dX3_pairFirst_42 : decode cX3_pairFirst 42 = .ok (.aload_n 1, 1) := by decide +kernel
theorem dX3_pairFirst_43 : decode cX3_pairFirst 43 = .ok (.iload 4, 2) := by decide +kernel
theorem dX3_pairFirst_45 : decode cX3_pairFirst 45 = .ok (.iload_n 3, 1) := by decide +kernel
theorem dX3_pairFirst_46 : decode cX3_pairFirst 46 = .ok (.invokevirtual 45, 3) := by decide +kernel
theorem dX3_pairFirst_49 : decode cX3_pairFirst 49 = .ok (.istore 5, 2) := by decide +kernel
theorem dX3_pairFirst_51 : decode cX3_pairFirst 51 = .ok (.iload_n 3, 1) := by decide +kernel
theorem dX3_pairFirst_52 : decode cX3_pairFirst 52 = .ok (.iconst 1, 1) := by decide +kernel
theorem dX3_pairFirst_53 : decode cX3_pairFirst 53 = .ok (.iload 4, 2) := by decide +kernel
theorem dX3_pairFirst_55 : decode cX3_pairFirst 55 = .ok (.ishl, 1) := by decide +kernel
theorem dX3_pairFirst_56 : decode cX3_pairFirst 56 = .ok (.iconst (-1), 1) := by decide +kernel
theorem dX3_pairFirst_57 : decode cX3_pairFirst 57 = .ok (.ixor, 1) := by decide +kernel
theorem dX3_pairFirst_58 : decode cX3_pairFirst 58 = .ok (.iand, 1) := by decide +kernel
theorem dX3_pairFirst_59 : decode cX3_pairFirst 59 = .ok (.istore_n 3, 1) := by decide +kernel
theorem dX3_pairFirst_60 : decode cX3_pairFirst 60 = .ok (.iload 5, 2) := by decide +kernel
theorem dX3_pairFirst_62 : decode cX3_pairFirst 62 = .ok (.bipush (-2), 2) := by decide +kernel
theorem dX3_pairFirst_64 : decode cX3_pairFirst 64 = .ok (.if_icmp .eq 30, 3) := by decide +kernel
theorem dX3_pairFirst_67 : decode cX3_pairFirst 67 = .ok (.iload_n 3, 1) := by decide +kernel
theorem dX3_pairFirst_68 : decode cX3_pairFirst 68 = .ok (.iconst 1, 1) := by decide +kernel
theorem dX3_pairFirst_69 : decode cX3_pairFirst 69 = .ok (.iload 5, 2) := by decide +kernel
theorem dX3_pairFirst_71 : decode cX3_pairFirst 71 = .ok (.ishl, 1) := by decide +kernel
theorem dX3_pairFirst_72 : decode cX3_pairFirst 72 = .ok (.iconst (-1), 1) := by decide +kernel
theorem dX3_pairFirst_73 : decode cX3_pairFirst 73 = .ok (.ixor, 1) := by decide +kernel
theorem dX3_pairFirst_74 : decode cX3_pairFirst 74 = .ok (.iand, 1) := by decide +kernel
theorem dX3_pairFirst_75 : decode cX3_pairFirst 75 = .ok (.istore_n 3, 1) := by decide +kernel
theorem dX3_pairFirst_76 : decode cX3_pairFirst 76 = .ok (.aload_n 0, 1) := by decide +kernel
theorem dX3_pairFirst_77 : decode cX3_pairFirst 77 = .ok (.getfield 9, 3) := by decide +kernel
theorem dX3_pairFirst_80 : decode cX3_pairFirst 80 = .ok (.iload 4, 2) := by decide +kernel
theorem dX3_pairFirst_82 : decode cX3_pairFirst 82 = .ok (.iload 5, 2) := by decide +kernel
theorem dX3_pairFirst_84 : decode cX3_pairFirst 84 = .ok (.iastore, 1) := by decide +kernel
theorem dX3_pairFirst_85 : decode cX3_pairFirst 85 = .ok (.aload_n 0, 1) := by decide +kernel
theorem dX3_pairFirst_86 : decode cX3_pairFirst 86 = .ok (.getfield 9, 3) := by decide +kernel
theorem dX3_pairFirst_89 : decode cX3_pairFirst 89 = .ok (.iload 5, 2) := by decide +kernel
theorem dX3_pairFirst_91 : decode cX3_pairFirst 91 = .ok (.iload 4, 2) := by decide +kernel
theorem dX3_pairFirst_93 : decode cX3_pairFirst 93 = .ok (.iastore, 1) := by decide +kernel
theorem dX3_pairFirst_94 : decode cX3_pairFirst 94 = .ok (.iinc 4 1, 3) := by decide +kernel
theorem dX3_pairFirst_97 : decode cX3_pairFirst 97 = .ok (.goto (-72), 3) := by decide +kernel
theorem dX3_pairFirst_100 : decode cX3_pairFirst 100 = .ok (.return_, 1) := by decide +kernel
theorem dX3_firstPartner_0 : decode cX3_firstPartner 0 = .ok (.iload_n 3, 1) := by decide +kernel
theorem dX3_firstPartner_1 : decode cX3_firstPartner 1 = .ok (.iconst 1, 1) := by decide +kernel
theorem dX3_firstPartner_2 : decode cX3_firstPartner 2 = .ok (.iload_n 2, 1) := by decide +kernel
theorem dX3_firstPartner_3 : decode cX3_firstPartner 3 = .ok (.ishl, 1) := by decide +kernel
theorem dX3_firstPartner_4 : decode cX3_firstPartner 4 = .ok (.iconst (-1), 1) := by decide +kernel
theorem dX3_firstPartner_5 : decode cX3_firstPartner 5 = .ok (.ixor, 1) := by decide +kernel
theorem dX3_firstPartner_6 : decode cX3_firstPartner 6 = .ok (.iand, 1) := by decide +kernel
theorem dX3_firstPartner_7 : decode cX3_firstPartner 7 = .ok (.istore 4, 2) := by decide +kernel
theorem dX3_firstPartner_9 : decode cX3_firstPartner 9 = .ok (.iload_n 2, 1) := by decide +kernel
theorem dX3_firstPartner_10 : decode cX3_firstPartner 10 = .ok (.iconst 1, 1) := by decide +kernel
theorem dX3_firstPartner_11 : decode cX3_firstPartner 11 = .ok (.iadd, 1) := by decide +kernel
theorem dX3_firstPartner_12 : decode cX3_firstPartner 12 = .ok (.istore 5, 2) := by decide +kernel
theorem dX3_firstPartner_14 : decode cX3_firstPartner 14 = .ok (.iload 5, 2) := by decide +kernel
theorem dX3_firstPartner_16 : decode cX3_firstPartner 16 = .ok (.bipush 8, 2) := by decide +kernel
theorem dX3_firstPartner_18 : decode cX3_firstPartner 18 = .ok (.if_icmp .ge 51, 3) := by decide +kernel
theorem dX3_firstPartner_21 : decode cX3_firstPartner 21 = .ok (.iload 4, 2) := by decide +kernel
theorem dX3_firstPartner_23 : decode cX3_firstPartner 23 = .ok (.aload_n 1, 1) := by decide +kernel
theorem dX3_firstPartner_24 : decode cX3_firstPartner 24 = .ok (.iload_n 2, 1) := by decide +kernel
theorem dX3_firstPartner_25 : decode cX3_firstPartner 25 = .ok (.iaload, 1) := by decide +kernel
theorem dX3_firstPartner_26 : decode cX3_firstPartner 26 = .ok (.iand, 1) := by decide +kernel
theorem dX3_firstPartner_27 : decode cX3_firstPartner 27 = .ok (.iload 5, 2) := by decide +kernel
theorem dX3_firstPartner_29 : decode cX3_firstPartner 29 = .ok (.invokestatic 18, 3) := by decide +kernel
theorem dX3_firstPartner_32 : decode cX3_firstPartner 32 = .ok (.ifCond .eq 31, 3) := by decide +kernel
theorem dX3_firstPartner_35 : decode cX3_firstPartner 35 = .ok (.iconst 1, 1) := by decide +kernel
theorem dX3_firstPartner_36 : decode cX3_firstPartner 36 = .ok (.aload_n 0, 1) := by decide +kernel
theorem dX3_firstPartner_37 : decode cX3_firstPartner 37 = .ok (.getfield 15, 3) := by decide +kernel
theorem dX3_firstPartner_40 : decode cX3_firstPartner 40 = .ok (.iload 4, 2) := by decide +kernel
theorem dX3_firstPartner_42 : decode cX3_firstPartner 42 = .ok (.iconst 1, 1) := by decide +kernel
theorem dX3_firstPartner_43 : decode cX3_firstPartner 43 = .ok (.iload 5, 2) := by decide +kernel
theorem dX3_firstPartner_45 : decode cX3_firstPartner 45 = .ok (.ishl, 1) := by decide +kernel
theorem dX3_firstPartner_46 : decode cX3_firstPartner 46 = .ok (.iconst (-1), 1) := by decide +kernel
theorem dX3_firstPartner_47 : decode cX3_firstPartner 47 = .ok (.ixor, 1) := by decide +kernel
theorem dX3_firstPartner_48 : decode cX3_firstPartner 48 = .ok (.iand, 1) := by decide +kernel
theorem dX3_firstPartner_49 : decode cX3_firstPartner 49 = .ok (.iaload, 1) := by decide +kernel
theorem dX3_firstPartner_50 : decode cX3_firstPartner 50 = .ok (.iadd, 1) := by decide +kernel
theorem dX3_firstPartner_51 : decode cX3_firstPartner 51 = .ok (.aload_n 0, 1) := by decide +kernel
theorem dX3_firstPartner_52 : decode cX3_firstPartner 52 = .ok (.getfield 15, 3) := by decide +kernel
theorem dX3_firstPartner_55 : decode cX3_firstPartner 55 = .ok (.iload_n 3, 1) := by decide +kernel
theorem dX3_firstPartner_56 : decode cX3_firstPartner 56 = .ok (.iaload, 1) := by decide +kernel
theorem dX3_firstPartner_57 : decode cX3_firstPartner 57 = .ok (.if_icmp .ne 6, 3) := by decide +kernel
theorem dX3_firstPartner_60 : decode cX3_firstPartner 60 = .ok (.iload 5, 2) := by decide +kernel
theorem dX3_firstPartner_62 : decode cX3_firstPartner 62 = .ok (.ireturn, 1) := by decide +kernel
theorem dX3_firstPartner_63 : decode cX3_firstPartner 63 = .ok (.iinc 5 1, 3) := by decide +kernel
theorem dX3_firstPartner_66 : decode cX3_firstPartner 66 = .ok (.goto (-52), 3) := by decide +kernel
theorem dX3_firstPartner_69 : decode cX3_firstPartner 69 = .ok (.bipush (-2), 2) := by decide +kernel
theorem dX3_firstPartner_71 : decode cX3_firstPartner 71 = .ok (.ireturn, 1) := by decide +kernel
theorem dX3_mostKept_0 : decode cX3_mostKept 0 = .ok (.iload_n 2, 1) := by decide +kernel
theorem dX3_mostKept_1 : decode cX3_mostKept 1 = .ok (.invokestatic 49, 3) := by decide +kernel
theorem dX3_mostKept_4 : decode cX3_mostKept 4 = .ok (.istore 4, 2) := by decide +kernel
theorem dX3_mostKept_6 : decode cX3_mostKept 6 = .ok (.iconst 0, 1) := by decide +kernel
theorem dX3_mostKept_7 : decode cX3_mostKept 7 = .ok (.istore 5, 2) := by decide +kernel
theorem dX3_mostKept_9 : decode cX3_mostKept 9 = .ok (.iload 5, 2) := by decide +kernel
theorem dX3_mostKept_11 : decode cX3_mostKept 11 = .ok (.iload_n 2, 1) := by decide +kernel
theorem dX3_mostKept_12 : decode cX3_mostKept 12 = .ok (.if_icmp .gt 77, 3) := by decide +kernel
theorem dX3_mostKept_15 : decode cX3_mostKept 15 = .ok (.iload 5, 2) := by decide +kernel
theorem dX3_mostKept_17 : decode cX3_mostKept 17 = .ok (.sipush 256, 3) := by decide +kernel
theorem dX3_mostKept_20 : decode cX3_mostKept 20 = .ok (.if_icmp .ge 69, 3) := by decide +kernel
theorem dX3_mostKept_23 : decode cX3_mostKept 23 = .ok (.iload 4, 2) := by decide +kernel
theorem dX3_mostKept_25 : decode cX3_mostKept 25 = .ok (.iload 5, 2) := by decide +kernel
theorem dX3_mostKept_27 : decode cX3_mostKept 27 = .ok (.invokestatic 49, 3) := by decide +kernel
theorem dX3_mostKept_30 : decode cX3_mostKept 30 = .ok (.isub, 1) := by decide +kernel
theorem dX3_mostKept_31 : decode cX3_mostKept 31 = .ok (.istore 6, 2) := by decide +kernel
theorem dX3_mostKept_33 : decode cX3_mostKept 33 = .ok (.iload 5, 2) := by decide +kernel
theorem dX3_mostKept_35 : decode cX3_mostKept 35 = .ok (.iload_n 2, 1) := by decide +kernel
theorem dX3_mostKept_36 : decode cX3_mostKept 36 = .ok (.iconst (-1), 1) := by decide +kernel
theorem dX3_mostKept_37 : decode cX3_mostKept 37 = .ok (.ixor, 1) := by decide +kernel
theorem dX3_mostKept_38 : decode cX3_mostKept 38 = .ok (.iand, 1) := by decide +kernel
theorem dX3_mostKept_39 : decode cX3_mostKept 39 = .ok (.ifCond .ne 44, 3) := by decide +kernel
theorem dX3_mostKept_42 : decode cX3_mostKept 42 = .ok (.iload 6, 2) := by decide +kernel
theorem dX3_mostKept_44 : decode cX3_mostKept 44 = .ok (.iconst 2, 1) := by decide +kernel
theorem dX3_mostKept_45 : decode cX3_mostKept 45 = .ok (.irem, 1) := by decide +kernel
theorem dX3_mostKept_46 : decode cX3_mostKept 46 = .ok (.ifCond .ne 37, 3) := by decide +kernel
theorem dX3_mostKept_49 : decode cX3_mostKept 49 = .ok (.iload 6, 2) := by decide +kernel
theorem dX3_mostKept_51 : decode cX3_mostKept 51 = .ok (.iconst 2, 1) := by decide +kernel
theorem dX3_mostKept_52 : decode cX3_mostKept 52 = .ok (.idiv, 1) := by decide +kernel
theorem dX3_mostKept_53 : decode cX3_mostKept 53 = .ok (.iconst 1, 1) := by decide +kernel
theorem dX3_mostKept_54 : decode cX3_mostKept 54 = .ok (.aload_n 3, 1) := by decide +kernel
theorem dX3_mostKept_55 : decode cX3_mostKept 55 = .ok (.getfield 54, 3) := by decide +kernel
theorem dX3_mostKept_58 : decode cX3_mostKept 58 = .ok (.invokestatic 30, 3) := by decide +kernel
theorem dX3_mostKept_61 : decode cX3_mostKept 61 = .ok (.idiv, 1) := by decide +kernel
theorem dX3_mostKept_62 : decode cX3_mostKept 62 = .ok (.iconst 1, 1) := by decide +kernel
theorem dX3_mostKept_63 : decode cX3_mostKept 63 = .ok (.iadd, 1) := by decide +kernel
theorem dX3_mostKept_64 : decode cX3_mostKept 64 = .ok (.istore 7, 2) := by decide +kernel
theorem dX3_mostKept_66 : decode cX3_mostKept 66 = .ok (.aload_n 0, 1) := by decide +kernel
theorem dX3_mostKept_67 : decode cX3_mostKept 67 = .ok (.getfield 15, 3) := by decide +kernel
theorem dX3_mostKept_70 : decode cX3_mostKept 70 = .ok (.iload 5, 2) := by decide +kernel
theorem dX3_mostKept_72 : decode cX3_mostKept 72 = .ok (.aload_n 0, 1) := by decide +kernel
theorem dX3_mostKept_73 : decode cX3_mostKept 73 = .ok (.aload_n 1, 1) := by decide +kernel
theorem dX3_mostKept_74 : decode cX3_mostKept 74 = .ok (.iload 5, 2) := by decide +kernel
theorem dX3_mostKept_76 : decode cX3_mostKept 76 = .ok (.aload_n 3, 1) := by decide +kernel
theorem dX3_mostKept_77 : decode cX3_mostKept 77 = .ok (.iload 7, 2) := by decide +kernel
theorem dX3_mostKept_79 : decode cX3_mostKept 79 = .ok (.invokevirtual 60, 3) := by decide +kernel
theorem dX3_mostKept_82 : decode cX3_mostKept 82 = .ok (.iastore, 1) := by decide +kernel
theorem dX3_mostKept_83 : decode cX3_mostKept 83 = .ok (.iinc 5 1, 3) := by decide +kernel
theorem dX3_mostKept_86 : decode cX3_mostKept 86 = .ok (.goto (-77), 3) := by decide +kernel
theorem dX3_mostKept_89 : decode cX3_mostKept 89 = .ok (.aload_n 0, 1) := by decide +kernel
theorem dX3_mostKept_90 : decode cX3_mostKept 90 = .ok (.getfield 15, 3) := by decide +kernel
theorem dX3_mostKept_93 : decode cX3_mostKept 93 = .ok (.iload_n 2, 1) := by decide +kernel
theorem dX3_mostKept_94 : decode cX3_mostKept 94 = .ok (.sipush 255, 3) := by decide +kernel
theorem dX3_mostKept_97 : decode cX3_mostKept 97 = .ok (.iand, 1) := by decide +kernel
theorem dX3_mostKept_98 : decode cX3_mostKept 98 = .ok (.iaload, 1) := by decide +kernel
theorem dX3_mostKept_99 : decode cX3_mostKept 99 = .ok (.ireturn, 1) := by decide +kernel
theorem dX3_mostKeptIn_0 : decode cX3_mostKeptIn 0 = .ok (.iconst 0, 1) := by decide +kernel
theorem dX3_mostKeptIn_1 : decode cX3_mostKeptIn 1 = .ok (.istore 5, 2) := by decide +kernel
theorem dX3_mostKeptIn_3 : decode cX3_mostKeptIn 3 = .ok (.iconst 0, 1) := by decide +kernel
theorem dX3_mostKeptIn_4 : decode cX3_mostKeptIn 4 = .ok (.istore 6, 2) := by decide +kernel
theorem dX3_mostKeptIn_6 : decode cX3_mostKeptIn 6 = .ok (.iload 6, 2) := by decide +kernel
theorem dX3_mostKeptIn_8 : decode cX3_mostKeptIn 8 = .ok (.bipush 8, 2) := by decide +kernel
theorem dX3_mostKeptIn_10 : decode cX3_mostKeptIn 10 = .ok (.if_icmp .ge 118, 3) := by decide +kernel
theorem dX3_mostKeptIn_13 : decode cX3_mostKeptIn 13 = .ok (.iload 6, 2) := by decide +kernel
theorem dX3_mostKeptIn_15 : decode cX3_mostKeptIn 15 = .ok (.iconst 1, 1) := by decide +kernel
theorem dX3_mostKeptIn_16 : decode cX3_mostKeptIn 16 = .ok (.iadd, 1) := by decide +kernel
theorem dX3_mostKeptIn_17 : decode cX3_mostKeptIn 17 = .ok (.istore 7, 2) := by decide +kernel
theorem dX3_mostKeptIn_19 : decode cX3_mostKeptIn 19 = .ok (.iload 7, 2) := by decide +kernel
theorem dX3_mostKeptIn_21 : decode cX3_mostKeptIn 21 = .ok (.bipush 8, 2) := by decide +kernel
theorem dX3_mostKeptIn_23 : decode cX3_mostKeptIn 23 = .ok (.if_icmp .ge 99, 3) := by decide +kernel
theorem dX3_mostKeptIn_26 : decode cX3_mostKeptIn 26 = .ok (.iload_n 2, 1) := by decide +kernel
theorem dX3_mostKeptIn_27 : decode cX3_mostKeptIn 27 = .ok (.iload 6, 2) := by decide +kernel
theorem dX3_mostKeptIn_29 : decode cX3_mostKeptIn 29 = .ok (.invokestatic 18, 3) := by decide +kernel
theorem dX3_mostKeptIn_32 : decode cX3_mostKeptIn 32 = .ok (.ifCond .eq 84, 3) := by decide +kernel
theorem dX3_mostKeptIn_35 : decode cX3_mostKeptIn 35 = .ok (.iload_n 2, 1) := by decide +kernel
theorem dX3_mostKeptIn_36 : decode cX3_mostKeptIn 36 = .ok (.aload_n 1, 1) := by decide +kernel
theorem dX3_mostKeptIn_37 : decode cX3_mostKeptIn 37 = .ok (.iload 6, 2) := by decide +kernel
theorem dX3_mostKeptIn_39 : decode cX3_mostKeptIn 39 = .ok (.iaload, 1) := by decide +kernel
theorem dX3_mostKeptIn_40 : decode cX3_mostKeptIn 40 = .ok (.iand, 1) := by decide +kernel
theorem dX3_mostKeptIn_41 : decode cX3_mostKeptIn 41 = .ok (.iload 7, 2) := by decide +kernel
theorem dX3_mostKeptIn_43 : decode cX3_mostKeptIn 43 = .ok (.invokestatic 18, 3) := by decide +kernel
theorem dX3_mostKeptIn_46 : decode cX3_mostKeptIn 46 = .ok (.ifCond .eq 70, 3) := by decide +kernel
theorem dX3_mostKeptIn_49 : decode cX3_mostKeptIn 49 = .ok (.iload 4, 2) := by decide +kernel
theorem dX3_mostKeptIn_51 : decode cX3_mostKeptIn 51 = .ok (.aload_n 3, 1) := by decide +kernel
theorem dX3_mostKeptIn_52 : decode cX3_mostKeptIn 52 = .ok (.getfield 64, 3) := by decide +kernel
theorem dX3_mostKeptIn_55 : decode cX3_mostKeptIn 55 = .ok (.iload 6, 2) := by decide +kernel
theorem dX3_mostKeptIn_57 : decode cX3_mostKeptIn 57 = .ok (.iaload, 1) := by decide +kernel
theorem dX3_mostKeptIn_58 : decode cX3_mostKeptIn 58 = .ok (.if_icmp .gt 7, 3) := by decide +kernel
theorem dX3_mostKeptIn_61 : decode cX3_mostKeptIn 61 = .ok (.iconst 1, 1) := by decide +kernel
theorem dX3_mostKeptIn_62 : decode cX3_mostKeptIn 62 = .ok (.goto 4, 3) := by decide +kernel
theorem dX3_mostKeptIn_65 : decode cX3_mostKeptIn 65 = .ok (.iconst 0, 1) := by decide +kernel
theorem dX3_mostKeptIn_66 : decode cX3_mostKeptIn 66 = .ok (.iload 4, 2) := by decide +kernel
theorem dX3_mostKeptIn_68 : decode cX3_mostKeptIn 68 = .ok (.aload_n 3, 1) := by decide +kernel
theorem dX3_mostKeptIn_69 : decode cX3_mostKeptIn 69 = .ok (.getfield 64, 3) := by decide +kernel
theorem dX3_mostKeptIn_72 : decode cX3_mostKeptIn 72 = .ok (.iload 7, 2) := by decide +kernel
theorem dX3_mostKeptIn_74 : decode cX3_mostKeptIn 74 = .ok (.iaload, 1) := by decide +kernel
theorem dX3_mostKeptIn_75 : decode cX3_mostKeptIn 75 = .ok (.if_icmp .gt 7, 3) := by decide +kernel
theorem dX3_mostKeptIn_78 : decode cX3_mostKeptIn 78 = .ok (.iconst 1, 1) := by decide +kernel
theorem dX3_mostKeptIn_79 : decode cX3_mostKeptIn 79 = .ok (.goto 4, 3) := by decide +kernel
theorem dX3_mostKeptIn_82 : decode cX3_mostKeptIn 82 = .ok (.iconst 0, 1) := by decide +kernel
theorem dX3_mostKeptIn_83 : decode cX3_mostKeptIn 83 = .ok (.iadd, 1) := by decide +kernel
theorem dX3_mostKeptIn_84 : decode cX3_mostKeptIn 84 = .ok (.istore 8, 2) := by decide +kernel
theorem dX3_mostKeptIn_86 : decode cX3_mostKeptIn 86 = .ok (.iload 5, 2) := by decide +kernel
theorem dX3_mostKeptIn_88 : decode cX3_mostKeptIn 88 = .ok (.iload 8, 2) := by decide +kernel
theorem dX3_mostKeptIn_90 : decode cX3_mostKeptIn 90 = .ok (.aload_n 0, 1) := by decide +kernel
theorem dX3_mostKeptIn_91 : decode cX3_mostKeptIn 91 = .ok (.getfield 15, 3) := by decide +kernel
theorem dX3_mostKeptIn_94 : decode cX3_mostKeptIn 94 = .ok (.iload_n 2, 1) := by decide +kernel
theorem dX3_mostKeptIn_95 : decode cX3_mostKeptIn 95 = .ok (.iconst 1, 1) := by decide +kernel
theorem dX3_mostKeptIn_96 : decode cX3_mostKeptIn 96 = .ok (.iload 6, 2) := by decide +kernel
theorem dX3_mostKeptIn_98 : decode cX3_mostKeptIn 98 = .ok (.ishl, 1) := by decide +kernel
theorem dX3_mostKeptIn_99 : decode cX3_mostKeptIn 99 = .ok (.iconst (-1), 1) := by decide +kernel
theorem dX3_mostKeptIn_100 : decode cX3_mostKeptIn 100 = .ok (.ixor, 1) := by decide +kernel
theorem dX3_mostKeptIn_101 : decode cX3_mostKeptIn 101 = .ok (.iand, 1) := by decide +kernel
theorem dX3_mostKeptIn_102 : decode cX3_mostKeptIn 102 = .ok (.iconst 1, 1) := by decide +kernel
theorem dX3_mostKeptIn_103 : decode cX3_mostKeptIn 103 = .ok (.iload 7, 2) := by decide +kernel
theorem dX3_mostKeptIn_105 : decode cX3_mostKeptIn 105 = .ok (.ishl, 1) := by decide +kernel
theorem dX3_mostKeptIn_106 : decode cX3_mostKeptIn 106 = .ok (.iconst (-1), 1) := by decide +kernel
theorem dX3_mostKeptIn_107 : decode cX3_mostKeptIn 107 = .ok (.ixor, 1) := by decide +kernel
theorem dX3_mostKeptIn_108 : decode cX3_mostKeptIn 108 = .ok (.iand, 1) := by decide +kernel
theorem dX3_mostKeptIn_109 : decode cX3_mostKeptIn 109 = .ok (.iaload, 1) := by decide +kernel
theorem dX3_mostKeptIn_110 : decode cX3_mostKeptIn 110 = .ok (.iadd, 1) := by decide +kernel
theorem dX3_mostKeptIn_111 : decode cX3_mostKeptIn 111 = .ok (.invokestatic 30, 3) := by decide +kernel
theorem dX3_mostKeptIn_114 : decode cX3_mostKeptIn 114 = .ok (.istore 5, 2) := by decide +kernel
theorem dX3_mostKeptIn_116 : decode cX3_mostKeptIn 116 = .ok (.iinc 7 1, 3) := by decide +kernel
theorem dX3_mostKeptIn_119 : decode cX3_mostKeptIn 119 = .ok (.goto (-100), 3) := by decide +kernel
theorem dX3_mostKeptIn_122 : decode cX3_mostKeptIn 122 = .ok (.iinc 6 1, 3) := by decide +kernel
theorem dX3_mostKeptIn_125 : decode cX3_mostKeptIn 125 = .ok (.goto (-119), 3) := by decide +kernel
theorem dX3_mostKeptIn_128 : decode cX3_mostKeptIn 128 = .ok (.iload 5, 2) := by decide +kernel
theorem dX3_mostKeptIn_130 : decode cX3_mostKeptIn 130 = .ok (.ireturn, 1) := by decide +kernel
theorem dX3_leastCoins_0 : decode cX3_leastCoins 0 = .ok (.aload_n 0, 1) := by decide +kernel
theorem dX3_leastCoins_1 : decode cX3_leastCoins 1 = .ok (.getfield 15, 3) := by decide +kernel
theorem dX3_leastCoins_4 : decode cX3_leastCoins 4 = .ok (.iconst 0, 1) := by decide +kernel
theorem dX3_leastCoins_5 : decode cX3_leastCoins 5 = .ok (.iconst 0, 1) := by decide +kernel
theorem dX3_leastCoins_6 : decode cX3_leastCoins 6 = .ok (.iastore, 1) := by decide +kernel
theorem dX3_leastCoins_7 : decode cX3_leastCoins 7 = .ok (.iconst 1, 1) := by decide +kernel
theorem dX3_leastCoins_8 : decode cX3_leastCoins 8 = .ok (.istore_n 3, 1) := by decide +kernel
theorem dX3_leastCoins_9 : decode cX3_leastCoins 9 = .ok (.iload_n 3, 1) := by decide +kernel
theorem dX3_leastCoins_10 : decode cX3_leastCoins 10 = .ok (.iload_n 2, 1) := by decide +kernel
theorem dX3_leastCoins_11 : decode cX3_leastCoins 11 = .ok (.if_icmp .gt 36, 3) := by decide +kernel
theorem dX3_leastCoins_14 : decode cX3_leastCoins 14 = .ok (.iload_n 3, 1) := by decide +kernel
theorem dX3_leastCoins_15 : decode cX3_leastCoins 15 = .ok (.sipush 256, 3) := by decide +kernel
theorem dX3_leastCoins_18 : decode cX3_leastCoins 18 = .ok (.if_icmp .ge 29, 3) := by decide +kernel
theorem dX3_leastCoins_21 : decode cX3_leastCoins 21 = .ok (.iload_n 3, 1) := by decide +kernel
theorem dX3_leastCoins_22 : decode cX3_leastCoins 22 = .ok (.iload_n 2, 1) := by decide +kernel
theorem dX3_leastCoins_23 : decode cX3_leastCoins 23 = .ok (.iconst (-1), 1) := by decide +kernel
theorem dX3_leastCoins_24 : decode cX3_leastCoins 24 = .ok (.ixor, 1) := by decide +kernel
theorem dX3_leastCoins_25 : decode cX3_leastCoins 25 = .ok (.iand, 1) := by decide +kernel
theorem dX3_leastCoins_26 : decode cX3_leastCoins 26 = .ok (.ifCond .ne 15, 3) := by decide +kernel
theorem dX3_leastCoins_29 : decode cX3_leastCoins 29 = .ok (.aload_n 0, 1) := by decide +kernel
theorem dX3_leastCoins_30 : decode cX3_leastCoins 30 = .ok (.getfield 15, 3) := by decide +kernel
theorem dX3_leastCoins_33 : decode cX3_leastCoins 33 = .ok (.iload_n 3, 1) := by decide +kernel
theorem dX3_leastCoins_34 : decode cX3_leastCoins 34 = .ok (.aload_n 0, 1) := by decide +kernel
theorem dX3_leastCoins_35 : decode cX3_leastCoins 35 = .ok (.aload_n 1, 1) := by decide +kernel
theorem dX3_leastCoins_36 : decode cX3_leastCoins 36 = .ok (.iload_n 3, 1) := by decide +kernel
theorem dX3_leastCoins_37 : decode cX3_leastCoins 37 = .ok (.invokevirtual 67, 3) := by decide +kernel
theorem dX3_leastCoins_40 : decode cX3_leastCoins 40 = .ok (.iastore, 1) := by decide +kernel
theorem dX3_leastCoins_41 : decode cX3_leastCoins 41 = .ok (.iinc 3 1, 3) := by decide +kernel
theorem dX3_leastCoins_44 : decode cX3_leastCoins 44 = .ok (.goto (-35), 3) := by decide +kernel
theorem dX3_leastCoins_47 : decode cX3_leastCoins 47 = .ok (.aload_n 0, 1) := by decide +kernel
theorem dX3_leastCoins_48 : decode cX3_leastCoins 48 = .ok (.getfield 15, 3) := by decide +kernel
theorem dX3_leastCoins_51 : decode cX3_leastCoins 51 = .ok (.iload_n 2, 1) := by decide +kernel
theorem dX3_leastCoins_52 : decode cX3_leastCoins 52 = .ok (.sipush 255, 3) := by decide +kernel
theorem dX3_leastCoins_55 : decode cX3_leastCoins 55 = .ok (.iand, 1) := by decide +kernel
theorem dX3_leastCoins_56 : decode cX3_leastCoins 56 = .ok (.iaload, 1) := by decide +kernel
theorem dX3_leastCoins_57 : decode cX3_leastCoins 57 = .ok (.istore_n 3, 1) := by decide +kernel
theorem dX3_leastCoins_58 : decode cX3_leastCoins 58 = .ok (.iload_n 3, 1) := by decide +kernel
theorem dX3_leastCoins_59 : decode cX3_leastCoins 59 = .ok (.ldc 70, 2) := by decide +kernel
theorem dX3_leastCoins_61 : decode cX3_leastCoins 61 = .ok (.if_icmp .ge 7, 3) := by decide +kernel
theorem dX3_leastCoins_64 : decode cX3_leastCoins 64 = .ok (.iload_n 3, 1) := by decide +kernel
theorem dX3_leastCoins_65 : decode cX3_leastCoins 65 = .ok (.goto 5, 3) := by decide +kernel
theorem dX3_leastCoins_68 : decode cX3_leastCoins 68 = .ok (.bipush (-2), 2) := by decide +kernel
theorem dX3_leastCoins_70 : decode cX3_leastCoins 70 = .ok (.ireturn, 1) := by decide +kernel
theorem dX3_leastCoinsIn_0 : decode cX3_leastCoinsIn 0 = .ok (.iload_n 2, 1) := by decide +kernel
theorem dX3_leastCoinsIn_1 : decode cX3_leastCoinsIn 1 = .ok (.invokestatic 26, 3) := by decide +kernel
theorem dX3_leastCoinsIn_4 : decode cX3_leastCoinsIn 4 = .ok (.istore_n 3, 1) := by decide +kernel
theorem dX3_leastCoinsIn_5 : decode cX3_leastCoinsIn 5 = .ok (.ldc 70, 2) := by decide +kernel
theorem dX3_leastCoinsIn_7 : decode cX3_leastCoinsIn 7 = .ok (.istore 4, 2) := by decide +kernel
theorem dX3_leastCoinsIn_9 : decode cX3_leastCoinsIn 9 = .ok (.iload_n 3, 1) := by decide +kernel
theorem dX3_leastCoinsIn_10 : decode cX3_leastCoinsIn 10 = .ok (.iconst 1, 1) := by decide +kernel
theorem dX3_leastCoinsIn_11 : decode cX3_leastCoinsIn 11 = .ok (.iadd, 1) := by decide +kernel
theorem dX3_leastCoinsIn_12 : decode cX3_leastCoinsIn 12 = .ok (.istore 5, 2) := by decide +kernel
theorem dX3_leastCoinsIn_14 : decode cX3_leastCoinsIn 14 = .ok (.iload_n 3, 1) := by decide +kernel
theorem dX3_leastCoinsIn_15 : decode cX3_leastCoinsIn 15 = .ok (.iconst (-1), 1) := by decide +kernel
theorem dX3_leastCoinsIn_16 : decode cX3_leastCoinsIn 16 = .ok (.if_icmp .eq 70, 3) := by decide +kernel
theorem dX3_leastCoinsIn_19 : decode cX3_leastCoinsIn 19 = .ok (.iload 5, 2) := by decide +kernel
theorem dX3_leastCoinsIn_21 : decode cX3_leastCoinsIn 21 = .ok (.bipush 8, 2) := by decide +kernel
theorem dX3_leastCoinsIn_23 : decode cX3_leastCoinsIn 23 = .ok (.if_icmp .ge 63, 3) := by decide +kernel
theorem dX3_leastCoinsIn_26 : decode cX3_leastCoinsIn 26 = .ok (.aload_n 1, 1) := by decide +kernel
theorem dX3_leastCoinsIn_27 : decode cX3_leastCoinsIn 27 = .ok (.iload_n 3, 1) := by decide +kernel
theorem dX3_leastCoinsIn_28 : decode cX3_leastCoinsIn 28 = .ok (.bipush 8, 2) := by decide +kernel
theorem dX3_leastCoinsIn_30 : decode cX3_leastCoinsIn 30 = .ok (.imul, 1) := by decide +kernel
theorem dX3_leastCoinsIn_31 : decode cX3_leastCoinsIn 31 = .ok (.iload 5, 2) := by decide +kernel
theorem dX3_leastCoinsIn_33 : decode cX3_leastCoinsIn 33 = .ok (.iadd, 1) := by decide +kernel
theorem dX3_leastCoinsIn_34 : decode cX3_leastCoinsIn 34 = .ok (.iaload, 1) := by decide +kernel
theorem dX3_leastCoinsIn_35 : decode cX3_leastCoinsIn 35 = .ok (.istore 6, 2) := by decide +kernel
theorem dX3_leastCoinsIn_37 : decode cX3_leastCoinsIn 37 = .ok (.iload_n 2, 1) := by decide +kernel
theorem dX3_leastCoinsIn_38 : decode cX3_leastCoinsIn 38 = .ok (.iload 5, 2) := by decide +kernel
theorem dX3_leastCoinsIn_40 : decode cX3_leastCoinsIn 40 = .ok (.invokestatic 18, 3) := by decide +kernel
theorem dX3_leastCoinsIn_43 : decode cX3_leastCoinsIn 43 = .ok (.ifCond .eq 37, 3) := by decide +kernel
theorem dX3_leastCoinsIn_46 : decode cX3_leastCoinsIn 46 = .ok (.iload 6, 2) := by decide +kernel
theorem dX3_leastCoinsIn_48 : decode cX3_leastCoinsIn 48 = .ok (.ifCond .lt 32, 3) := by decide +kernel
theorem dX3_leastCoinsIn_51 : decode cX3_leastCoinsIn 51 = .ok (.iload 4, 2) := by decide +kernel
theorem dX3_leastCoinsIn_53 : decode cX3_leastCoinsIn 53 = .ok (.iload 6, 2) := by decide +kernel
theorem dX3_leastCoinsIn_55 : decode cX3_leastCoinsIn 55 = .ok (.aload_n 0, 1) := by decide +kernel
theorem dX3_leastCoinsIn_56 : decode cX3_leastCoinsIn 56 = .ok (.getfield 15, 3) := by decide +kernel
theorem dX3_leastCoinsIn_59 : decode cX3_leastCoinsIn 59 = .ok (.iload_n 2, 1) := by decide +kernel
theorem dX3_leastCoinsIn_60 : decode cX3_leastCoinsIn 60 = .ok (.iconst 1, 1) := by decide +kernel
theorem dX3_leastCoinsIn_61 : decode cX3_leastCoinsIn 61 = .ok (.iload_n 3, 1) := by decide +kernel
theorem dX3_leastCoinsIn_62 : decode cX3_leastCoinsIn 62 = .ok (.ishl, 1) := by decide +kernel
theorem dX3_leastCoinsIn_63 : decode cX3_leastCoinsIn 63 = .ok (.iconst (-1), 1) := by decide +kernel
theorem dX3_leastCoinsIn_64 : decode cX3_leastCoinsIn 64 = .ok (.ixor, 1) := by decide +kernel
theorem dX3_leastCoinsIn_65 : decode cX3_leastCoinsIn 65 = .ok (.iand, 1) := by decide +kernel
theorem dX3_leastCoinsIn_66 : decode cX3_leastCoinsIn 66 = .ok (.iconst 1, 1) := by decide +kernel
theorem dX3_leastCoinsIn_67 : decode cX3_leastCoinsIn 67 = .ok (.iload 5, 2) := by decide +kernel
theorem dX3_leastCoinsIn_69 : decode cX3_leastCoinsIn 69 = .ok (.ishl, 1) := by decide +kernel
theorem dX3_leastCoinsIn_70 : decode cX3_leastCoinsIn 70 = .ok (.iconst (-1), 1) := by decide +kernel
theorem dX3_leastCoinsIn_71 : decode cX3_leastCoinsIn 71 = .ok (.ixor, 1) := by decide +kernel
theorem dX3_leastCoinsIn_72 : decode cX3_leastCoinsIn 72 = .ok (.iand, 1) := by decide +kernel
theorem dX3_leastCoinsIn_73 : decode cX3_leastCoinsIn 73 = .ok (.iaload, 1) := by decide +kernel
theorem dX3_leastCoinsIn_74 : decode cX3_leastCoinsIn 74 = .ok (.iadd, 1) := by decide +kernel
theorem dX3_leastCoinsIn_75 : decode cX3_leastCoinsIn 75 = .ok (.invokestatic 71, 3) := by decide +kernel
theorem dX3_leastCoinsIn_78 : decode cX3_leastCoinsIn 78 = .ok (.istore 4, 2) := by decide +kernel
theorem dX3_leastCoinsIn_80 : decode cX3_leastCoinsIn 80 = .ok (.iinc 5 1, 3) := by decide +kernel
theorem dX3_leastCoinsIn_83 : decode cX3_leastCoinsIn 83 = .ok (.goto (-69), 3) := by decide +kernel
theorem dX3_leastCoinsIn_86 : decode cX3_leastCoinsIn 86 = .ok (.iload 4, 2) := by decide +kernel
theorem dX3_leastCoinsIn_88 : decode cX3_leastCoinsIn 88 = .ok (.ireturn, 1) := by decide +kernel
theorem dX3_canAll_0 : decode cX3_canAll 0 = .ok (.iload_n 1, 1) := by decide +kernel
theorem dX3_canAll_1 : decode cX3_canAll 1 = .ok (.invokestatic 26, 3) := by decide +kernel
theorem dX3_canAll_4 : decode cX3_canAll 4 = .ok (.istore_n 2, 1) := by decide +kernel
theorem dX3_canAll_5 : decode cX3_canAll 5 = .ok (.iload_n 2, 1) := by decide +kernel
theorem dX3_canAll_6 : decode cX3_canAll 6 = .ok (.iconst (-1), 1) := by decide +kernel
theorem dX3_canAll_7 : decode cX3_canAll 7 = .ok (.if_icmp .ne 5, 3) := by decide +kernel
theorem dX3_canAll_10 : decode cX3_canAll 10 = .ok (.iconst 1, 1) := by decide +kernel
theorem dX3_canAll_11 : decode cX3_canAll 11 = .ok (.ireturn, 1) := by decide +kernel
theorem dX3_canAll_12 : decode cX3_canAll 12 = .ok (.iload_n 1, 1) := by decide +kernel
theorem dX3_canAll_13 : decode cX3_canAll 13 = .ok (.iconst 1, 1) := by decide +kernel
theorem dX3_canAll_14 : decode cX3_canAll 14 = .ok (.iload_n 2, 1) := by decide +kernel
theorem dX3_canAll_15 : decode cX3_canAll 15 = .ok (.ishl, 1) := by decide +kernel
theorem dX3_canAll_16 : decode cX3_canAll 16 = .ok (.iconst (-1), 1) := by decide +kernel
theorem dX3_canAll_17 : decode cX3_canAll 17 = .ok (.ixor, 1) := by decide +kernel
theorem dX3_canAll_18 : decode cX3_canAll 18 = .ok (.iand, 1) := by decide +kernel
theorem dX3_canAll_19 : decode cX3_canAll 19 = .ok (.istore_n 3, 1) := by decide +kernel
theorem dX3_canAll_20 : decode cX3_canAll 20 = .ok (.iload_n 2, 1) := by decide +kernel
theorem dX3_canAll_21 : decode cX3_canAll 21 = .ok (.iconst 1, 1) := by decide +kernel
theorem dX3_canAll_22 : decode cX3_canAll 22 = .ok (.iadd, 1) := by decide +kernel
theorem dX3_canAll_23 : decode cX3_canAll 23 = .ok (.istore 4, 2) := by decide +kernel
theorem dX3_canAll_25 : decode cX3_canAll 25 = .ok (.iload 4, 2) := by decide +kernel
theorem dX3_canAll_27 : decode cX3_canAll 27 = .ok (.bipush 8, 2) := by decide +kernel
theorem dX3_canAll_29 : decode cX3_canAll 29 = .ok (.if_icmp .ge 39, 3) := by decide +kernel
theorem dX3_canAll_32 : decode cX3_canAll 32 = .ok (.iload_n 3, 1) := by decide +kernel
theorem dX3_canAll_33 : decode cX3_canAll 33 = .ok (.aload_n 0, 1) := by decide +kernel
theorem dX3_canAll_34 : decode cX3_canAll 34 = .ok (.iload_n 2, 1) := by decide +kernel
theorem dX3_canAll_35 : decode cX3_canAll 35 = .ok (.iaload, 1) := by decide +kernel
theorem dX3_canAll_36 : decode cX3_canAll 36 = .ok (.iand, 1) := by decide +kernel
theorem dX3_canAll_37 : decode cX3_canAll 37 = .ok (.iload 4, 2) := by decide +kernel
theorem dX3_canAll_39 : decode cX3_canAll 39 = .ok (.invokestatic 18, 3) := by decide +kernel
theorem dX3_canAll_42 : decode cX3_canAll 42 = .ok (.ifCond .eq 20, 3) := by decide +kernel
theorem dX3_canAll_45 : decode cX3_canAll 45 = .ok (.aload_n 0, 1) := by decide +kernel
theorem dX3_canAll_46 : decode cX3_canAll 46 = .ok (.iload_n 3, 1) := by decide +kernel
theorem dX3_canAll_47 : decode cX3_canAll 47 = .ok (.iconst 1, 1) := by decide +kernel
theorem dX3_canAll_48 : decode cX3_canAll 48 = .ok (.iload 4, 2) := by decide +kernel
theorem dX3_canAll_50 : decode cX3_canAll 50 = .ok (.ishl, 1) := by decide +kernel
theorem dX3_canAll_51 : decode cX3_canAll 51 = .ok (.iconst (-1), 1) := by decide +kernel
theorem dX3_canAll_52 : decode cX3_canAll 52 = .ok (.ixor, 1) := by decide +kernel
theorem dX3_canAll_53 : decode cX3_canAll 53 = .ok (.iand, 1) := by decide +kernel
theorem dX3_canAll_54 : decode cX3_canAll 54 = .ok (.invokestatic 74, 3) := by decide +kernel
theorem dX3_canAll_57 : decode cX3_canAll 57 = .ok (.ifCond .eq 5, 3) := by decide +kernel
theorem dX3_canAll_60 : decode cX3_canAll 60 = .ok (.iconst 1, 1) := by decide +kernel
theorem dX3_canAll_61 : decode cX3_canAll 61 = .ok (.ireturn, 1) := by decide +kernel
theorem dX3_canAll_62 : decode cX3_canAll 62 = .ok (.iinc 4 1, 3) := by decide +kernel
theorem dX3_canAll_65 : decode cX3_canAll 65 = .ok (.goto (-40), 3) := by decide +kernel
theorem dX3_canAll_68 : decode cX3_canAll 68 = .ok (.iconst 0, 1) := by decide +kernel
theorem dX3_canAll_69 : decode cX3_canAll 69 = .ok (.ireturn, 1) := by decide +kernel
theorem dX4_init_0 : decode cX4_init 0 = .ok (.aload_n 0, 1) := by decide +kernel
theorem dX4_init_1 : decode cX4_init 1 = .ok (.invokespecial 3, 3) := by decide +kernel
theorem dX4_init_4 : decode cX4_init 4 = .ok (.aload_n 0, 1) := by decide +kernel
theorem dX4_init_5 : decode cX4_init 5 = .ok (.bipush 64, 2) := by decide +kernel
theorem dX4_init_7 : decode cX4_init 7 = .ok (.newarray .int, 2) := by decide +kernel
theorem dX4_init_9 : decode cX4_init 9 = .ok (.putfield 9, 3) := by decide +kernel
theorem dX4_init_12 : decode cX4_init 12 = .ok (.aload_n 0, 1) := by decide +kernel
theorem dX4_init_13 : decode cX4_init 13 = .ok (.bipush 8, 2) := by decide +kernel
theorem dX4_init_15 : decode cX4_init 15 = .ok (.newarray .int, 2) := by decide +kernel
theorem dX4_init_17 : decode cX4_init 17 = .ok (.putfield 15, 3) := by decide +kernel
theorem dX4_init_20 : decode cX4_init 20 = .ok (.aload_n 0, 1) := by decide +kernel
theorem dX4_init_21 : decode cX4_init 21 = .ok (.bipush 80, 2) := by decide +kernel
theorem dX4_init_23 : decode cX4_init 23 = .ok (.newarray .int, 2) := by decide +kernel
theorem dX4_init_25 : decode cX4_init 25 = .ok (.putfield 18, 3) := by decide +kernel
theorem dX4_init_28 : decode cX4_init 28 = .ok (.aload_n 0, 1) := by decide +kernel
theorem dX4_init_29 : decode cX4_init 29 = .ok (.bipush 10, 2) := by decide +kernel
theorem dX4_init_31 : decode cX4_init 31 = .ok (.newarray .int, 2) := by decide +kernel
theorem dX4_init_33 : decode cX4_init 33 = .ok (.putfield 21, 3) := by decide +kernel
theorem dX4_init_36 : decode cX4_init 36 = .ok (.aload_n 0, 1) := by decide +kernel
theorem dX4_init_37 : decode cX4_init 37 = .ok (.iconst 0, 1) := by decide +kernel
theorem dX4_init_38 : decode cX4_init 38 = .ok (.putfield 24, 3) := by decide +kernel
theorem dX4_init_41 : decode cX4_init 41 = .ok (.aload_n 0, 1) := by decide +kernel
theorem dX4_init_42 : decode cX4_init 42 = .ok (.aload_n 1, 1) := by decide +kernel
theorem dX4_init_43 : decode cX4_init 43 = .ok (.putfield 28, 3) := by decide +kernel
theorem dX4_init_46 : decode cX4_init 46 = .ok (.aload_n 0, 1) := by decide +kernel
theorem dX4_init_47 : decode cX4_init 47 = .ok (.aload_n 2, 1) := by decide +kernel
theorem dX4_init_48 : decode cX4_init 48 = .ok (.putfield 32, 3) := by decide +kernel
theorem dX4_init_51 : decode cX4_init 51 = .ok (.return_, 1) := by decide +kernel
theorem dX4_leastCoins_0 : decode cX4_leastCoins 0 = .ok (.aload_n 0, 1) := by decide +kernel
theorem dX4_leastCoins_1 : decode cX4_leastCoins 1 = .ok (.getfield 28, 3) := by decide +kernel
theorem dX4_leastCoins_4 : decode cX4_leastCoins 4 = .ok (.getfield 36, 3) := by decide +kernel
theorem dX4_leastCoins_7 : decode cX4_leastCoins 7 = .ok (.getfield 42, 3) := by decide +kernel
theorem dX4_leastCoins_10 : decode cX4_leastCoins 10 = .ok (.istore_n 3, 1) := by decide +kernel
theorem dX4_leastCoins_11 : decode cX4_leastCoins 11 = .ok (.iconst 0, 1) := by decide +kernel
theorem dX4_leastCoins_12 : decode cX4_leastCoins 12 = .ok (.istore 4, 2) := by decide +kernel
theorem dX4_leastCoins_14 : decode cX4_leastCoins 14 = .ok (.iload 4, 2) := by decide +kernel
theorem dX4_leastCoins_16 : decode cX4_leastCoins 16 = .ok (.iload_n 3, 1) := by decide +kernel
theorem dX4_leastCoins_17 : decode cX4_leastCoins 17 = .ok (.if_icmp .ge 83, 3) := by decide +kernel
theorem dX4_leastCoins_20 : decode cX4_leastCoins 20 = .ok (.iload 4, 2) := by decide +kernel
theorem dX4_leastCoins_22 : decode cX4_leastCoins 22 = .ok (.iconst 1, 1) := by decide +kernel
theorem dX4_leastCoins_23 : decode cX4_leastCoins 23 = .ok (.iadd, 1) := by decide +kernel
theorem dX4_leastCoins_24 : decode cX4_leastCoins 24 = .ok (.istore 5, 2) := by decide +kernel
theorem dX4_leastCoins_26 : decode cX4_leastCoins 26 = .ok (.iload 5, 2) := by decide +kernel
theorem dX4_leastCoins_28 : decode cX4_leastCoins 28 = .ok (.iload_n 3, 1) := by decide +kernel
theorem dX4_leastCoins_29 : decode cX4_leastCoins 29 = .ok (.if_icmp .ge 65, 3) := by decide +kernel
theorem dX4_leastCoins_32 : decode cX4_leastCoins 32 = .ok (.iload_n 1, 1) := by decide +kernel
theorem dX4_leastCoins_33 : decode cX4_leastCoins 33 = .ok (.iload 4, 2) := by decide +kernel
theorem dX4_leastCoins_35 : decode cX4_leastCoins 35 = .ok (.invokestatic 47, 3) := by decide +kernel
theorem dX4_leastCoins_38 : decode cX4_leastCoins 38 = .ok (.ifCond .eq 16, 3) := by decide +kernel
theorem dX4_leastCoins_41 : decode cX4_leastCoins 41 = .ok (.iload_n 1, 1) := by decide +kernel
theorem dX4_leastCoins_42 : decode cX4_leastCoins 42 = .ok (.iload 5, 2) := by decide +kernel
theorem dX4_leastCoins_44 : decode cX4_leastCoins 44 = .ok (.invokestatic 47, 3) := by decide +kernel
theorem dX4_leastCoins_47 : decode cX4_leastCoins 47 = .ok (.ifCond .eq 7, 3) := by decide +kernel
theorem dX4_leastCoins_50 : decode cX4_leastCoins 50 = .ok (.iconst 1, 1) := by decide +kernel
theorem dX4_leastCoins_51 : decode cX4_leastCoins 51 = .ok (.goto 4, 3) := by decide +kernel
theorem dX4_leastCoins_54 : decode cX4_leastCoins 54 = .ok (.iconst 0, 1) := by decide +kernel
theorem dX4_leastCoins_55 : decode cX4_leastCoins 55 = .ok (.istore 6, 2) := by decide +kernel
theorem dX4_leastCoins_57 : decode cX4_leastCoins 57 = .ok (.aload_n 0, 1) := by decide +kernel
theorem dX4_leastCoins_58 : decode cX4_leastCoins 58 = .ok (.getfield 9, 3) := by decide +kernel
theorem dX4_leastCoins_61 : decode cX4_leastCoins 61 = .ok (.iload 4, 2) := by decide +kernel
theorem dX4_leastCoins_63 : decode cX4_leastCoins 63 = .ok (.bipush 8, 2) := by decide +kernel
theorem dX4_leastCoins_65 : decode cX4_leastCoins 65 = .ok (.imul, 1) := by decide +kernel
theorem dX4_leastCoins_66 : decode cX4_leastCoins 66 = .ok (.iload 5, 2) := by decide +kernel
theorem dX4_leastCoins_68 : decode cX4_leastCoins 68 = .ok (.iadd, 1) := by decide +kernel
theorem dX4_leastCoins_69 : decode cX4_leastCoins 69 = .ok (.iload 6, 2) := by decide +kernel
theorem dX4_leastCoins_71 : decode cX4_leastCoins 71 = .ok (.ifCond .eq 15, 3) := by decide +kernel
theorem dX4_leastCoins_74 : decode cX4_leastCoins 74 = .ok (.aload_n 0, 1) := by decide +kernel
theorem dX4_leastCoins_75 : decode cX4_leastCoins 75 = .ok (.iload 4, 2) := by decide +kernel
theorem dX4_leastCoins_77 : decode cX4_leastCoins 77 = .ok (.iload 5, 2) := by decide +kernel
theorem dX4_leastCoins_79 : decode cX4_leastCoins 79 = .ok (.iload_n 2, 1) := by decide +kernel
theorem dX4_leastCoins_80 : decode cX4_leastCoins 80 = .ok (.invokevirtual 51, 3) := by decide +kernel
theorem dX4_leastCoins_83 : decode cX4_leastCoins 83 = .ok (.goto 4, 3) := by decide +kernel
theorem dX4_leastCoins_86 : decode cX4_leastCoins 86 = .ok (.iconst (-1), 1) := by decide +kernel
theorem dX4_leastCoins_87 : decode cX4_leastCoins 87 = .ok (.iastore, 1) := by decide +kernel
theorem dX4_leastCoins_88 : decode cX4_leastCoins 88 = .ok (.iinc 5 1, 3) := by decide +kernel
theorem dX4_leastCoins_91 : decode cX4_leastCoins 91 = .ok (.goto (-65), 3) := by decide +kernel
theorem dX4_leastCoins_94 : decode cX4_leastCoins 94 = .ok (.iinc 4 1, 3) := by decide +kernel
theorem dX4_leastCoins_97 : decode cX4_leastCoins 97 = .ok (.goto (-83), 3) := by decide +kernel
theorem dX4_leastCoins_100 : decode cX4_leastCoins 100 = .ok (.aload_n 0, 1) := by decide +kernel
theorem dX4_leastCoins_101 : decode cX4_leastCoins 101 = .ok (.getfield 32, 3) := by decide +kernel
theorem dX4_leastCoins_104 : decode cX4_leastCoins 104 = .ok (.aload_n 0, 1) := by decide +kernel
theorem dX4_leastCoins_105 : decode cX4_leastCoins 105 = .ok (.getfield 9, 3) := by decide +kernel
theorem dX4_leastCoins_108 : decode cX4_leastCoins 108 = .ok (.iload_n 1, 1) := by decide +kernel
theorem dX4_leastCoins_109 : decode cX4_leastCoins 109 = .ok (.invokevirtual 55, 3) := by decide +kernel
theorem dX4_leastCoins_112 : decode cX4_leastCoins 112 = .ok (.ireturn, 1) := by decide +kernel
theorem dX4_coinsFor_0 : decode cX4_coinsFor 0 = .ok (.aload_n 0, 1) := by decide +kernel
theorem dX4_coinsFor_1 : decode cX4_coinsFor 1 = .ok (.getfield 28, 3) := by decide +kernel
theorem dX4_coinsFor_4 : decode cX4_coinsFor 4 = .ok (.getfield 36, 3) := by decide +kernel
theorem dX4_coinsFor_7 : decode cX4_coinsFor 7 = .ok (.astore 4, 2) := by decide +kernel
theorem dX4_coinsFor_9 : decode cX4_coinsFor 9 = .ok (.iconst (-1), 1) := by decide +kernel
theorem dX4_coinsFor_10 : decode cX4_coinsFor 10 = .ok (.istore 5, 2) := by decide +kernel
theorem dX4_coinsFor_12 : decode cX4_coinsFor 12 = .ok (.iconst 0, 1) := by decide +kernel
theorem dX4_coinsFor_13 : decode cX4_coinsFor 13 = .ok (.istore 6, 2) := by decide +kernel
theorem dX4_coinsFor_15 : decode cX4_coinsFor 15 = .ok (.iload 6, 2) := by decide +kernel
theorem dX4_coinsFor_17 : decode cX4_coinsFor 17 = .ok (.aload 4, 2) := by decide +kernel
theorem dX4_coinsFor_19 : decode cX4_coinsFor 19 = .ok (.getfield 61, 3) := by decide +kernel
theorem dX4_coinsFor_22 : decode cX4_coinsFor 22 = .ok (.if_icmp .ge 142, 3) := by decide +kernel
theorem dX4_coinsFor_25 : decode cX4_coinsFor 25 = .ok (.aload 4, 2) := by decide +kernel
theorem dX4_coinsFor_27 : decode cX4_coinsFor 27 = .ok (.iload 6, 2) := by decide +kernel
theorem dX4_coinsFor_29 : decode cX4_coinsFor 29 = .ok (.aload 4, 2) := by decide +kernel
theorem dX4_coinsFor_31 : decode cX4_coinsFor 31 = .ok (.getfield 64, 3) := by decide +kernel
theorem dX4_coinsFor_34 : decode cX4_coinsFor 34 = .ok (.iload_n 1, 1) := by decide +kernel
theorem dX4_coinsFor_35 : decode cX4_coinsFor 35 = .ok (.iaload, 1) := by decide +kernel
theorem dX4_coinsFor_36 : decode cX4_coinsFor 36 = .ok (.aload 4, 2) := by decide +kernel
theorem dX4_coinsFor_38 : decode cX4_coinsFor 38 = .ok (.getfield 64, 3) := by decide +kernel
theorem dX4_coinsFor_41 : decode cX4_coinsFor 41 = .ok (.iload_n 2, 1) := by decide +kernel
theorem dX4_coinsFor_42 : decode cX4_coinsFor 42 = .ok (.iaload, 1) := by decide +kernel
theorem dX4_coinsFor_43 : decode cX4_coinsFor 43 = .ok (.iload_n 3, 1) := by decide +kernel
theorem dX4_coinsFor_44 : decode cX4_coinsFor 44 = .ok (.invokevirtual 67, 3) := by decide +kernel
theorem dX4_coinsFor_47 : decode cX4_coinsFor 47 = .ok (.istore 7, 2) := by decide +kernel
theorem dX4_coinsFor_49 : decode cX4_coinsFor 49 = .ok (.aload_n 0, 1) := by decide +kernel
theorem dX4_coinsFor_50 : decode cX4_coinsFor 50 = .ok (.getfield 28, 3) := by decide +kernel
theorem dX4_coinsFor_53 : decode cX4_coinsFor 53 = .ok (.getfield 71, 3) := by decide +kernel
theorem dX4_coinsFor_56 : decode cX4_coinsFor 56 = .ok (.iload_n 1, 1) := by decide +kernel
theorem dX4_coinsFor_57 : decode cX4_coinsFor 57 = .ok (.iload 6, 2) := by decide +kernel
theorem dX4_coinsFor_59 : decode cX4_coinsFor 59 = .ok (.invokevirtual 75, 3) := by decide +kernel
theorem dX4_coinsFor_62 : decode cX4_coinsFor 62 = .ok (.ifCond .eq 7, 3) := by decide +kernel
theorem dX4_coinsFor_65 : decode cX4_coinsFor 65 = .ok (.iconst 0, 1) := by decide +kernel
theorem dX4_coinsFor_66 : decode cX4_coinsFor 66 = .ok (.goto 11, 3) := by decide +kernel
theorem dX4_coinsFor_69 : decode cX4_coinsFor 69 = .ok (.aload 4, 2) := by decide +kernel
theorem dX4_coinsFor_71 : decode cX4_coinsFor 71 = .ok (.getfield 80, 3) := by decide +kernel
theorem dX4_coinsFor_74 : decode cX4_coinsFor 74 = .ok (.iload 6, 2) := by decide +kernel
theorem dX4_coinsFor_76 : decode cX4_coinsFor 76 = .ok (.iaload, 1) := by decide +kernel
theorem dX4_coinsFor_77 : decode cX4_coinsFor 77 = .ok (.istore 8, 2) := by decide +kernel
theorem dX4_coinsFor_79 : decode cX4_coinsFor 79 = .ok (.iconst 0, 1) := by decide +kernel
theorem dX4_coinsFor_80 : decode cX4_coinsFor 80 = .ok (.istore 9, 2) := by decide +kernel
theorem dX4_coinsFor_82 : decode cX4_coinsFor 82 = .ok (.iload 9, 2) := by decide +kernel
theorem dX4_coinsFor_84 : decode cX4_coinsFor 84 = .ok (.aload 4, 2) := by decide +kernel
theorem dX4_coinsFor_86 : decode cX4_coinsFor 86 = .ok (.getfield 61, 3) := by decide +kernel
theorem dX4_coinsFor_89 : decode cX4_coinsFor 89 = .ok (.if_icmp .ge 69, 3) := by decide +kernel
theorem dX4_coinsFor_92 : decode cX4_coinsFor 92 = .ok (.iload 8, 2) := by decide +kernel
theorem dX4_coinsFor_94 : decode cX4_coinsFor 94 = .ok (.aload_n 0, 1) := by decide +kernel
theorem dX4_coinsFor_95 : decode cX4_coinsFor 95 = .ok (.getfield 28, 3) := by decide +kernel
theorem dX4_coinsFor_98 : decode cX4_coinsFor 98 = .ok (.getfield 71, 3) := by decide +kernel
theorem dX4_coinsFor_101 : decode cX4_coinsFor 101 = .ok (.iload_n 2, 1) := by decide +kernel
theorem dX4_coinsFor_102 : decode cX4_coinsFor 102 = .ok (.iload 9, 2) := by decide +kernel
theorem dX4_coinsFor_104 : decode cX4_coinsFor 104 = .ok (.invokevirtual 75, 3) := by decide +kernel
theorem dX4_coinsFor_107 : decode cX4_coinsFor 107 = .ok (.ifCond .eq 7, 3) := by decide +kernel
theorem dX4_coinsFor_110 : decode cX4_coinsFor 110 = .ok (.iconst 0, 1) := by decide +kernel
theorem dX4_coinsFor_111 : decode cX4_coinsFor 111 = .ok (.goto 11, 3) := by decide +kernel
theorem dX4_coinsFor_114 : decode cX4_coinsFor 114 = .ok (.aload 4, 2) := by decide +kernel
theorem dX4_coinsFor_116 : decode cX4_coinsFor 116 = .ok (.getfield 80, 3) := by decide +kernel
theorem dX4_coinsFor_119 : decode cX4_coinsFor 119 = .ok (.iload 9, 2) := by decide +kernel
theorem dX4_coinsFor_121 : decode cX4_coinsFor 121 = .ok (.iaload, 1) := by decide +kernel
theorem dX4_coinsFor_122 : decode cX4_coinsFor 122 = .ok (.iadd, 1) := by decide +kernel
theorem dX4_coinsFor_123 : decode cX4_coinsFor 123 = .ok (.istore 10, 2) := by decide +kernel
theorem dX4_coinsFor_125 : decode cX4_coinsFor 125 = .ok (.iload 7, 2) := by decide +kernel
theorem dX4_coinsFor_127 : decode cX4_coinsFor 127 = .ok (.iload 9, 2) := by decide +kernel
theorem dX4_coinsFor_129 : decode cX4_coinsFor 129 = .ok (.invokestatic 47, 3) := by decide +kernel
theorem dX4_coinsFor_132 : decode cX4_coinsFor 132 = .ok (.ifCond .eq 20, 3) := by decide +kernel
theorem dX4_coinsFor_135 : decode cX4_coinsFor 135 = .ok (.iload 5, 2) := by decide +kernel
theorem dX4_coinsFor_137 : decode cX4_coinsFor 137 = .ok (.iconst (-1), 1) := by decide +kernel
theorem dX4_coinsFor_138 : decode cX4_coinsFor 138 = .ok (.if_icmp .eq 10, 3) := by decide +kernel
theorem dX4_coinsFor_141 : decode cX4_coinsFor 141 = .ok (.iload 10, 2) := by decide +kernel
theorem dX4_coinsFor_143 : decode cX4_coinsFor 143 = .ok (.iload 5, 2) := by decide +kernel
theorem dX4_coinsFor_145 : decode cX4_coinsFor 145 = .ok (.if_icmp .ge 7, 3) := by decide +kernel
theorem dX4_coinsFor_148 : decode cX4_coinsFor 148 = .ok (.iload 10, 2) := by decide +kernel
theorem dX4_coinsFor_150 : decode cX4_coinsFor 150 = .ok (.istore 5, 2) := by decide +kernel
theorem dX4_coinsFor_152 : decode cX4_coinsFor 152 = .ok (.iinc 9 1, 3) := by decide +kernel
theorem dX4_coinsFor_155 : decode cX4_coinsFor 155 = .ok (.goto (-73), 3) := by decide +kernel
theorem dX4_coinsFor_158 : decode cX4_coinsFor 158 = .ok (.iinc 6 1, 3) := by decide +kernel
theorem dX4_coinsFor_161 : decode cX4_coinsFor 161 = .ok (.goto (-146), 3) := by decide +kernel
theorem dX4_coinsFor_164 : decode cX4_coinsFor 164 = .ok (.iload 5, 2) := by decide +kernel
theorem dX4_coinsFor_166 : decode cX4_coinsFor 166 = .ok (.ireturn, 1) := by decide +kernel
theorem dX4_planPairs_0 : decode cX4_planPairs 0 = .ok (.aload_n 0, 1) := by decide +kernel
theorem dX4_planPairs_1 : decode cX4_planPairs 1 = .ok (.iload_n 1, 1) := by decide +kernel
theorem dX4_planPairs_2 : decode cX4_planPairs 2 = .ok (.putfield 24, 3) := by decide +kernel
theorem dX4_planPairs_5 : decode cX4_planPairs 5 = .ok (.aload_n 0, 1) := by decide +kernel
theorem dX4_planPairs_6 : decode cX4_planPairs 6 = .ok (.getfield 28, 3) := by decide +kernel
theorem dX4_planPairs_9 : decode cX4_planPairs 9 = .ok (.iload_n 2, 1) := by decide +kernel
theorem dX4_planPairs_10 : decode cX4_planPairs 10 = .ok (.invokevirtual 83, 3) := by decide +kernel
theorem dX4_planPairs_13 : decode cX4_planPairs 13 = .ok (.iconst 0, 1) := by decide +kernel
theorem dX4_planPairs_14 : decode cX4_planPairs 14 = .ok (.istore_n 3, 1) := by decide +kernel
theorem dX4_planPairs_15 : decode cX4_planPairs 15 = .ok (.iload_n 3, 1) := by decide +kernel
theorem dX4_planPairs_16 : decode cX4_planPairs 16 = .ok (.aload_n 0, 1) := by decide +kernel
theorem dX4_planPairs_17 : decode cX4_planPairs 17 = .ok (.getfield 28, 3) := by decide +kernel
theorem dX4_planPairs_20 : decode cX4_planPairs 20 = .ok (.getfield 36, 3) := by decide +kernel
theorem dX4_planPairs_23 : decode cX4_planPairs 23 = .ok (.getfield 61, 3) := by decide +kernel
theorem dX4_planPairs_26 : decode cX4_planPairs 26 = .ok (.if_icmp .ge 79, 3) := by decide +kernel
theorem dX4_planPairs_29 : decode cX4_planPairs 29 = .ok (.iconst 0, 1) := by decide +kernel
theorem dX4_planPairs_30 : decode cX4_planPairs 30 = .ok (.istore 4, 2) := by decide +kernel
theorem dX4_planPairs_32 : decode cX4_planPairs 32 = .ok (.iload 4, 2) := by decide +kernel
theorem dX4_planPairs_34 : decode cX4_planPairs 34 = .ok (.aload_n 0, 1) := by decide +kernel
theorem dX4_planPairs_35 : decode cX4_planPairs 35 = .ok (.getfield 28, 3) := by decide +kernel
theorem dX4_planPairs_38 : decode cX4_planPairs 38 = .ok (.getfield 36, 3) := by decide +kernel
theorem dX4_planPairs_41 : decode cX4_planPairs 41 = .ok (.getfield 42, 3) := by decide +kernel
theorem dX4_planPairs_44 : decode cX4_planPairs 44 = .ok (.if_icmp .ge 55, 3) := by decide +kernel
theorem dX4_planPairs_47 : decode cX4_planPairs 47 = .ok (.aload_n 0, 1) := by decide +kernel
theorem dX4_planPairs_48 : decode cX4_planPairs 48 = .ok (.getfield 28, 3) := by decide +kernel
theorem dX4_planPairs_51 : decode cX4_planPairs 51 = .ok (.getfield 71, 3) := by decide +kernel
theorem dX4_planPairs_54 : decode cX4_planPairs 54 = .ok (.getfield 87, 3) := by decide +kernel
theorem dX4_planPairs_57 : decode cX4_planPairs 57 = .ok (.iload 4, 2) := by decide +kernel
theorem dX4_planPairs_59 : decode cX4_planPairs 59 = .ok (.iaload, 1) := by decide +kernel
theorem dX4_planPairs_60 : decode cX4_planPairs 60 = .ok (.iconst 1, 1) := by decide +kernel
theorem dX4_planPairs_61 : decode cX4_planPairs 61 = .ok (.iload_n 3, 1) := by decide +kernel
theorem dX4_planPairs_62 : decode cX4_planPairs 62 = .ok (.ishl, 1) := by decide +kernel
theorem dX4_planPairs_63 : decode cX4_planPairs 63 = .ok (.ior, 1) := by decide +kernel
theorem dX4_planPairs_64 : decode cX4_planPairs 64 = .ok (.istore 5, 2) := by decide +kernel
theorem dX4_planPairs_66 : decode cX4_planPairs 66 = .ok (.aload_n 0, 1) := by decide +kernel
theorem dX4_planPairs_67 : decode cX4_planPairs 67 = .ok (.getfield 18, 3) := by decide +kernel
theorem dX4_planPairs_70 : decode cX4_planPairs 70 = .ok (.iload_n 3, 1) := by decide +kernel
theorem dX4_planPairs_71 : decode cX4_planPairs 71 = .ok (.bipush 8, 2) := by decide +kernel
theorem dX4_planPairs_73 : decode cX4_planPairs 73 = .ok (.imul, 1) := by decide +kernel
theorem dX4_planPairs_74 : decode cX4_planPairs 74 = .ok (.iload 4, 2) := by decide +kernel
theorem dX4_planPairs_76 : decode cX4_planPairs 76 = .ok (.iadd, 1) := by decide +kernel
theorem dX4_planPairs_77 : decode cX4_planPairs 77 = .ok (.aload_n 0, 1) := by decide +kernel
theorem dX4_planPairs_78 : decode cX4_planPairs 78 = .ok (.getfield 28, 3) := by decide +kernel
theorem dX4_planPairs_81 : decode cX4_planPairs 81 = .ok (.iload 4, 2) := by decide +kernel
theorem dX4_planPairs_83 : decode cX4_planPairs 83 = .ok (.iload 5, 2) := by decide +kernel
theorem dX4_planPairs_85 : decode cX4_planPairs 85 = .ok (.iconst 1, 1) := by decide +kernel
theorem dX4_planPairs_86 : decode cX4_planPairs 86 = .ok (.iload_n 3, 1) := by decide +kernel
theorem dX4_planPairs_87 : decode cX4_planPairs 87 = .ok (.ishl, 1) := by decide +kernel
theorem dX4_planPairs_88 : decode cX4_planPairs 88 = .ok (.iload_n 2, 1) := by decide +kernel
theorem dX4_planPairs_89 : decode cX4_planPairs 89 = .ok (.invokevirtual 90, 3) := by decide +kernel
theorem dX4_planPairs_92 : decode cX4_planPairs 92 = .ok (.iastore, 1) := by decide +kernel
theorem dX4_planPairs_93 : decode cX4_planPairs 93 = .ok (.iinc 4 1, 3) := by decide +kernel
theorem dX4_planPairs_96 : decode cX4_planPairs 96 = .ok (.goto (-64), 3) := by decide +kernel
theorem dX4_planPairs_99 : decode cX4_planPairs 99 = .ok (.iinc 3 1, 3) := by decide +kernel
theorem dX4_planPairs_102 : decode cX4_planPairs 102 = .ok (.goto (-87), 3) := by decide +kernel
theorem dX4_planPairs_105 : decode cX4_planPairs 105 = .ok (.return_, 1) := by decide +kernel
theorem dX4_planSinging_0 : decode cX4_planSinging 0 = .ok (.aload_n 0, 1) := by decide +kernel
theorem dX4_planSinging_1 : decode cX4_planSinging 1 = .ok (.iload_n 1, 1) := by decide +kernel
theorem dX4_planSinging_2 : decode cX4_planSinging 2 = .ok (.putfield 24, 3) := by decide +kernel
theorem dX4_planSinging_5 : decode cX4_planSinging 5 = .ok (.aload_n 0, 1) := by decide +kernel
theorem dX4_planSinging_6 : decode cX4_planSinging 6 = .ok (.getfield 28, 3) := by decide +kernel
theorem dX4_planSinging_9 : decode cX4_planSinging 9 = .ok (.getfield 36, 3) := by decide +kernel
theorem dX4_planSinging_12 : decode cX4_planSinging 12 = .ok (.astore_n 3, 1) := by decide +kernel
theorem dX4_planSinging_13 : decode cX4_planSinging 13 = .ok (.iconst 0, 1) := by decide +kernel
theorem dX4_planSinging_14 : decode cX4_planSinging 14 = .ok (.istore 4, 2) := by decide +kernel
theorem dX4_planSinging_16 : decode cX4_planSinging 16 = .ok (.iload 4, 2) := by decide +kernel
theorem dX4_planSinging_18 : decode cX4_planSinging 18 = .ok (.aload_n 3, 1) := by decide +kernel
theorem dX4_planSinging_19 : decode cX4_planSinging 19 = .ok (.getfield 61, 3) := by decide +kernel
theorem dX4_planSinging_22 : decode cX4_planSinging 22 = .ok (.if_icmp .ge 86, 3) := by decide +kernel
theorem dX4_planSinging_25 : decode cX4_planSinging 25 = .ok (.aload_n 0, 1) := by decide +kernel
theorem dX4_planSinging_26 : decode cX4_planSinging 26 = .ok (.getfield 21, 3) := by decide +kernel
theorem dX4_planSinging_29 : decode cX4_planSinging 29 = .ok (.iload 4, 2) := by decide +kernel
theorem dX4_planSinging_31 : decode cX4_planSinging 31 = .ok (.iconst 0, 1) := by decide +kernel
theorem dX4_planSinging_32 : decode cX4_planSinging 32 = .ok (.iastore, 1) := by decide +kernel
theorem dX4_planSinging_33 : decode cX4_planSinging 33 = .ok (.iconst 0, 1) := by decide +kernel
theorem dX4_planSinging_34 : decode cX4_planSinging 34 = .ok (.istore 5, 2) := by decide +kernel
theorem dX4_planSinging_36 : decode cX4_planSinging 36 = .ok (.iload 5, 2) := by decide +kernel
theorem dX4_planSinging_38 : decode cX4_planSinging 38 = .ok (.aload_n 3, 1) := by decide +kernel
theorem dX4_planSinging_39 : decode cX4_planSinging 39 = .ok (.getfield 42, 3) := by decide +kernel
theorem dX4_planSinging_42 : decode cX4_planSinging 42 = .ok (.if_icmp .ge 60, 3) := by decide +kernel
theorem dX4_planSinging_45 : decode cX4_planSinging 45 = .ok (.aload_n 0, 1) := by decide +kernel
theorem dX4_planSinging_46 : decode cX4_planSinging 46 = .ok (.getfield 28, 3) := by decide +kernel
theorem dX4_planSinging_49 : decode cX4_planSinging 49 = .ok (.getfield 71, 3) := by decide +kernel
theorem dX4_planSinging_52 : decode cX4_planSinging 52 = .ok (.getfield 87, 3) := by decide +kernel
theorem dX4_planSinging_55 : decode cX4_planSinging 55 = .ok (.iload 5, 2) := by decide +kernel
theorem dX4_planSinging_57 : decode cX4_planSinging 57 = .ok (.iaload, 1) := by decide +kernel
theorem dX4_planSinging_58 : decode cX4_planSinging 58 = .ok (.istore 6, 2) := by decide +kernel
theorem dX4_planSinging_60 : decode cX4_planSinging 60 = .ok (.aload_n 3, 1) := by decide +kernel
theorem dX4_planSinging_61 : decode cX4_planSinging 61 = .ok (.aload_n 3, 1) := by decide +kernel
theorem dX4_planSinging_62 : decode cX4_planSinging 62 = .ok (.getfield 64, 3) := by decide +kernel
theorem dX4_planSinging_65 : decode cX4_planSinging 65 = .ok (.iload 5, 2) := by decide +kernel
theorem dX4_planSinging_67 : decode cX4_planSinging 67 = .ok (.iaload, 1) := by decide +kernel
theorem dX4_planSinging_68 : decode cX4_planSinging 68 = .ok (.iload 6, 2) := by decide +kernel
theorem dX4_planSinging_70 : decode cX4_planSinging 70 = .ok (.iconst 0, 1) := by decide +kernel
theorem dX4_planSinging_71 : decode cX4_planSinging 71 = .ok (.iconst 1, 1) := by decide +kernel
theorem dX4_planSinging_72 : decode cX4_planSinging 72 = .ok (.iload 4, 2) := by decide +kernel
theorem dX4_planSinging_74 : decode cX4_planSinging 74 = .ok (.ishl, 1) := by decide +kernel
theorem dX4_planSinging_75 : decode cX4_planSinging 75 = .ok (.iload_n 2, 1) := by decide +kernel
theorem dX4_planSinging_76 : decode cX4_planSinging 76 = .ok (.invokevirtual 93, 3) := by decide +kernel
theorem dX4_planSinging_79 : decode cX4_planSinging 79 = .ok (.ifCond .eq 17, 3) := by decide +kernel
theorem dX4_planSinging_82 : decode cX4_planSinging 82 = .ok (.aload_n 0, 1) := by decide +kernel
theorem dX4_planSinging_83 : decode cX4_planSinging 83 = .ok (.getfield 21, 3) := by decide +kernel
theorem dX4_planSinging_86 : decode cX4_planSinging 86 = .ok (.iload 4, 2) := by decide +kernel
theorem dX4_planSinging_88 : decode cX4_planSinging 88 = .ok (.dup2, 1) := by decide +kernel
theorem dX4_planSinging_89 : decode cX4_planSinging 89 = .ok (.iaload, 1) := by decide +kernel
theorem dX4_planSinging_90 : decode cX4_planSinging 90 = .ok (.iconst 1, 1) := by decide +kernel
theorem dX4_planSinging_91 : decode cX4_planSinging 91 = .ok (.iload 5, 2) := by decide +kernel
theorem dX4_planSinging_93 : decode cX4_planSinging 93 = .ok (.ishl, 1) := by decide +kernel
theorem dX4_planSinging_94 : decode cX4_planSinging 94 = .ok (.ior, 1) := by decide +kernel
theorem dX4_planSinging_95 : decode cX4_planSinging 95 = .ok (.iastore, 1) := by decide +kernel
theorem dX4_planSinging_96 : decode cX4_planSinging 96 = .ok (.iinc 5 1, 3) := by decide +kernel
theorem dX4_planSinging_99 : decode cX4_planSinging 99 = .ok (.goto (-63), 3) := by decide +kernel
theorem dX4_planSinging_102 : decode cX4_planSinging 102 = .ok (.iinc 4 1, 3) := by decide +kernel
theorem dX4_planSinging_105 : decode cX4_planSinging 105 = .ok (.goto (-89), 3) := by decide +kernel
theorem dX4_planSinging_108 : decode cX4_planSinging 108 = .ok (.return_, 1) := by decide +kernel
theorem dX4_fewest_0 : decode cX4_fewest 0 = .ok (.aload_n 0, 1) := by decide +kernel
theorem dX4_fewest_1 : decode cX4_fewest 1 = .ok (.getfield 28, 3) := by decide +kernel
theorem dX4_fewest_4 : decode cX4_fewest 4 = .ok (.getfield 36, 3) := by decide +kernel
theorem dX4_fewest_7 : decode cX4_fewest 7 = .ok (.getfield 61, 3) := by decide +kernel
theorem dX4_fewest_10 : decode cX4_fewest 10 = .ok (.istore_n 2, 1) := by decide +kernel
theorem dX4_fewest_11 : decode cX4_fewest 11 = .ok (.iconst 1, 1) := by decide +kernel
theorem dX4_fewest_12 : decode cX4_fewest 12 = .ok (.iload_n 2, 1) := by decide +kernel
theorem dX4_fewest_13 : decode cX4_fewest 13 = .ok (.ishl, 1) := by decide +kernel
theorem dX4_fewest_14 : decode cX4_fewest 14 = .ok (.iconst 1, 1) := by decide +kernel
theorem dX4_fewest_15 : decode cX4_fewest 15 = .ok (.isub, 1) := by decide +kernel
theorem dX4_fewest_16 : decode cX4_fewest 16 = .ok (.istore_n 3, 1) := by decide +kernel
theorem dX4_fewest_17 : decode cX4_fewest 17 = .ok (.aload_n 0, 1) := by decide +kernel
theorem dX4_fewest_18 : decode cX4_fewest 18 = .ok (.iload_n 3, 1) := by decide +kernel
theorem dX4_fewest_19 : decode cX4_fewest 19 = .ok (.iload_n 1, 1) := by decide +kernel
theorem dX4_fewest_20 : decode cX4_fewest 20 = .ok (.invokevirtual 97, 3) := by decide +kernel
theorem dX4_fewest_23 : decode cX4_fewest 23 = .ok (.ifCond .ne 6, 3) := by decide +kernel
theorem dX4_fewest_26 : decode cX4_fewest 26 = .ok (.bipush (-2), 2) := by decide +kernel
theorem dX4_fewest_28 : decode cX4_fewest 28 = .ok (.ireturn, 1) := by decide +kernel
theorem dX4_fewest_29 : decode cX4_fewest 29 = .ok (.iconst 0, 1) := by decide +kernel
theorem dX4_fewest_30 : decode cX4_fewest 30 = .ok (.istore 4, 2) := by decide +kernel
theorem dX4_fewest_32 : decode cX4_fewest 32 = .ok (.iload 4, 2) := by decide +kernel
theorem dX4_fewest_34 : decode cX4_fewest 34 = .ok (.iload_n 2, 1) := by decide +kernel
theorem dX4_fewest_35 : decode cX4_fewest 35 = .ok (.if_icmp .ge 47, 3) := by decide +kernel
theorem dX4_fewest_38 : decode cX4_fewest 38 = .ok (.iconst 0, 1) := by decide +kernel
theorem dX4_fewest_39 : decode cX4_fewest 39 = .ok (.istore 5, 2) := by decide +kernel
theorem dX4_fewest_41 : decode cX4_fewest 41 = .ok (.iload 5, 2) := by decide +kernel
theorem dX4_fewest_43 : decode cX4_fewest 43 = .ok (.iload_n 3, 1) := by decide +kernel
theorem dX4_fewest_44 : decode cX4_fewest 44 = .ok (.if_icmp .ge 32, 3) := by decide +kernel
theorem dX4_fewest_47 : decode cX4_fewest 47 = .ok (.iload 5, 2) := by decide +kernel
theorem dX4_fewest_49 : decode cX4_fewest 49 = .ok (.invokestatic 101, 3) := by decide +kernel
theorem dX4_fewest_52 : decode cX4_fewest 52 = .ok (.iload 4, 2) := by decide +kernel
theorem dX4_fewest_54 : decode cX4_fewest 54 = .ok (.if_icmp .ne 16, 3) := by decide +kernel
theorem dX4_fewest_57 : decode cX4_fewest 57 = .ok (.aload_n 0, 1) := by decide +kernel
theorem dX4_fewest_58 : decode cX4_fewest 58 = .ok (.iload 5, 2) := by decide +kernel
theorem dX4_fewest_60 : decode cX4_fewest 60 = .ok (.iload_n 1, 1) := by decide +kernel
theorem dX4_fewest_61 : decode cX4_fewest 61 = .ok (.invokevirtual 97, 3) := by decide +kernel
theorem dX4_fewest_64 : decode cX4_fewest 64 = .ok (.ifCond .eq 6, 3) := by decide +kernel
theorem dX4_fewest_67 : decode cX4_fewest 67 = .ok (.iload 5, 2) := by decide +kernel
theorem dX4_fewest_69 : decode cX4_fewest 69 = .ok (.ireturn, 1) := by decide +kernel
theorem dX4_fewest_70 : decode cX4_fewest 70 = .ok (.iinc 5 1, 3) := by decide +kernel
theorem dX4_fewest_73 : decode cX4_fewest 73 = .ok (.goto (-32), 3) := by decide +kernel
theorem dX4_fewest_76 : decode cX4_fewest 76 = .ok (.iinc 4 1, 3) := by decide +kernel
theorem dX4_fewest_79 : decode cX4_fewest 79 = .ok (.goto (-47), 3) := by decide +kernel
theorem dX4_fewest_82 : decode cX4_fewest 82 = .ok (.iload_n 3, 1) := by decide +kernel
theorem dX4_fewest_83 : decode cX4_fewest 83 = .ok (.ireturn, 1) := by decide +kernel
theorem dX4_isEnough_0 : decode cX4_isEnough 0 = .ok (.iload_n 2, 1) := by decide +kernel
theorem dX4_isEnough_1 : decode cX4_isEnough 1 = .ok (.ifCond .eq 11, 3) := by decide +kernel
theorem dX4_isEnough_4 : decode cX4_isEnough 4 = .ok (.aload_n 0, 1) := by decide +kernel
theorem dX4_isEnough_5 : decode cX4_isEnough 5 = .ok (.iload_n 1, 1) := by decide +kernel
theorem dX4_isEnough_6 : decode cX4_isEnough 6 = .ok (.invokevirtual 107, 3) := by decide +kernel
theorem dX4_isEnough_9 : decode cX4_isEnough 9 = .ok (.goto 8, 3) := by decide +kernel
theorem dX4_isEnough_12 : decode cX4_isEnough 12 = .ok (.aload_n 0, 1) := by decide +kernel
theorem dX4_isEnough_13 : decode cX4_isEnough 13 = .ok (.iload_n 1, 1) := by decide +kernel
theorem dX4_isEnough_14 : decode cX4_isEnough 14 = .ok (.invokevirtual 111, 3) := by decide +kernel
theorem dX4_isEnough_17 : decode cX4_isEnough 17 = .ok (.ireturn, 1) := by decide +kernel
theorem dX4_allSing_0 : decode cX4_allSing 0 = .ok (.iconst 0, 1) := by decide +kernel
theorem dX4_allSing_1 : decode cX4_allSing 1 = .ok (.istore_n 2, 1) := by decide +kernel
theorem dX4_allSing_2 : decode cX4_allSing 2 = .ok (.iconst 0, 1) := by decide +kernel
theorem dX4_allSing_3 : decode cX4_allSing 3 = .ok (.istore_n 3, 1) := by decide +kernel
theorem dX4_allSing_4 : decode cX4_allSing 4 = .ok (.iload_n 3, 1) := by decide +kernel
theorem dX4_allSing_5 : decode cX4_allSing 5 = .ok (.aload_n 0, 1) := by decide +kernel
theorem dX4_allSing_6 : decode cX4_allSing 6 = .ok (.getfield 28, 3) := by decide +kernel
theorem dX4_allSing_9 : decode cX4_allSing 9 = .ok (.getfield 36, 3) := by decide +kernel
theorem dX4_allSing_12 : decode cX4_allSing 12 = .ok (.getfield 61, 3) := by decide +kernel
theorem dX4_allSing_15 : decode cX4_allSing 15 = .ok (.if_icmp .ge 30, 3) := by decide +kernel
theorem dX4_allSing_18 : decode cX4_allSing 18 = .ok (.iload_n 2, 1) := by decide +kernel
theorem dX4_allSing_19 : decode cX4_allSing 19 = .ok (.iload_n 1, 1) := by decide +kernel
theorem dX4_allSing_20 : decode cX4_allSing 20 = .ok (.iload_n 3, 1) := by decide +kernel
theorem dX4_allSing_21 : decode cX4_allSing 21 = .ok (.invokestatic 47, 3) := by decide +kernel
theorem dX4_allSing_24 : decode cX4_allSing 24 = .ok (.ifCond .eq 12, 3) := by decide +kernel
theorem dX4_allSing_27 : decode cX4_allSing 27 = .ok (.aload_n 0, 1) := by decide +kernel
theorem dX4_allSing_28 : decode cX4_allSing 28 = .ok (.getfield 21, 3) := by decide +kernel
theorem dX4_allSing_31 : decode cX4_allSing 31 = .ok (.iload_n 3, 1) := by decide +kernel
theorem dX4_allSing_32 : decode cX4_allSing 32 = .ok (.iaload, 1) := by decide +kernel
theorem dX4_allSing_33 : decode cX4_allSing 33 = .ok (.goto 4, 3) := by decide +kernel
theorem dX4_allSing_36 : decode cX4_allSing 36 = .ok (.iconst 0, 1) := by decide +kernel
theorem dX4_allSing_37 : decode cX4_allSing 37 = .ok (.ior, 1) := by decide +kernel
theorem dX4_allSing_38 : decode cX4_allSing 38 = .ok (.istore_n 2, 1) := by decide +kernel
theorem dX4_allSing_39 : decode cX4_allSing 39 = .ok (.iinc 3 1, 3) := by decide +kernel
theorem dX4_allSing_42 : decode cX4_allSing 42 = .ok (.goto (-38), 3) := by decide +kernel
theorem dX4_allSing_45 : decode cX4_allSing 45 = .ok (.aload_n 0, 1) := by decide +kernel
theorem dX4_allSing_46 : decode cX4_allSing 46 = .ok (.getfield 24, 3) := by decide +kernel
theorem dX4_allSing_49 : decode cX4_allSing 49 = .ok (.iload_n 2, 1) := by decide +kernel
theorem dX4_allSing_50 : decode cX4_allSing 50 = .ok (.iconst (-1), 1) := by decide +kernel
theorem dX4_allSing_51 : decode cX4_allSing 51 = .ok (.ixor, 1) := by decide +kernel
theorem dX4_allSing_52 : decode cX4_allSing 52 = .ok (.iand, 1) := by decide +kernel
theorem dX4_allSing_53 : decode cX4_allSing 53 = .ok (.ifCond .ne 7, 3) := by decide +kernel
theorem dX4_allSing_56 : decode cX4_allSing 56 = .ok (.iconst 1, 1) := by decide +kernel
theorem dX4_allSing_57 : decode cX4_allSing 57 = .ok (.goto 4, 3) := by decide +kernel
theorem dX4_allSing_60 : decode cX4_allSing 60 = .ok (.iconst 0, 1) := by decide +kernel
theorem dX4_allSing_61 : decode cX4_allSing 61 = .ok (.ireturn, 1) := by decide +kernel
theorem dX4_allPair_0 : decode cX4_allPair 0 = .ok (.iconst 0, 1) := by decide +kernel
theorem dX4_allPair_1 : decode cX4_allPair 1 = .ok (.istore_n 2, 1) := by decide +kernel
theorem dX4_allPair_2 : decode cX4_allPair 2 = .ok (.iload_n 2, 1) := by decide +kernel
theorem dX4_allPair_3 : decode cX4_allPair 3 = .ok (.aload_n 0, 1) := by decide +kernel
theorem dX4_allPair_4 : decode cX4_allPair 4 = .ok (.getfield 28, 3) := by decide +kernel
theorem dX4_allPair_7 : decode cX4_allPair 7 = .ok (.getfield 36, 3) := by decide +kernel
theorem dX4_allPair_10 : decode cX4_allPair 10 = .ok (.getfield 42, 3) := by decide +kernel
theorem dX4_allPair_13 : decode cX4_allPair 13 = .ok (.if_icmp .ge 78, 3) := by decide +kernel
theorem dX4_allPair_16 : decode cX4_allPair 16 = .ok (.aload_n 0, 1) := by decide +kernel
theorem dX4_allPair_17 : decode cX4_allPair 17 = .ok (.getfield 15, 3) := by decide +kernel
theorem dX4_allPair_20 : decode cX4_allPair 20 = .ok (.iload_n 2, 1) := by decide +kernel
theorem dX4_allPair_21 : decode cX4_allPair 21 = .ok (.aload_n 0, 1) := by decide +kernel
theorem dX4_allPair_22 : decode cX4_allPair 22 = .ok (.getfield 28, 3) := by decide +kernel
theorem dX4_allPair_25 : decode cX4_allPair 25 = .ok (.getfield 114, 3) := by decide +kernel
theorem dX4_allPair_28 : decode cX4_allPair 28 = .ok (.iload_n 2, 1) := by decide +kernel
theorem dX4_allPair_29 : decode cX4_allPair 29 = .ok (.iaload, 1) := by decide +kernel
theorem dX4_allPair_30 : decode cX4_allPair 30 = .ok (.iastore, 1) := by decide +kernel
theorem dX4_allPair_31 : decode cX4_allPair 31 = .ok (.iconst 0, 1) := by decide +kernel
theorem dX4_allPair_32 : decode cX4_allPair 32 = .ok (.istore_n 3, 1) := by decide +kernel
theorem dX4_allPair_33 : decode cX4_allPair 33 = .ok (.iload_n 3, 1) := by decide +kernel
theorem dX4_allPair_34 : decode cX4_allPair 34 = .ok (.aload_n 0, 1) := by decide +kernel
theorem dX4_allPair_35 : decode cX4_allPair 35 = .ok (.getfield 28, 3) := by decide +kernel
theorem dX4_allPair_38 : decode cX4_allPair 38 = .ok (.getfield 36, 3) := by decide +kernel
theorem dX4_allPair_41 : decode cX4_allPair 41 = .ok (.getfield 61, 3) := by decide +kernel
theorem dX4_allPair_44 : decode cX4_allPair 44 = .ok (.if_icmp .ge 41, 3) := by decide +kernel
theorem dX4_allPair_47 : decode cX4_allPair 47 = .ok (.aload_n 0, 1) := by decide +kernel
theorem dX4_allPair_48 : decode cX4_allPair 48 = .ok (.getfield 15, 3) := by decide +kernel
theorem dX4_allPair_51 : decode cX4_allPair 51 = .ok (.iload_n 2, 1) := by decide +kernel
theorem dX4_allPair_52 : decode cX4_allPair 52 = .ok (.dup2, 1) := by decide +kernel
theorem dX4_allPair_53 : decode cX4_allPair 53 = .ok (.iaload, 1) := by decide +kernel
theorem dX4_allPair_54 : decode cX4_allPair 54 = .ok (.iload_n 1, 1) := by decide +kernel
theorem dX4_allPair_55 : decode cX4_allPair 55 = .ok (.iload_n 3, 1) := by decide +kernel
theorem dX4_allPair_56 : decode cX4_allPair 56 = .ok (.invokestatic 47, 3) := by decide +kernel
theorem dX4_allPair_59 : decode cX4_allPair 59 = .ok (.ifCond .eq 17, 3) := by decide +kernel
theorem dX4_allPair_62 : decode cX4_allPair 62 = .ok (.aload_n 0, 1) := by decide +kernel
theorem dX4_allPair_63 : decode cX4_allPair 63 = .ok (.getfield 18, 3) := by decide +kernel
theorem dX4_allPair_66 : decode cX4_allPair 66 = .ok (.iload_n 3, 1) := by decide +kernel
theorem dX4_allPair_67 : decode cX4_allPair 67 = .ok (.bipush 8, 2) := by decide +kernel
theorem dX4_allPair_69 : decode cX4_allPair 69 = .ok (.imul, 1) := by decide +kernel
theorem dX4_allPair_70 : decode cX4_allPair 70 = .ok (.iload_n 2, 1) := by decide +kernel
theorem dX4_allPair_71 : decode cX4_allPair 71 = .ok (.iadd, 1) := by decide +kernel
theorem dX4_allPair_72 : decode cX4_allPair 72 = .ok (.iaload, 1) := by decide +kernel
theorem dX4_allPair_73 : decode cX4_allPair 73 = .ok (.goto 4, 3) := by decide +kernel
theorem dX4_allPair_76 : decode cX4_allPair 76 = .ok (.iconst 0, 1) := by decide +kernel
theorem dX4_allPair_77 : decode cX4_allPair 77 = .ok (.ior, 1) := by decide +kernel
theorem dX4_allPair_78 : decode cX4_allPair 78 = .ok (.iastore, 1) := by decide +kernel
theorem dX4_allPair_79 : decode cX4_allPair 79 = .ok (.iinc 3 1, 3) := by decide +kernel
theorem dX4_allPair_82 : decode cX4_allPair 82 = .ok (.goto (-49), 3) := by decide +kernel
theorem dX4_allPair_85 : decode cX4_allPair 85 = .ok (.iinc 2 1, 3) := by decide +kernel
theorem dX4_allPair_88 : decode cX4_allPair 88 = .ok (.goto (-86), 3) := by decide +kernel
theorem dX4_allPair_91 : decode cX4_allPair 91 = .ok (.aload_n 0, 1) := by decide +kernel
theorem dX4_allPair_92 : decode cX4_allPair 92 = .ok (.getfield 15, 3) := by decide +kernel
theorem dX4_allPair_95 : decode cX4_allPair 95 = .ok (.aload_n 0, 1) := by decide +kernel
theorem dX4_allPair_96 : decode cX4_allPair 96 = .ok (.getfield 24, 3) := by decide +kernel
theorem dX4_allPair_99 : decode cX4_allPair 99 = .ok (.invokestatic 115, 3) := by decide +kernel
theorem dX4_allPair_102 : decode cX4_allPair 102 = .ok (.ireturn, 1) := by decide +kernel
theorem dX5_init_0 : decode cX5_init 0 = .ok (.aload_n 0, 1) := by decide +kernel
theorem dX5_init_1 : decode cX5_init 1 = .ok (.invokespecial 3, 3) := by decide +kernel
theorem dX5_init_4 : decode cX5_init 4 = .ok (.aload_n 0, 1) := by decide +kernel
theorem dX5_init_5 : decode cX5_init 5 = .ok (.iconst 0, 1) := by decide +kernel
theorem dX5_init_6 : decode cX5_init 6 = .ok (.putfield 9, 3) := by decide +kernel
theorem dX5_init_9 : decode cX5_init 9 = .ok (.aload_n 0, 1) := by decide +kernel
theorem dX5_init_10 : decode cX5_init 10 = .ok (.iconst 0, 1) := by decide +kernel
theorem dX5_init_11 : decode cX5_init 11 = .ok (.putfield 15, 3) := by decide +kernel
theorem dX5_init_14 : decode cX5_init 14 = .ok (.aload_n 0, 1) := by decide +kernel
theorem dX5_init_15 : decode cX5_init 15 = .ok (.iconst 0, 1) := by decide +kernel
theorem dX5_init_16 : decode cX5_init 16 = .ok (.putfield 18, 3) := by decide +kernel
theorem dX5_init_19 : decode cX5_init 19 = .ok (.aload_n 0, 1) := by decide +kernel
theorem dX5_init_20 : decode cX5_init 20 = .ok (.iconst 0, 1) := by decide +kernel
theorem dX5_init_21 : decode cX5_init 21 = .ok (.putfield 22, 3) := by decide +kernel
theorem dX5_init_24 : decode cX5_init 24 = .ok (.aload_n 0, 1) := by decide +kernel
theorem dX5_init_25 : decode cX5_init 25 = .ok (.iconst 0, 1) := by decide +kernel
theorem dX5_init_26 : decode cX5_init 26 = .ok (.putfield 25, 3) := by decide +kernel
theorem dX5_init_29 : decode cX5_init 29 = .ok (.aload_n 0, 1) := by decide +kernel
theorem dX5_init_30 : decode cX5_init 30 = .ok (.iconst 0, 1) := by decide +kernel
theorem dX5_init_31 : decode cX5_init 31 = .ok (.putfield 28, 3) := by decide +kernel
theorem dX5_init_34 : decode cX5_init 34 = .ok (.aload_n 0, 1) := by decide +kernel
theorem dX5_init_35 : decode cX5_init 35 = .ok (.iconst 0, 1) := by decide +kernel
theorem dX5_init_36 : decode cX5_init 36 = .ok (.putfield 31, 3) := by decide +kernel
theorem dX5_init_39 : decode cX5_init 39 = .ok (.aload_n 0, 1) := by decide +kernel
theorem dX5_init_40 : decode cX5_init 40 = .ok (.lconst 0, 1) := by decide +kernel
theorem dX5_init_41 : decode cX5_init 41 = .ok (.putfield 34, 3) := by decide +kernel
theorem dX5_init_44 : decode cX5_init 44 = .ok (.aload_n 0, 1) := by decide +kernel
theorem dX5_init_45 : decode cX5_init 45 = .ok (.iconst 0, 1) := by decide +kernel
theorem dX5_init_46 : decode cX5_init 46 = .ok (.putfield 38, 3) := by decide +kernel
theorem dX5_init_49 : decode cX5_init 49 = .ok (.aload_n 0, 1) := by decide +kernel
theorem dX5_init_50 : decode cX5_init 50 = .ok (.lconst 0, 1) := by decide +kernel
theorem dX5_init_51 : decode cX5_init 51 = .ok (.putfield 41, 3) := by decide +kernel
theorem dX5_init_54 : decode cX5_init 54 = .ok (.aload_n 0, 1) := by decide +kernel
theorem dX5_init_55 : decode cX5_init 55 = .ok (.lconst 0, 1) := by decide +kernel
theorem dX5_init_56 : decode cX5_init 56 = .ok (.putfield 44, 3) := by decide +kernel
theorem dX5_init_59 : decode cX5_init 59 = .ok (.aload_n 0, 1) := by decide +kernel
theorem dX5_init_60 : decode cX5_init 60 = .ok (.iconst 0, 1) := by decide +kernel
theorem dX5_init_61 : decode cX5_init 61 = .ok (.putfield 47, 3) := by decide +kernel
theorem dX5_init_64 : decode cX5_init 64 = .ok (.aload_n 0, 1) := by decide +kernel
theorem dX5_init_65 : decode cX5_init 65 = .ok (.iconst (-1), 1) := by decide +kernel
theorem dX5_init_66 : decode cX5_init 66 = .ok (.putfield 50, 3) := by decide +kernel
theorem dX5_init_69 : decode cX5_init 69 = .ok (.aload_n 0, 1) := by decide +kernel
theorem dX5_init_70 : decode cX5_init 70 = .ok (.iconst 0, 1) := by decide +kernel
theorem dX5_init_71 : decode cX5_init 71 = .ok (.putfield 53, 3) := by decide +kernel
theorem dX5_init_74 : decode cX5_init 74 = .ok (.aload_n 0, 1) := by decide +kernel
theorem dX5_init_75 : decode cX5_init 75 = .ok (.iconst 0, 1) := by decide +kernel
theorem dX5_init_76 : decode cX5_init 76 = .ok (.putfield 56, 3) := by decide +kernel
theorem dX5_init_79 : decode cX5_init 79 = .ok (.aload_n 0, 1) := by decide +kernel
theorem dX5_init_80 : decode cX5_init 80 = .ok (.aload_n 1, 1) := by decide +kernel
theorem dX5_init_81 : decode cX5_init 81 = .ok (.putfield 59, 3) := by decide +kernel
theorem dX5_init_84 : decode cX5_init 84 = .ok (.aload_n 0, 1) := by decide +kernel
theorem dX5_init_85 : decode cX5_init 85 = .ok (.aload_n 2, 1) := by decide +kernel
theorem dX5_init_86 : decode cX5_init 86 = .ok (.putfield 63, 3) := by decide +kernel
theorem dX5_init_89 : decode cX5_init 89 = .ok (.return_, 1) := by decide +kernel
theorem dX5_read_0 : decode cX5_read 0 = .ok (.aload_n 0, 1) := by decide +kernel
theorem dX5_read_1 : decode cX5_read 1 = .ok (.aload_n 1, 1) := by decide +kernel
theorem dX5_read_2 : decode cX5_read 2 = .ok (.putfield 63, 3) := by decide +kernel
theorem dX5_read_5 : decode cX5_read 5 = .ok (.aload_n 0, 1) := by decide +kernel
theorem dX5_read_6 : decode cX5_read 6 = .ok (.getfield 63, 3) := by decide +kernel
theorem dX5_read_9 : decode cX5_read 9 = .ok (.invokevirtual 67, 3) := by decide +kernel
theorem dX5_read_12 : decode cX5_read 12 = .ok (.aload_n 0, 1) := by decide +kernel
theorem dX5_read_13 : decode cX5_read 13 = .ok (.iload_n 2, 1) := by decide +kernel
theorem dX5_read_14 : decode cX5_read 14 = .ok (.aload_n 0, 1) := by decide +kernel
theorem dX5_read_15 : decode cX5_read 15 = .ok (.getfield 59, 3) := by decide +kernel
theorem dX5_read_18 : decode cX5_read 18 = .ok (.arraylength, 1) := by decide +kernel
theorem dX5_read_19 : decode cX5_read 19 = .ok (.invokestatic 72, 3) := by decide +kernel
theorem dX5_read_22 : decode cX5_read 22 = .ok (.putfield 9, 3) := by decide +kernel
theorem dX5_read_25 : decode cX5_read 25 = .ok (.aload_n 0, 1) := by decide +kernel
theorem dX5_read_26 : decode cX5_read 26 = .ok (.iconst 0, 1) := by decide +kernel
theorem dX5_read_27 : decode cX5_read 27 = .ok (.putfield 15, 3) := by decide +kernel
theorem dX5_read_30 : decode cX5_read 30 = .ok (.aload_n 0, 1) := by decide +kernel
theorem dX5_read_31 : decode cX5_read 31 = .ok (.iconst 0, 1) := by decide +kernel
theorem dX5_read_32 : decode cX5_read 32 = .ok (.putfield 18, 3) := by decide +kernel
theorem dX5_read_35 : decode cX5_read 35 = .ok (.aload_n 0, 1) := by decide +kernel
theorem dX5_read_36 : decode cX5_read 36 = .ok (.iconst 0, 1) := by decide +kernel
theorem dX5_read_37 : decode cX5_read 37 = .ok (.putfield 22, 3) := by decide +kernel
theorem dX5_read_40 : decode cX5_read 40 = .ok (.aload_n 0, 1) := by decide +kernel
theorem dX5_read_41 : decode cX5_read 41 = .ok (.iconst 0, 1) := by decide +kernel
theorem dX5_read_42 : decode cX5_read 42 = .ok (.putfield 53, 3) := by decide +kernel
theorem dX5_read_45 : decode cX5_read 45 = .ok (.aload_n 0, 1) := by decide +kernel
theorem dX5_read_46 : decode cX5_read 46 = .ok (.iconst 0, 1) := by decide +kernel
theorem dX5_read_47 : decode cX5_read 47 = .ok (.putfield 56, 3) := by decide +kernel
theorem dX5_read_50 : decode cX5_read 50 = .ok (.aload_n 0, 1) := by decide +kernel
theorem dX5_read_51 : decode cX5_read 51 = .ok (.invokevirtual 78, 3) := by decide +kernel
theorem dX5_read_54 : decode cX5_read 54 = .ok (.aload_n 0, 1) := by decide +kernel
theorem dX5_read_55 : decode cX5_read 55 = .ok (.invokevirtual 81, 3) := by decide +kernel
theorem dX5_read_58 : decode cX5_read 58 = .ok (.istore_n 3, 1) := by decide +kernel
theorem dX5_read_59 : decode cX5_read 59 = .ok (.iconst 0, 1) := by decide +kernel
theorem dX5_read_60 : decode cX5_read 60 = .ok (.istore 4, 2) := by decide +kernel
theorem dX5_read_62 : decode cX5_read 62 = .ok (.iload 4, 2) := by decide +kernel
theorem dX5_read_64 : decode cX5_read 64 = .ok (.sipush 900, 3) := by decide +kernel
theorem dX5_read_67 : decode cX5_read 67 = .ok (.if_icmp .ge 30, 3) := by decide +kernel
theorem dX5_read_70 : decode cX5_read 70 = .ok (.iload_n 3, 1) := by decide +kernel
theorem dX5_read_71 : decode cX5_read 71 = .ok (.ifCond .eq 26, 3) := by decide +kernel
theorem dX5_read_74 : decode cX5_read 74 = .ok (.aload_n 0, 1) := by decide +kernel
theorem dX5_read_75 : decode cX5_read 75 = .ok (.getfield 25, 3) := by decide +kernel
theorem dX5_read_78 : decode cX5_read 78 = .ok (.iconst 3, 1) := by decide +kernel
theorem dX5_read_79 : decode cX5_read 79 = .ok (.if_icmp .ne 18, 3) := by decide +kernel
theorem dX5_read_82 : decode cX5_read 82 = .ok (.aload_n 0, 1) := by decide +kernel
theorem dX5_read_83 : decode cX5_read 83 = .ok (.invokevirtual 78, 3) := by decide +kernel
theorem dX5_read_86 : decode cX5_read 86 = .ok (.aload_n 0, 1) := by decide +kernel
theorem dX5_read_87 : decode cX5_read 87 = .ok (.invokevirtual 81, 3) := by decide +kernel
theorem dX5_read_90 : decode cX5_read 90 = .ok (.istore_n 3, 1) := by decide +kernel
theorem dX5_read_91 : decode cX5_read 91 = .ok (.iinc 4 1, 3) := by decide +kernel
theorem dX5_read_94 : decode cX5_read 94 = .ok (.goto (-32), 3) := by decide +kernel
theorem dX5_read_97 : decode cX5_read 97 = .ok (.iload_n 3, 1) := by decide +kernel
theorem dX5_read_98 : decode cX5_read 98 = .ok (.ifCond .eq 19, 3) := by decide +kernel
theorem dX5_read_101 : decode cX5_read 101 = .ok (.aload_n 0, 1) := by decide +kernel
theorem dX5_read_102 : decode cX5_read 102 = .ok (.getfield 25, 3) := by decide +kernel
theorem dX5_read_105 : decode cX5_read 105 = .ok (.ifCond .eq 12, 3) := by decide +kernel
theorem dX5_read_108 : decode cX5_read 108 = .ok (.aload_n 0, 1) := by decide +kernel
theorem dX5_read_109 : decode cX5_read 109 = .ok (.iconst 1, 1) := by decide +kernel
theorem dX5_read_110 : decode cX5_read 110 = .ok (.invokevirtual 85, 3) := by decide +kernel
theorem dX5_read_113 : decode cX5_read 113 = .ok (.pop, 1) := by decide +kernel
theorem dX5_read_114 : decode cX5_read 114 = .ok (.goto 24, 3) := by decide +kernel
theorem dX5_read_117 : decode cX5_read 117 = .ok (.iload_n 3, 1) := by decide +kernel
theorem dX5_read_118 : decode cX5_read 118 = .ok (.ifCond .eq 20, 3) := by decide +kernel
theorem dX5_read_121 : decode cX5_read 121 = .ok (.aload_n 0, 1) := by decide +kernel
theorem dX5_read_122 : decode cX5_read 122 = .ok (.getfield 63, 3) := by decide +kernel
theorem dX5_read_125 : decode cX5_read 125 = .ok (.getfield 89, 3) := by decide +kernel
theorem dX5_read_128 : decode cX5_read 128 = .ok (.ifCond .ne 10, 3) := by decide +kernel
theorem dX5_read_131 : decode cX5_read 131 = .ok (.aload_n 0, 1) := by decide +kernel
theorem dX5_read_132 : decode cX5_read 132 = .ok (.bipush 6, 2) := by decide +kernel
theorem dX5_read_134 : decode cX5_read 134 = .ok (.invokevirtual 85, 3) := by decide +kernel
theorem dX5_read_137 : decode cX5_read 137 = .ok (.pop, 1) := by decide +kernel
theorem dX5_read_138 : decode cX5_read 138 = .ok (.return_, 1) := by decide +kernel
