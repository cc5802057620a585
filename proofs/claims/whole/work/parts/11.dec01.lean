theorem dX5_fail_0 : decode cX5_fail 0 = .ok (.aload_n 0, 1) := by decide +kernel
theorem dX5_fail_1 : decode cX5_fail 1 = .ok (.iload_n 1, 1) := by decide +kernel
theorem dX5_fail_2 : decode cX5_fail 2 = .ok (.putfield 53, 3) := by decide +kernel
theorem dX5_fail_5 : decode cX5_fail 5 = .ok (.aload_n 0, 1) := by decide +kernel
theorem dX5_fail_6 : decode cX5_fail 6 = .ok (.aload_n 0, 1) := by decide +kernel
theorem dX5_fail_7 : decode cX5_fail 7 = .ok (.getfield 28, 3) := by decide +kernel
theorem dX5_fail_10 : decode cX5_fail 10 = .ok (.putfield 56, 3) := by decide +kernel
theorem dX5_fail_13 : decode cX5_fail 13 = .ok (.iconst 0, 1) := by decide +kernel
theorem dX5_fail_14 : decode cX5_fail 14 = .ok (.ireturn, 1) := by decide +kernel
theorem dX5_look_0 : decode cX5_look 0 = .ok (.aload_n 0, 1) := by decide +kernel
theorem dX5_look_1 : decode cX5_look 1 = .ok (.getfield 15, 3) := by decide +kernel
theorem dX5_look_4 : decode cX5_look 4 = .ok (.aload_n 0, 1) := by decide +kernel
theorem dX5_look_5 : decode cX5_look 5 = .ok (.getfield 9, 3) := by decide +kernel
theorem dX5_look_8 : decode cX5_look 8 = .ok (.if_icmp .ge 30, 3) := by decide +kernel
theorem dX5_look_11 : decode cX5_look 11 = .ok (.aload_n 0, 1) := by decide +kernel
theorem dX5_look_12 : decode cX5_look 12 = .ok (.getfield 59, 3) := by decide +kernel
theorem dX5_look_15 : decode cX5_look 15 = .ok (.aload_n 0, 1) := by decide +kernel
theorem dX5_look_16 : decode cX5_look 16 = .ok (.getfield 15, 3) := by decide +kernel
theorem dX5_look_19 : decode cX5_look 19 = .ok (.baload, 1) := by decide +kernel
theorem dX5_look_20 : decode cX5_look 20 = .ok (.bipush 32, 2) := by decide +kernel
theorem dX5_look_22 : decode cX5_look 22 = .ok (.if_icmp .ne 16, 3) := by decide +kernel
theorem dX5_look_25 : decode cX5_look 25 = .ok (.aload_n 0, 1) := by decide +kernel
theorem dX5_look_26 : decode cX5_look 26 = .ok (.dup, 1) := by decide +kernel
theorem dX5_look_27 : decode cX5_look 27 = .ok (.getfield 15, 3) := by decide +kernel
theorem dX5_look_30 : decode cX5_look 30 = .ok (.iconst 1, 1) := by decide +kernel
theorem dX5_look_31 : decode cX5_look 31 = .ok (.iadd, 1) := by decide +kernel
theorem dX5_look_32 : decode cX5_look 32 = .ok (.putfield 15, 3) := by decide +kernel
theorem dX5_look_35 : decode cX5_look 35 = .ok (.goto (-35), 3) := by decide +kernel
theorem dX5_look_38 : decode cX5_look 38 = .ok (.aload_n 0, 1) := by decide +kernel
theorem dX5_look_39 : decode cX5_look 39 = .ok (.aload_n 0, 1) := by decide +kernel
theorem dX5_look_40 : decode cX5_look 40 = .ok (.getfield 15, 3) := by decide +kernel
theorem dX5_look_43 : decode cX5_look 43 = .ok (.putfield 28, 3) := by decide +kernel
theorem dX5_look_46 : decode cX5_look 46 = .ok (.aload_n 0, 1) := by decide +kernel
theorem dX5_look_47 : decode cX5_look 47 = .ok (.getfield 15, 3) := by decide +kernel
theorem dX5_look_50 : decode cX5_look 50 = .ok (.aload_n 0, 1) := by decide +kernel
theorem dX5_look_51 : decode cX5_look 51 = .ok (.getfield 9, 3) := by decide +kernel
theorem dX5_look_54 : decode cX5_look 54 = .ok (.if_icmp .lt 9, 3) := by decide +kernel
theorem dX5_look_57 : decode cX5_look 57 = .ok (.aload_n 0, 1) := by decide +kernel
theorem dX5_look_58 : decode cX5_look 58 = .ok (.iconst 0, 1) := by decide +kernel
theorem dX5_look_59 : decode cX5_look 59 = .ok (.putfield 25, 3) := by decide +kernel
theorem dX5_look_62 : decode cX5_look 62 = .ok (.return_, 1) := by decide +kernel
theorem dX5_look_63 : decode cX5_look 63 = .ok (.aload_n 0, 1) := by decide +kernel
theorem dX5_look_64 : decode cX5_look 64 = .ok (.getfield 59, 3) := by decide +kernel
theorem dX5_look_67 : decode cX5_look 67 = .ok (.aload_n 0, 1) := by decide +kernel
theorem dX5_look_68 : decode cX5_look 68 = .ok (.getfield 15, 3) := by decide +kernel
theorem dX5_look_71 : decode cX5_look 71 = .ok (.baload, 1) := by decide +kernel
theorem dX5_look_72 : decode cX5_look 72 = .ok (.istore_n 1, 1) := by decide +kernel
theorem dX5_look_73 : decode cX5_look 73 = .ok (.iload_n 1, 1) := by decide +kernel
theorem dX5_look_74 : decode cX5_look 74 = .ok (.bipush 97, 2) := by decide +kernel
theorem dX5_look_76 : decode cX5_look 76 = .ok (.if_icmp .lt 16, 3) := by decide +kernel
theorem dX5_look_79 : decode cX5_look 79 = .ok (.iload_n 1, 1) := by decide +kernel
theorem dX5_look_80 : decode cX5_look 80 = .ok (.bipush 122, 2) := by decide +kernel
theorem dX5_look_82 : decode cX5_look 82 = .ok (.if_icmp .gt 10, 3) := by decide +kernel
theorem dX5_look_85 : decode cX5_look 85 = .ok (.aload_n 0, 1) := by decide +kernel
theorem dX5_look_86 : decode cX5_look 86 = .ok (.invokevirtual 92, 3) := by decide +kernel
theorem dX5_look_89 : decode cX5_look 89 = .ok (.goto 47, 3) := by decide +kernel
theorem dX5_look_92 : decode cX5_look 92 = .ok (.iload_n 1, 1) := by decide +kernel
theorem dX5_look_93 : decode cX5_look 93 = .ok (.bipush 48, 2) := by decide +kernel
theorem dX5_look_95 : decode cX5_look 95 = .ok (.if_icmp .lt 16, 3) := by decide +kernel
theorem dX5_look_98 : decode cX5_look 98 = .ok (.iload_n 1, 1) := by decide +kernel
theorem dX5_look_99 : decode cX5_look 99 = .ok (.bipush 57, 2) := by decide +kernel
theorem dX5_look_101 : decode cX5_look 101 = .ok (.if_icmp .gt 10, 3) := by decide +kernel
theorem dX5_look_104 : decode cX5_look 104 = .ok (.aload_n 0, 1) := by decide +kernel
theorem dX5_look_105 : decode cX5_look 105 = .ok (.invokevirtual 95, 3) := by decide +kernel
theorem dX5_look_108 : decode cX5_look 108 = .ok (.goto 28, 3) := by decide +kernel
theorem dX5_look_111 : decode cX5_look 111 = .ok (.aload_n 0, 1) := by decide +kernel
theorem dX5_look_112 : decode cX5_look 112 = .ok (.iload_n 1, 1) := by decide +kernel
theorem dX5_look_113 : decode cX5_look 113 = .ok (.bipush 59, 2) := by decide +kernel
theorem dX5_look_115 : decode cX5_look 115 = .ok (.if_icmp .ne 7, 3) := by decide +kernel
theorem dX5_look_118 : decode cX5_look 118 = .ok (.iconst 3, 1) := by decide +kernel
theorem dX5_look_119 : decode cX5_look 119 = .ok (.goto 4, 3) := by decide +kernel
theorem dX5_look_122 : decode cX5_look 122 = .ok (.iconst 4, 1) := by decide +kernel
theorem dX5_look_123 : decode cX5_look 123 = .ok (.putfield 25, 3) := by decide +kernel
theorem dX5_look_126 : decode cX5_look 126 = .ok (.aload_n 0, 1) := by decide +kernel
theorem dX5_look_127 : decode cX5_look 127 = .ok (.dup, 1) := by decide +kernel
theorem dX5_look_128 : decode cX5_look 128 = .ok (.getfield 15, 3) := by decide +kernel
theorem dX5_look_131 : decode cX5_look 131 = .ok (.iconst 1, 1) := by decide +kernel
theorem dX5_look_132 : decode cX5_look 132 = .ok (.iadd, 1) := by decide +kernel
theorem dX5_look_133 : decode cX5_look 133 = .ok (.putfield 15, 3) := by decide +kernel
theorem dX5_look_136 : decode cX5_look 136 = .ok (.return_, 1) := by decide +kernel
theorem dX5_lookAtLetters_0 : decode cX5_lookAtLetters 0 = .ok (.aload_n 0, 1) := by decide +kernel
theorem dX5_lookAtLetters_1 : decode cX5_lookAtLetters 1 = .ok (.lconst 0, 1) := by decide +kernel
theorem dX5_lookAtLetters_2 : decode cX5_lookAtLetters 2 = .ok (.putfield 34, 3) := by decide +kernel
theorem dX5_lookAtLetters_5 : decode cX5_lookAtLetters 5 = .ok (.aload_n 0, 1) := by decide +kernel
theorem dX5_lookAtLetters_6 : decode cX5_lookAtLetters 6 = .ok (.getfield 15, 3) := by decide +kernel
theorem dX5_lookAtLetters_9 : decode cX5_lookAtLetters 9 = .ok (.aload_n 0, 1) := by decide +kernel
theorem dX5_lookAtLetters_10 : decode cX5_lookAtLetters 10 = .ok (.getfield 9, 3) := by decide +kernel
theorem dX5_lookAtLetters_13 : decode cX5_lookAtLetters 13 = .ok (.if_icmp .ge 70, 3) := by decide +kernel
theorem dX5_lookAtLetters_16 : decode cX5_lookAtLetters 16 = .ok (.aload_n 0, 1) := by decide +kernel
theorem dX5_lookAtLetters_17 : decode cX5_lookAtLetters 17 = .ok (.getfield 59, 3) := by decide +kernel
theorem dX5_lookAtLetters_20 : decode cX5_lookAtLetters 20 = .ok (.aload_n 0, 1) := by decide +kernel
theorem dX5_lookAtLetters_21 : decode cX5_lookAtLetters 21 = .ok (.getfield 15, 3) := by decide +kernel
theorem dX5_lookAtLetters_24 : decode cX5_lookAtLetters 24 = .ok (.baload, 1) := by decide +kernel
theorem dX5_lookAtLetters_25 : decode cX5_lookAtLetters 25 = .ok (.bipush 97, 2) := by decide +kernel
theorem dX5_lookAtLetters_27 : decode cX5_lookAtLetters 27 = .ok (.if_icmp .lt 56, 3) := by decide +kernel
theorem dX5_lookAtLetters_30 : decode cX5_lookAtLetters 30 = .ok (.aload_n 0, 1) := by decide +kernel
theorem dX5_lookAtLetters_31 : decode cX5_lookAtLetters 31 = .ok (.getfield 59, 3) := by decide +kernel
theorem dX5_lookAtLetters_34 : decode cX5_lookAtLetters 34 = .ok (.aload_n 0, 1) := by decide +kernel
theorem dX5_lookAtLetters_35 : decode cX5_lookAtLetters 35 = .ok (.getfield 15, 3) := by decide +kernel
theorem dX5_lookAtLetters_38 : decode cX5_lookAtLetters 38 = .ok (.baload, 1) := by decide +kernel
theorem dX5_lookAtLetters_39 : decode cX5_lookAtLetters 39 = .ok (.bipush 122, 2) := by decide +kernel
theorem dX5_lookAtLetters_41 : decode cX5_lookAtLetters 41 = .ok (.if_icmp .gt 42, 3) := by decide +kernel
theorem dX5_lookAtLetters_44 : decode cX5_lookAtLetters 44 = .ok (.aload_n 0, 1) := by decide +kernel
theorem dX5_lookAtLetters_45 : decode cX5_lookAtLetters 45 = .ok (.aload_n 0, 1) := by decide +kernel
theorem dX5_lookAtLetters_46 : decode cX5_lookAtLetters 46 = .ok (.getfield 34, 3) := by decide +kernel
theorem dX5_lookAtLetters_49 : decode cX5_lookAtLetters 49 = .ok (.iconst 5, 1) := by decide +kernel
theorem dX5_lookAtLetters_50 : decode cX5_lookAtLetters 50 = .ok (.lshl, 1) := by decide +kernel
theorem dX5_lookAtLetters_51 : decode cX5_lookAtLetters 51 = .ok (.aload_n 0, 1) := by decide +kernel
theorem dX5_lookAtLetters_52 : decode cX5_lookAtLetters 52 = .ok (.getfield 59, 3) := by decide +kernel
theorem dX5_lookAtLetters_55 : decode cX5_lookAtLetters 55 = .ok (.aload_n 0, 1) := by decide +kernel
theorem dX5_lookAtLetters_56 : decode cX5_lookAtLetters 56 = .ok (.getfield 15, 3) := by decide +kernel
theorem dX5_lookAtLetters_59 : decode cX5_lookAtLetters 59 = .ok (.baload, 1) := by decide +kernel
theorem dX5_lookAtLetters_60 : decode cX5_lookAtLetters 60 = .ok (.bipush 97, 2) := by decide +kernel
theorem dX5_lookAtLetters_62 : decode cX5_lookAtLetters 62 = .ok (.isub, 1) := by decide +kernel
theorem dX5_lookAtLetters_63 : decode cX5_lookAtLetters 63 = .ok (.iconst 1, 1) := by decide +kernel
theorem dX5_lookAtLetters_64 : decode cX5_lookAtLetters 64 = .ok (.iadd, 1) := by decide +kernel
theorem dX5_lookAtLetters_65 : decode cX5_lookAtLetters 65 = .ok (.i2l, 1) := by decide +kernel
theorem dX5_lookAtLetters_66 : decode cX5_lookAtLetters 66 = .ok (.ladd, 1) := by decide +kernel
theorem dX5_lookAtLetters_67 : decode cX5_lookAtLetters 67 = .ok (.putfield 34, 3) := by decide +kernel
theorem dX5_lookAtLetters_70 : decode cX5_lookAtLetters 70 = .ok (.aload_n 0, 1) := by decide +kernel
theorem dX5_lookAtLetters_71 : decode cX5_lookAtLetters 71 = .ok (.dup, 1) := by decide +kernel
theorem dX5_lookAtLetters_72 : decode cX5_lookAtLetters 72 = .ok (.getfield 15, 3) := by decide +kernel
theorem dX5_lookAtLetters_75 : decode cX5_lookAtLetters 75 = .ok (.iconst 1, 1) := by decide +kernel
theorem dX5_lookAtLetters_76 : decode cX5_lookAtLetters 76 = .ok (.iadd, 1) := by decide +kernel
theorem dX5_lookAtLetters_77 : decode cX5_lookAtLetters 77 = .ok (.putfield 15, 3) := by decide +kernel
theorem dX5_lookAtLetters_80 : decode cX5_lookAtLetters 80 = .ok (.goto (-75), 3) := by decide +kernel
theorem dX5_lookAtLetters_83 : decode cX5_lookAtLetters 83 = .ok (.aload_n 0, 1) := by decide +kernel
theorem dX5_lookAtLetters_84 : decode cX5_lookAtLetters 84 = .ok (.aload_n 0, 1) := by decide +kernel
theorem dX5_lookAtLetters_85 : decode cX5_lookAtLetters 85 = .ok (.getfield 15, 3) := by decide +kernel
theorem dX5_lookAtLetters_88 : decode cX5_lookAtLetters 88 = .ok (.aload_n 0, 1) := by decide +kernel
theorem dX5_lookAtLetters_89 : decode cX5_lookAtLetters 89 = .ok (.getfield 28, 3) := by decide +kernel
theorem dX5_lookAtLetters_92 : decode cX5_lookAtLetters 92 = .ok (.isub, 1) := by decide +kernel
theorem dX5_lookAtLetters_93 : decode cX5_lookAtLetters 93 = .ok (.putfield 31, 3) := by decide +kernel
theorem dX5_lookAtLetters_96 : decode cX5_lookAtLetters 96 = .ok (.aload_n 0, 1) := by decide +kernel
theorem dX5_lookAtLetters_97 : decode cX5_lookAtLetters 97 = .ok (.aload_n 0, 1) := by decide +kernel
theorem dX5_lookAtLetters_98 : decode cX5_lookAtLetters 98 = .ok (.getfield 31, 3) := by decide +kernel
theorem dX5_lookAtLetters_101 : decode cX5_lookAtLetters 101 = .ok (.bipush 8, 2) := by decide +kernel
theorem dX5_lookAtLetters_103 : decode cX5_lookAtLetters 103 = .ok (.if_icmp .gt 7, 3) := by decide +kernel
theorem dX5_lookAtLetters_106 : decode cX5_lookAtLetters 106 = .ok (.iconst 1, 1) := by decide +kernel
theorem dX5_lookAtLetters_107 : decode cX5_lookAtLetters 107 = .ok (.goto 4, 3) := by decide +kernel
theorem dX5_lookAtLetters_110 : decode cX5_lookAtLetters 110 = .ok (.iconst 4, 1) := by decide +kernel
theorem dX5_lookAtLetters_111 : decode cX5_lookAtLetters 111 = .ok (.putfield 25, 3) := by decide +kernel
theorem dX5_lookAtLetters_114 : decode cX5_lookAtLetters 114 = .ok (.return_, 1) := by decide +kernel
theorem dX5_lookAtDigits_0 : decode cX5_lookAtDigits 0 = .ok (.aload_n 0, 1) := by decide +kernel
theorem dX5_lookAtDigits_1 : decode cX5_lookAtDigits 1 = .ok (.iconst 0, 1) := by decide +kernel
theorem dX5_lookAtDigits_2 : decode cX5_lookAtDigits 2 = .ok (.putfield 38, 3) := by decide +kernel
theorem dX5_lookAtDigits_5 : decode cX5_lookAtDigits 5 = .ok (.aload_n 0, 1) := by decide +kernel
theorem dX5_lookAtDigits_6 : decode cX5_lookAtDigits 6 = .ok (.getfield 15, 3) := by decide +kernel
theorem dX5_lookAtDigits_9 : decode cX5_lookAtDigits 9 = .ok (.aload_n 0, 1) := by decide +kernel
theorem dX5_lookAtDigits_10 : decode cX5_lookAtDigits 10 = .ok (.getfield 9, 3) := by decide +kernel
theorem dX5_lookAtDigits_13 : decode cX5_lookAtDigits 13 = .ok (.if_icmp .ge 68, 3) := by decide +kernel
theorem dX5_lookAtDigits_16 : decode cX5_lookAtDigits 16 = .ok (.aload_n 0, 1) := by decide +kernel
theorem dX5_lookAtDigits_17 : decode cX5_lookAtDigits 17 = .ok (.getfield 59, 3) := by decide +kernel
theorem dX5_lookAtDigits_20 : decode cX5_lookAtDigits 20 = .ok (.aload_n 0, 1) := by decide +kernel
theorem dX5_lookAtDigits_21 : decode cX5_lookAtDigits 21 = .ok (.getfield 15, 3) := by decide +kernel
theorem dX5_lookAtDigits_24 : decode cX5_lookAtDigits 24 = .ok (.baload, 1) := by decide +kernel
theorem dX5_lookAtDigits_25 : decode cX5_lookAtDigits 25 = .ok (.bipush 48, 2) := by decide +kernel
theorem dX5_lookAtDigits_27 : decode cX5_lookAtDigits 27 = .ok (.if_icmp .lt 54, 3) := by decide +kernel
theorem dX5_lookAtDigits_30 : decode cX5_lookAtDigits 30 = .ok (.aload_n 0, 1) := by decide +kernel
theorem dX5_lookAtDigits_31 : decode cX5_lookAtDigits 31 = .ok (.getfield 59, 3) := by decide +kernel
theorem dX5_lookAtDigits_34 : decode cX5_lookAtDigits 34 = .ok (.aload_n 0, 1) := by decide +kernel
theorem dX5_lookAtDigits_35 : decode cX5_lookAtDigits 35 = .ok (.getfield 15, 3) := by decide +kernel
theorem dX5_lookAtDigits_38 : decode cX5_lookAtDigits 38 = .ok (.baload, 1) := by decide +kernel
theorem dX5_lookAtDigits_39 : decode cX5_lookAtDigits 39 = .ok (.bipush 57, 2) := by decide +kernel
theorem dX5_lookAtDigits_41 : decode cX5_lookAtDigits 41 = .ok (.if_icmp .gt 40, 3) := by decide +kernel
theorem dX5_lookAtDigits_44 : decode cX5_lookAtDigits 44 = .ok (.aload_n 0, 1) := by decide +kernel
theorem dX5_lookAtDigits_45 : decode cX5_lookAtDigits 45 = .ok (.aload_n 0, 1) := by decide +kernel
theorem dX5_lookAtDigits_46 : decode cX5_lookAtDigits 46 = .ok (.getfield 38, 3) := by decide +kernel
theorem dX5_lookAtDigits_49 : decode cX5_lookAtDigits 49 = .ok (.bipush 10, 2) := by decide +kernel
theorem dX5_lookAtDigits_51 : decode cX5_lookAtDigits 51 = .ok (.imul, 1) := by decide +kernel
theorem dX5_lookAtDigits_52 : decode cX5_lookAtDigits 52 = .ok (.aload_n 0, 1) := by decide +kernel
theorem dX5_lookAtDigits_53 : decode cX5_lookAtDigits 53 = .ok (.getfield 59, 3) := by decide +kernel
theorem dX5_lookAtDigits_56 : decode cX5_lookAtDigits 56 = .ok (.aload_n 0, 1) := by decide +kernel
theorem dX5_lookAtDigits_57 : decode cX5_lookAtDigits 57 = .ok (.getfield 15, 3) := by decide +kernel
theorem dX5_lookAtDigits_60 : decode cX5_lookAtDigits 60 = .ok (.baload, 1) := by decide +kernel
theorem dX5_lookAtDigits_61 : decode cX5_lookAtDigits 61 = .ok (.bipush 48, 2) := by decide +kernel
theorem dX5_lookAtDigits_63 : decode cX5_lookAtDigits 63 = .ok (.isub, 1) := by decide +kernel
theorem dX5_lookAtDigits_64 : decode cX5_lookAtDigits 64 = .ok (.iadd, 1) := by decide +kernel
theorem dX5_lookAtDigits_65 : decode cX5_lookAtDigits 65 = .ok (.putfield 38, 3) := by decide +kernel
theorem dX5_lookAtDigits_68 : decode cX5_lookAtDigits 68 = .ok (.aload_n 0, 1) := by decide +kernel
theorem dX5_lookAtDigits_69 : decode cX5_lookAtDigits 69 = .ok (.dup, 1) := by decide +kernel
theorem dX5_lookAtDigits_70 : decode cX5_lookAtDigits 70 = .ok (.getfield 15, 3) := by decide +kernel
theorem dX5_lookAtDigits_73 : decode cX5_lookAtDigits 73 = .ok (.iconst 1, 1) := by decide +kernel
theorem dX5_lookAtDigits_74 : decode cX5_lookAtDigits 74 = .ok (.iadd, 1) := by decide +kernel
theorem dX5_lookAtDigits_75 : decode cX5_lookAtDigits 75 = .ok (.putfield 15, 3) := by decide +kernel
theorem dX5_lookAtDigits_78 : decode cX5_lookAtDigits 78 = .ok (.goto (-73), 3) := by decide +kernel
theorem dX5_lookAtDigits_81 : decode cX5_lookAtDigits 81 = .ok (.aload_n 0, 1) := by decide +kernel
theorem dX5_lookAtDigits_82 : decode cX5_lookAtDigits 82 = .ok (.aload_n 0, 1) := by decide +kernel
theorem dX5_lookAtDigits_83 : decode cX5_lookAtDigits 83 = .ok (.getfield 15, 3) := by decide +kernel
theorem dX5_lookAtDigits_86 : decode cX5_lookAtDigits 86 = .ok (.aload_n 0, 1) := by decide +kernel
theorem dX5_lookAtDigits_87 : decode cX5_lookAtDigits 87 = .ok (.getfield 28, 3) := by decide +kernel
theorem dX5_lookAtDigits_90 : decode cX5_lookAtDigits 90 = .ok (.isub, 1) := by decide +kernel
theorem dX5_lookAtDigits_91 : decode cX5_lookAtDigits 91 = .ok (.putfield 31, 3) := by decide +kernel
theorem dX5_lookAtDigits_94 : decode cX5_lookAtDigits 94 = .ok (.aload_n 0, 1) := by decide +kernel
theorem dX5_lookAtDigits_95 : decode cX5_lookAtDigits 95 = .ok (.aload_n 0, 1) := by decide +kernel
theorem dX5_lookAtDigits_96 : decode cX5_lookAtDigits 96 = .ok (.getfield 31, 3) := by decide +kernel
theorem dX5_lookAtDigits_99 : decode cX5_lookAtDigits 99 = .ok (.iconst 3, 1) := by decide +kernel
theorem dX5_lookAtDigits_100 : decode cX5_lookAtDigits 100 = .ok (.if_icmp .gt 7, 3) := by decide +kernel
theorem dX5_lookAtDigits_103 : decode cX5_lookAtDigits 103 = .ok (.iconst 2, 1) := by decide +kernel
theorem dX5_lookAtDigits_104 : decode cX5_lookAtDigits 104 = .ok (.goto 4, 3) := by decide +kernel
theorem dX5_lookAtDigits_107 : decode cX5_lookAtDigits 107 = .ok (.iconst 4, 1) := by decide +kernel
theorem dX5_lookAtDigits_108 : decode cX5_lookAtDigits 108 = .ok (.putfield 25, 3) := by decide +kernel
theorem dX5_lookAtDigits_111 : decode cX5_lookAtDigits 111 = .ok (.return_, 1) := by decide +kernel
theorem dX5_is_0 : decode cX5_is 0 = .ok (.aload_n 0, 1) := by decide +kernel
theorem dX5_is_1 : decode cX5_is 1 = .ok (.getfield 25, 3) := by decide +kernel
theorem dX5_is_4 : decode cX5_is 4 = .ok (.iconst 1, 1) := by decide +kernel
theorem dX5_is_5 : decode cX5_is 5 = .ok (.if_icmp .ne 14, 3) := by decide +kernel
theorem dX5_is_8 : decode cX5_is 8 = .ok (.aload_n 0, 1) := by decide +kernel
theorem dX5_is_9 : decode cX5_is 9 = .ok (.getfield 31, 3) := by decide +kernel
theorem dX5_is_12 : decode cX5_is 12 = .ok (.aload_n 1, 1) := by decide +kernel
theorem dX5_is_13 : decode cX5_is 13 = .ok (.invokevirtual 98, 3) := by decide +kernel
theorem dX5_is_16 : decode cX5_is 16 = .ok (.if_icmp .eq 5, 3) := by decide +kernel
theorem dX5_is_19 : decode cX5_is 19 = .ok (.iconst 0, 1) := by decide +kernel
theorem dX5_is_20 : decode cX5_is 20 = .ok (.ireturn, 1) := by decide +kernel
theorem dX5_is_21 : decode cX5_is 21 = .ok (.lconst 0, 1) := by decide +kernel
theorem dX5_is_22 : decode cX5_is 22 = .ok (.lstore_n 2, 1) := by decide +kernel
theorem dX5_is_23 : decode cX5_is 23 = .ok (.iconst 0, 1) := by decide +kernel
theorem dX5_is_24 : decode cX5_is 24 = .ok (.istore 4, 2) := by decide +kernel
theorem dX5_is_26 : decode cX5_is 26 = .ok (.iload 4, 2) := by decide +kernel
theorem dX5_is_28 : decode cX5_is 28 = .ok (.aload_n 0, 1) := by decide +kernel
theorem dX5_is_29 : decode cX5_is 29 = .ok (.getfield 31, 3) := by decide +kernel
theorem dX5_is_32 : decode cX5_is 32 = .ok (.if_icmp .ge 26, 3) := by decide +kernel
theorem dX5_is_35 : decode cX5_is 35 = .ok (.lload_n 2, 1) := by decide +kernel
theorem dX5_is_36 : decode cX5_is 36 = .ok (.iconst 5, 1) := by decide +kernel
theorem dX5_is_37 : decode cX5_is 37 = .ok (.lshl, 1) := by decide +kernel
theorem dX5_is_38 : decode cX5_is 38 = .ok (.aload_n 1, 1) := by decide +kernel
theorem dX5_is_39 : decode cX5_is 39 = .ok (.iload 4, 2) := by decide +kernel
theorem dX5_is_41 : decode cX5_is 41 = .ok (.invokevirtual 103, 3) := by decide +kernel
theorem dX5_is_44 : decode cX5_is 44 = .ok (.bipush 97, 2) := by decide +kernel
theorem dX5_is_46 : decode cX5_is 46 = .ok (.isub, 1) := by decide +kernel
theorem dX5_is_47 : decode cX5_is 47 = .ok (.iconst 1, 1) := by decide +kernel
theorem dX5_is_48 : decode cX5_is 48 = .ok (.iadd, 1) := by decide +kernel
theorem dX5_is_49 : decode cX5_is 49 = .ok (.i2l, 1) := by decide +kernel
theorem dX5_is_50 : decode cX5_is 50 = .ok (.ladd, 1) := by decide +kernel
theorem dX5_is_51 : decode cX5_is 51 = .ok (.lstore_n 2, 1) := by decide +kernel
theorem dX5_is_52 : decode cX5_is 52 = .ok (.iinc 4 1, 3) := by decide +kernel
theorem dX5_is_55 : decode cX5_is 55 = .ok (.goto (-29), 3) := by decide +kernel
theorem dX5_is_58 : decode cX5_is 58 = .ok (.lload_n 2, 1) := by decide +kernel
theorem dX5_is_59 : decode cX5_is 59 = .ok (.aload_n 0, 1) := by decide +kernel
theorem dX5_is_60 : decode cX5_is 60 = .ok (.getfield 34, 3) := by decide +kernel
theorem dX5_is_63 : decode cX5_is 63 = .ok (.lcmp, 1) := by decide +kernel
theorem dX5_is_64 : decode cX5_is 64 = .ok (.ifCond .ne 7, 3) := by decide +kernel
theorem dX5_is_67 : decode cX5_is 67 = .ok (.iconst 1, 1) := by decide +kernel
theorem dX5_is_68 : decode cX5_is 68 = .ok (.goto 4, 3) := by decide +kernel
theorem dX5_is_71 : decode cX5_is 71 = .ok (.iconst 0, 1) := by decide +kernel
theorem dX5_is_72 : decode cX5_is 72 = .ok (.ireturn, 1) := by decide +kernel
theorem dX5_lineBegun_0 : decode cX5_lineBegun 0 = .ok (.aload_n 0, 1) := by decide +kernel
theorem dX5_lineBegun_1 : decode cX5_lineBegun 1 = .ok (.ldc 107, 2) := by decide +kernel
theorem dX5_lineBegun_3 : decode cX5_lineBegun 3 = .ok (.invokevirtual 109, 3) := by decide +kernel
theorem dX5_lineBegun_6 : decode cX5_lineBegun 6 = .ok (.ifCond .eq 5, 3) := by decide +kernel
theorem dX5_lineBegun_9 : decode cX5_lineBegun 9 = .ok (.iconst 1, 1) := by decide +kernel
theorem dX5_lineBegun_10 : decode cX5_lineBegun 10 = .ok (.ireturn, 1) := by decide +kernel
theorem dX5_lineBegun_11 : decode cX5_lineBegun 11 = .ok (.aload_n 0, 1) := by decide +kernel
theorem dX5_lineBegun_12 : decode cX5_lineBegun 12 = .ok (.ldc 113, 2) := by decide +kernel
theorem dX5_lineBegun_14 : decode cX5_lineBegun 14 = .ok (.invokevirtual 109, 3) := by decide +kernel
theorem dX5_lineBegun_17 : decode cX5_lineBegun 17 = .ok (.ifCond .eq 5, 3) := by decide +kernel
theorem dX5_lineBegun_20 : decode cX5_lineBegun 20 = .ok (.iconst 2, 1) := by decide +kernel
theorem dX5_lineBegun_21 : decode cX5_lineBegun 21 = .ok (.ireturn, 1) := by decide +kernel
theorem dX5_lineBegun_22 : decode cX5_lineBegun 22 = .ok (.aload_n 0, 1) := by decide +kernel
theorem dX5_lineBegun_23 : decode cX5_lineBegun 23 = .ok (.ldc 115, 2) := by decide +kernel
theorem dX5_lineBegun_25 : decode cX5_lineBegun 25 = .ok (.invokevirtual 109, 3) := by decide +kernel
theorem dX5_lineBegun_28 : decode cX5_lineBegun 28 = .ok (.ifCond .eq 5, 3) := by decide +kernel
theorem dX5_lineBegun_31 : decode cX5_lineBegun 31 = .ok (.iconst 3, 1) := by decide +kernel
theorem dX5_lineBegun_32 : decode cX5_lineBegun 32 = .ok (.ireturn, 1) := by decide +kernel
theorem dX5_lineBegun_33 : decode cX5_lineBegun 33 = .ok (.aload_n 0, 1) := by decide +kernel
theorem dX5_lineBegun_34 : decode cX5_lineBegun 34 = .ok (.ldc 117, 2) := by decide +kernel
theorem dX5_lineBegun_36 : decode cX5_lineBegun 36 = .ok (.invokevirtual 109, 3) := by decide +kernel
theorem dX5_lineBegun_39 : decode cX5_lineBegun 39 = .ok (.ifCond .eq 5, 3) := by decide +kernel
theorem dX5_lineBegun_42 : decode cX5_lineBegun 42 = .ok (.iconst 4, 1) := by decide +kernel
theorem dX5_lineBegun_43 : decode cX5_lineBegun 43 = .ok (.ireturn, 1) := by decide +kernel
theorem dX5_lineBegun_44 : decode cX5_lineBegun 44 = .ok (.aload_n 0, 1) := by decide +kernel
theorem dX5_lineBegun_45 : decode cX5_lineBegun 45 = .ok (.ldc 119, 2) := by decide +kernel
theorem dX5_lineBegun_47 : decode cX5_lineBegun 47 = .ok (.invokevirtual 109, 3) := by decide +kernel
theorem dX5_lineBegun_50 : decode cX5_lineBegun 50 = .ok (.ifCond .eq 5, 3) := by decide +kernel
theorem dX5_lineBegun_53 : decode cX5_lineBegun 53 = .ok (.iconst 5, 1) := by decide +kernel
theorem dX5_lineBegun_54 : decode cX5_lineBegun 54 = .ok (.ireturn, 1) := by decide +kernel
theorem dX5_lineBegun_55 : decode cX5_lineBegun 55 = .ok (.aload_n 0, 1) := by decide +kernel
theorem dX5_lineBegun_56 : decode cX5_lineBegun 56 = .ok (.ldc 121, 2) := by decide +kernel
theorem dX5_lineBegun_58 : decode cX5_lineBegun 58 = .ok (.invokevirtual 109, 3) := by decide +kernel
theorem dX5_lineBegun_61 : decode cX5_lineBegun 61 = .ok (.ifCond .eq 6, 3) := by decide +kernel
theorem dX5_lineBegun_64 : decode cX5_lineBegun 64 = .ok (.bipush 6, 2) := by decide +kernel
theorem dX5_lineBegun_66 : decode cX5_lineBegun 66 = .ok (.ireturn, 1) := by decide +kernel
theorem dX5_lineBegun_67 : decode cX5_lineBegun 67 = .ok (.aload_n 0, 1) := by decide +kernel
theorem dX5_lineBegun_68 : decode cX5_lineBegun 68 = .ok (.ldc 123, 2) := by decide +kernel
theorem dX5_lineBegun_70 : decode cX5_lineBegun 70 = .ok (.invokevirtual 109, 3) := by decide +kernel
theorem dX5_lineBegun_73 : decode cX5_lineBegun 73 = .ok (.ifCond .eq 6, 3) := by decide +kernel
theorem dX5_lineBegun_76 : decode cX5_lineBegun 76 = .ok (.bipush 7, 2) := by decide +kernel
theorem dX5_lineBegun_78 : decode cX5_lineBegun 78 = .ok (.ireturn, 1) := by decide +kernel
theorem dX5_lineBegun_79 : decode cX5_lineBegun 79 = .ok (.aload_n 0, 1) := by decide +kernel
theorem dX5_lineBegun_80 : decode cX5_lineBegun 80 = .ok (.ldc 125, 2) := by decide +kernel
theorem dX5_lineBegun_82 : decode cX5_lineBegun 82 = .ok (.invokevirtual 109, 3) := by decide +kernel
theorem dX5_lineBegun_85 : decode cX5_lineBegun 85 = .ok (.ifCond .eq 8, 3) := by decide +kernel
theorem dX5_lineBegun_88 : decode cX5_lineBegun 88 = .ok (.bipush 8, 2) := by decide +kernel
theorem dX5_lineBegun_90 : decode cX5_lineBegun 90 = .ok (.goto 4, 3) := by decide +kernel
theorem dX5_lineBegun_93 : decode cX5_lineBegun 93 = .ok (.iconst 0, 1) := by decide +kernel
theorem dX5_lineBegun_94 : decode cX5_lineBegun 94 = .ok (.ireturn, 1) := by decide +kernel
theorem dX5_isRoomFor_0 : decode cX5_isRoomFor 0 = .ok (.iload_n 1, 1) := by decide +kernel
theorem dX5_isRoomFor_1 : decode cX5_isRoomFor 1 = .ok (.tableswitch 147 2 8 #[43, 61, 79, 94, 111, 147, 129], 43) := by decide +kernel
theorem dX5_isRoomFor_44 : decode cX5_isRoomFor 44 = .ok (.aload_n 0, 1) := by decide +kernel
theorem dX5_isRoomFor_45 : decode cX5_isRoomFor 45 = .ok (.getfield 63, 3) := by decide +kernel
theorem dX5_isRoomFor_48 : decode cX5_isRoomFor 48 = .ok (.getfield 127, 3) := by decide +kernel
theorem dX5_isRoomFor_51 : decode cX5_isRoomFor 51 = .ok (.bipush 10, 2) := by decide +kernel
theorem dX5_isRoomFor_53 : decode cX5_isRoomFor 53 = .ok (.if_icmp .ge 7, 3) := by decide +kernel
theorem dX5_isRoomFor_56 : decode cX5_isRoomFor 56 = .ok (.iconst 1, 1) := by decide +kernel
theorem dX5_isRoomFor_57 : decode cX5_isRoomFor 57 = .ok (.goto 4, 3) := by decide +kernel
theorem dX5_isRoomFor_60 : decode cX5_isRoomFor 60 = .ok (.iconst 0, 1) := by decide +kernel
theorem dX5_isRoomFor_61 : decode cX5_isRoomFor 61 = .ok (.ireturn, 1) := by decide +kernel
theorem dX5_isRoomFor_62 : decode cX5_isRoomFor 62 = .ok (.aload_n 0, 1) := by decide +kernel
theorem dX5_isRoomFor_63 : decode cX5_isRoomFor 63 = .ok (.getfield 63, 3) := by decide +kernel
theorem dX5_isRoomFor_66 : decode cX5_isRoomFor 66 = .ok (.getfield 89, 3) := by decide +kernel
theorem dX5_isRoomFor_69 : decode cX5_isRoomFor 69 = .ok (.bipush 8, 2) := by decide +kernel
theorem dX5_isRoomFor_71 : decode cX5_isRoomFor 71 = .ok (.if_icmp .ge 7, 3) := by decide +kernel
theorem dX5_isRoomFor_74 : decode cX5_isRoomFor 74 = .ok (.iconst 1, 1) := by decide +kernel
theorem dX5_isRoomFor_75 : decode cX5_isRoomFor 75 = .ok (.goto 4, 3) := by decide +kernel
theorem dX5_isRoomFor_78 : decode cX5_isRoomFor 78 = .ok (.iconst 0, 1) := by decide +kernel
theorem dX5_isRoomFor_79 : decode cX5_isRoomFor 79 = .ok (.ireturn, 1) := by decide +kernel
theorem dX5_isRoomFor_80 : decode cX5_isRoomFor 80 = .ok (.aload_n 0, 1) := by decide +kernel
theorem dX5_isRoomFor_81 : decode cX5_isRoomFor 81 = .ok (.getfield 22, 3) := by decide +kernel
theorem dX5_isRoomFor_84 : decode cX5_isRoomFor 84 = .ok (.bipush 8, 2) := by decide +kernel
theorem dX5_isRoomFor_86 : decode cX5_isRoomFor 86 = .ok (.if_icmp .ge 7, 3) := by decide +kernel
theorem dX5_isRoomFor_89 : decode cX5_isRoomFor 89 = .ok (.iconst 1, 1) := by decide +kernel
theorem dX5_isRoomFor_90 : decode cX5_isRoomFor 90 = .ok (.goto 4, 3) := by decide +kernel
theorem dX5_isRoomFor_93 : decode cX5_isRoomFor 93 = .ok (.iconst 0, 1) := by decide +kernel
theorem dX5_isRoomFor_94 : decode cX5_isRoomFor 94 = .ok (.ireturn, 1) := by decide +kernel
theorem dX5_isRoomFor_95 : decode cX5_isRoomFor 95 = .ok (.aload_n 0, 1) := by decide +kernel
theorem dX5_isRoomFor_96 : decode cX5_isRoomFor 96 = .ok (.getfield 63, 3) := by decide +kernel
theorem dX5_isRoomFor_99 : decode cX5_isRoomFor 99 = .ok (.getfield 130, 3) := by decide +kernel
theorem dX5_isRoomFor_102 : decode cX5_isRoomFor 102 = .ok (.iconst 4, 1) := by decide +kernel
theorem dX5_isRoomFor_103 : decode cX5_isRoomFor 103 = .ok (.if_icmp .ge 7, 3) := by decide +kernel
theorem dX5_isRoomFor_106 : decode cX5_isRoomFor 106 = .ok (.iconst 1, 1) := by decide +kernel
theorem dX5_isRoomFor_107 : decode cX5_isRoomFor 107 = .ok (.goto 4, 3) := by decide +kernel
theorem dX5_isRoomFor_110 : decode cX5_isRoomFor 110 = .ok (.iconst 0, 1) := by decide +kernel
theorem dX5_isRoomFor_111 : decode cX5_isRoomFor 111 = .ok (.ireturn, 1) := by decide +kernel
theorem dX5_isRoomFor_112 : decode cX5_isRoomFor 112 = .ok (.aload_n 0, 1) := by decide +kernel
theorem dX5_isRoomFor_113 : decode cX5_isRoomFor 113 = .ok (.getfield 63, 3) := by decide +kernel
theorem dX5_isRoomFor_116 : decode cX5_isRoomFor 116 = .ok (.invokevirtual 133, 3) := by decide +kernel
theorem dX5_isRoomFor_119 : decode cX5_isRoomFor 119 = .ok (.bipush 8, 2) := by decide +kernel
theorem dX5_isRoomFor_121 : decode cX5_isRoomFor 121 = .ok (.if_icmp .ge 7, 3) := by decide +kernel
theorem dX5_isRoomFor_124 : decode cX5_isRoomFor 124 = .ok (.iconst 1, 1) := by decide +kernel
theorem dX5_isRoomFor_125 : decode cX5_isRoomFor 125 = .ok (.goto 4, 3) := by decide +kernel
theorem dX5_isRoomFor_128 : decode cX5_isRoomFor 128 = .ok (.iconst 0, 1) := by decide +kernel
theorem dX5_isRoomFor_129 : decode cX5_isRoomFor 129 = .ok (.ireturn, 1) := by decide +kernel
theorem dX5_isRoomFor_130 : decode cX5_isRoomFor 130 = .ok (.aload_n 0, 1) := by decide +kernel
theorem dX5_isRoomFor_131 : decode cX5_isRoomFor 131 = .ok (.getfield 63, 3) := by decide +kernel
theorem dX5_isRoomFor_134 : decode cX5_isRoomFor 134 = .ok (.getfield 136, 3) := by decide +kernel
theorem dX5_isRoomFor_137 : decode cX5_isRoomFor 137 = .ok (.bipush 6, 2) := by decide +kernel
theorem dX5_isRoomFor_139 : decode cX5_isRoomFor 139 = .ok (.if_icmp .ge 7, 3) := by decide +kernel
theorem dX5_isRoomFor_142 : decode cX5_isRoomFor 142 = .ok (.iconst 1, 1) := by decide +kernel
theorem dX5_isRoomFor_143 : decode cX5_isRoomFor 143 = .ok (.goto 4, 3) := by decide +kernel
theorem dX5_isRoomFor_146 : decode cX5_isRoomFor 146 = .ok (.iconst 0, 1) := by decide +kernel
theorem dX5_isRoomFor_147 : decode cX5_isRoomFor 147 = .ok (.ireturn, 1) := by decide +kernel
theorem dX5_isRoomFor_148 : decode cX5_isRoomFor 148 = .ok (.iconst 1, 1) := by decide +kernel
theorem dX5_isRoomFor_149 : decode cX5_isRoomFor 149 = .ok (.ireturn, 1) := by decide +kernel
theorem dX5_readLine_0 : decode cX5_readLine 0 = .ok (.aload_n 0, 1) := by decide +kernel
theorem dX5_readLine_1 : decode cX5_readLine 1 = .ok (.invokevirtual 139, 3) := by decide +kernel
theorem dX5_readLine_4 : decode cX5_readLine 4 = .ok (.istore_n 1, 1) := by decide +kernel
theorem dX5_readLine_5 : decode cX5_readLine 5 = .ok (.iload_n 1, 1) := by decide +kernel
theorem dX5_readLine_6 : decode cX5_readLine 6 = .ok (.ifCond .ne 9, 3) := by decide +kernel
theorem dX5_readLine_9 : decode cX5_readLine 9 = .ok (.aload_n 0, 1) := by decide +kernel
theorem dX5_readLine_10 : decode cX5_readLine 10 = .ok (.iconst 1, 1) := by decide +kernel
theorem dX5_readLine_11 : decode cX5_readLine 11 = .ok (.invokevirtual 85, 3) := by decide +kernel
theorem dX5_readLine_14 : decode cX5_readLine 14 = .ok (.ireturn, 1) := by decide +kernel
theorem dX5_readLine_15 : decode cX5_readLine 15 = .ok (.iload_n 1, 1) := by decide +kernel
theorem dX5_readLine_16 : decode cX5_readLine 16 = .ok (.iconst 1, 1) := by decide +kernel
theorem dX5_readLine_17 : decode cX5_readLine 17 = .ok (.if_icmp .ne 16, 3) := by decide +kernel
theorem dX5_readLine_20 : decode cX5_readLine 20 = .ok (.aload_n 0, 1) := by decide +kernel
theorem dX5_readLine_21 : decode cX5_readLine 21 = .ok (.getfield 18, 3) := by decide +kernel
theorem dX5_readLine_24 : decode cX5_readLine 24 = .ok (.ifCond .eq 9, 3) := by decide +kernel
theorem dX5_readLine_27 : decode cX5_readLine 27 = .ok (.aload_n 0, 1) := by decide +kernel
theorem dX5_readLine_28 : decode cX5_readLine 28 = .ok (.iconst 3, 1) := by decide +kernel
theorem dX5_readLine_29 : decode cX5_readLine 29 = .ok (.invokevirtual 85, 3) := by decide +kernel
theorem dX5_readLine_32 : decode cX5_readLine 32 = .ok (.ireturn, 1) := by decide +kernel
theorem dX5_readLine_33 : decode cX5_readLine 33 = .ok (.iload_n 1, 1) := by decide +kernel
theorem dX5_readLine_34 : decode cX5_readLine 34 = .ok (.iconst 1, 1) := by decide +kernel
theorem dX5_readLine_35 : decode cX5_readLine 35 = .ok (.if_icmp .eq 17, 3) := by decide +kernel
theorem dX5_readLine_38 : decode cX5_readLine 38 = .ok (.aload_n 0, 1) := by decide +kernel
theorem dX5_readLine_39 : decode cX5_readLine 39 = .ok (.getfield 18, 3) := by decide +kernel
theorem dX5_readLine_42 : decode cX5_readLine 42 = .ok (.ifCond .ne 10, 3) := by decide +kernel
theorem dX5_readLine_45 : decode cX5_readLine 45 = .ok (.aload_n 0, 1) := by decide +kernel
theorem dX5_readLine_46 : decode cX5_readLine 46 = .ok (.bipush 6, 2) := by decide +kernel
theorem dX5_readLine_48 : decode cX5_readLine 48 = .ok (.invokevirtual 85, 3) := by decide +kernel
theorem dX5_readLine_51 : decode cX5_readLine 51 = .ok (.ireturn, 1) := by decide +kernel
theorem dX5_readLine_52 : decode cX5_readLine 52 = .ok (.aload_n 0, 1) := by decide +kernel
theorem dX5_readLine_53 : decode cX5_readLine 53 = .ok (.iload_n 1, 1) := by decide +kernel
theorem dX5_readLine_54 : decode cX5_readLine 54 = .ok (.invokevirtual 142, 3) := by decide +kernel
theorem dX5_readLine_57 : decode cX5_readLine 57 = .ok (.ifCond .ne 9, 3) := by decide +kernel
theorem dX5_readLine_60 : decode cX5_readLine 60 = .ok (.aload_n 0, 1) := by decide +kernel
theorem dX5_readLine_61 : decode cX5_readLine 61 = .ok (.iconst 5, 1) := by decide +kernel
theorem dX5_readLine_62 : decode cX5_readLine 62 = .ok (.invokevirtual 85, 3) := by decide +kernel
theorem dX5_readLine_65 : decode cX5_readLine 65 = .ok (.ireturn, 1) := by decide +kernel
theorem dX5_readLine_66 : decode cX5_readLine 66 = .ok (.aload_n 0, 1) := by decide +kernel
theorem dX5_readLine_67 : decode cX5_readLine 67 = .ok (.invokevirtual 78, 3) := by decide +kernel
theorem dX5_readLine_70 : decode cX5_readLine 70 = .ok (.iload_n 1, 1) := by decide +kernel
theorem dX5_readLine_71 : decode cX5_readLine 71 = .ok (.tableswitch 76 1 7 #[41, 46, 51, 56, 61, 66, 71], 41) := by decide +kernel
theorem dX5_readLine_112 : decode cX5_readLine 112 = .ok (.aload_n 0, 1) := by decide +kernel
theorem dX5_readLine_113 : decode cX5_readLine 113 = .ok (.invokevirtual 145, 3) := by decide +kernel
theorem dX5_readLine_116 : decode cX5_readLine 116 = .ok (.ireturn, 1) := by decide +kernel
theorem dX5_readLine_117 : decode cX5_readLine 117 = .ok (.aload_n 0, 1) := by decide +kernel
theorem dX5_readLine_118 : decode cX5_readLine 118 = .ok (.invokevirtual 148, 3) := by decide +kernel
theorem dX5_readLine_121 : decode cX5_readLine 121 = .ok (.ireturn, 1) := by decide +kernel
theorem dX5_readLine_122 : decode cX5_readLine 122 = .ok (.aload_n 0, 1) := by decide +kernel
theorem dX5_readLine_123 : decode cX5_readLine 123 = .ok (.invokevirtual 151, 3) := by decide +kernel
theorem dX5_readLine_126 : decode cX5_readLine 126 = .ok (.ireturn, 1) := by decide +kernel
theorem dX5_readLine_127 : decode cX5_readLine 127 = .ok (.aload_n 0, 1) := by decide +kernel
theorem dX5_readLine_128 : decode cX5_readLine 128 = .ok (.invokevirtual 154, 3) := by decide +kernel
theorem dX5_readLine_131 : decode cX5_readLine 131 = .ok (.ireturn, 1) := by decide +kernel
theorem dX5_readLine_132 : decode cX5_readLine 132 = .ok (.aload_n 0, 1) := by decide +kernel
theorem dX5_readLine_133 : decode cX5_readLine 133 = .ok (.invokevirtual 157, 3) := by decide +kernel
theorem dX5_readLine_136 : decode cX5_readLine 136 = .ok (.ireturn, 1) := by decide +kernel
theorem dX5_readLine_137 : decode cX5_readLine 137 = .ok (.aload_n 0, 1) := by decide +kernel
theorem dX5_readLine_138 : decode cX5_readLine 138 = .ok (.invokevirtual 160, 3) := by decide +kernel
theorem dX5_readLine_141 : decode cX5_readLine 141 = .ok (.ireturn, 1) := by decide +kernel
theorem dX5_readLine_142 : decode cX5_readLine 142 = .ok (.aload_n 0, 1) := by decide +kernel
theorem dX5_readLine_143 : decode cX5_readLine 143 = .ok (.invokevirtual 163, 3) := by decide +kernel
theorem dX5_readLine_146 : decode cX5_readLine 146 = .ok (.ireturn, 1) := by decide +kernel
theorem dX5_readLine_147 : decode cX5_readLine 147 = .ok (.aload_n 0, 1) := by decide +kernel
theorem dX5_readLine_148 : decode cX5_readLine 148 = .ok (.invokevirtual 166, 3) := by decide +kernel
theorem dX5_readLine_151 : decode cX5_readLine 151 = .ok (.ireturn, 1) := by decide +kernel
theorem dX5_readFerry_0 : decode cX5_readFerry 0 = .ok (.aload_n 0, 1) := by decide +kernel
theorem dX5_readFerry_1 : decode cX5_readFerry 1 = .ok (.iconst 1, 1) := by decide +kernel
theorem dX5_readFerry_2 : decode cX5_readFerry 2 = .ok (.putfield 18, 3) := by decide +kernel
theorem dX5_readFerry_5 : decode cX5_readFerry 5 = .ok (.aload_n 0, 1) := by decide +kernel
theorem dX5_readFerry_6 : decode cX5_readFerry 6 = .ok (.ldc 169, 2) := by decide +kernel
theorem dX5_readFerry_8 : decode cX5_readFerry 8 = .ok (.invokevirtual 171, 3) := by decide +kernel
theorem dX5_readFerry_11 : decode cX5_readFerry 11 = .ok (.ifCond .eq 12, 3) := by decide +kernel
theorem dX5_readFerry_14 : decode cX5_readFerry 14 = .ok (.aload_n 0, 1) := by decide +kernel
theorem dX5_readFerry_15 : decode cX5_readFerry 15 = .ok (.iconst 2, 1) := by decide +kernel
theorem dX5_readFerry_16 : decode cX5_readFerry 16 = .ok (.iconst 5, 1) := by decide +kernel
theorem dX5_readFerry_17 : decode cX5_readFerry 17 = .ok (.invokevirtual 174, 3) := by decide +kernel
theorem dX5_readFerry_20 : decode cX5_readFerry 20 = .ok (.ifCond .ne 5, 3) := by decide +kernel
theorem dX5_readFerry_23 : decode cX5_readFerry 23 = .ok (.iconst 0, 1) := by decide +kernel
theorem dX5_readFerry_24 : decode cX5_readFerry 24 = .ok (.ireturn, 1) := by decide +kernel
theorem dX5_readFerry_25 : decode cX5_readFerry 25 = .ok (.aload_n 0, 1) := by decide +kernel
theorem dX5_readFerry_26 : decode cX5_readFerry 26 = .ok (.getfield 63, 3) := by decide +kernel
theorem dX5_readFerry_29 : decode cX5_readFerry 29 = .ok (.aload_n 0, 1) := by decide +kernel
theorem dX5_readFerry_30 : decode cX5_readFerry 30 = .ok (.getfield 47, 3) := by decide +kernel
theorem dX5_readFerry_33 : decode cX5_readFerry 33 = .ok (.putfield 178, 3) := by decide +kernel
theorem dX5_readFerry_36 : decode cX5_readFerry 36 = .ok (.aload_n 0, 1) := by decide +kernel
theorem dX5_readFerry_37 : decode cX5_readFerry 37 = .ok (.ldc 180, 2) := by decide +kernel
theorem dX5_readFerry_39 : decode cX5_readFerry 39 = .ok (.invokevirtual 171, 3) := by decide +kernel
theorem dX5_readFerry_42 : decode cX5_readFerry 42 = .ok (.ifCond .eq 12, 3) := by decide +kernel
theorem dX5_readFerry_45 : decode cX5_readFerry 45 = .ok (.aload_n 0, 1) := by decide +kernel
theorem dX5_readFerry_46 : decode cX5_readFerry 46 = .ok (.iconst 1, 1) := by decide +kernel
theorem dX5_readFerry_47 : decode cX5_readFerry 47 = .ok (.iconst 3, 1) := by decide +kernel
theorem dX5_readFerry_48 : decode cX5_readFerry 48 = .ok (.invokevirtual 174, 3) := by decide +kernel
theorem dX5_readFerry_51 : decode cX5_readFerry 51 = .ok (.ifCond .ne 5, 3) := by decide +kernel
theorem dX5_readFerry_54 : decode cX5_readFerry 54 = .ok (.iconst 0, 1) := by decide +kernel
theorem dX5_readFerry_55 : decode cX5_readFerry 55 = .ok (.ireturn, 1) := by decide +kernel
theorem dX5_readFerry_56 : decode cX5_readFerry 56 = .ok (.aload_n 0, 1) := by decide +kernel
theorem dX5_readFerry_57 : decode cX5_readFerry 57 = .ok (.getfield 63, 3) := by decide +kernel
theorem dX5_readFerry_60 : decode cX5_readFerry 60 = .ok (.aload_n 0, 1) := by decide +kernel
theorem dX5_readFerry_61 : decode cX5_readFerry 61 = .ok (.getfield 47, 3) := by decide +kernel
theorem dX5_readFerry_64 : decode cX5_readFerry 64 = .ok (.putfield 182, 3) := by decide +kernel
theorem dX5_readFerry_67 : decode cX5_readFerry 67 = .ok (.iconst 1, 1) := by decide +kernel
theorem dX5_readFerry_68 : decode cX5_readFerry 68 = .ok (.ireturn, 1) := by decide +kernel
theorem dX5_readWord_0 : decode cX5_readWord 0 = .ok (.aload_n 0, 1) := by decide +kernel
theorem dX5_readWord_1 : decode cX5_readWord 1 = .ok (.invokevirtual 184, 3) := by decide +kernel
theorem dX5_readWord_4 : decode cX5_readWord 4 = .ok (.ifCond .eq 19, 3) := by decide +kernel
theorem dX5_readWord_7 : decode cX5_readWord 7 = .ok (.aload_n 0, 1) := by decide +kernel
theorem dX5_readWord_8 : decode cX5_readWord 8 = .ok (.ldc 187, 2) := by decide +kernel
theorem dX5_readWord_10 : decode cX5_readWord 10 = .ok (.invokevirtual 171, 3) := by decide +kernel
theorem dX5_readWord_13 : decode cX5_readWord 13 = .ok (.ifCond .eq 10, 3) := by decide +kernel
theorem dX5_readWord_16 : decode cX5_readWord 16 = .ok (.aload_n 0, 1) := by decide +kernel
theorem dX5_readWord_17 : decode cX5_readWord 17 = .ok (.invokevirtual 188, 3) := by decide +kernel
theorem dX5_readWord_20 : decode cX5_readWord 20 = .ok (.ifCond .ne 5, 3) := by decide +kernel
theorem dX5_readWord_23 : decode cX5_readWord 23 = .ok (.iconst 0, 1) := by decide +kernel
theorem dX5_readWord_24 : decode cX5_readWord 24 = .ok (.ireturn, 1) := by decide +kernel
theorem dX5_readWord_25 : decode cX5_readWord 25 = .ok (.aload_n 0, 1) := by decide +kernel
theorem dX5_readWord_26 : decode cX5_readWord 26 = .ok (.ldc 191, 2) := by decide +kernel
theorem dX5_readWord_28 : decode cX5_readWord 28 = .ok (.invokevirtual 171, 3) := by decide +kernel
theorem dX5_readWord_31 : decode cX5_readWord 31 = .ok (.ifCond .eq 13, 3) := by decide +kernel
theorem dX5_readWord_34 : decode cX5_readWord 34 = .ok (.aload_n 0, 1) := by decide +kernel
theorem dX5_readWord_35 : decode cX5_readWord 35 = .ok (.iconst 0, 1) := by decide +kernel
theorem dX5_readWord_36 : decode cX5_readWord 36 = .ok (.bipush 99, 2) := by decide +kernel
theorem dX5_readWord_38 : decode cX5_readWord 38 = .ok (.invokevirtual 174, 3) := by decide +kernel
theorem dX5_readWord_41 : decode cX5_readWord 41 = .ok (.ifCond .ne 5, 3) := by decide +kernel
theorem dX5_readWord_44 : decode cX5_readWord 44 = .ok (.iconst 0, 1) := by decide +kernel
theorem dX5_readWord_45 : decode cX5_readWord 45 = .ok (.ireturn, 1) := by decide +kernel
theorem dX5_readWord_46 : decode cX5_readWord 46 = .ok (.aload_n 0, 1) := by decide +kernel
theorem dX5_readWord_47 : decode cX5_readWord 47 = .ok (.getfield 63, 3) := by decide +kernel
theorem dX5_readWord_50 : decode cX5_readWord 50 = .ok (.aload_n 0, 1) := by decide +kernel
theorem dX5_readWord_51 : decode cX5_readWord 51 = .ok (.getfield 41, 3) := by decide +kernel
theorem dX5_readWord_54 : decode cX5_readWord 54 = .ok (.aload_n 0, 1) := by decide +kernel
theorem dX5_readWord_55 : decode cX5_readWord 55 = .ok (.getfield 44, 3) := by decide +kernel
theorem dX5_readWord_58 : decode cX5_readWord 58 = .ok (.aload_n 0, 1) := by decide +kernel
theorem dX5_readWord_59 : decode cX5_readWord 59 = .ok (.getfield 47, 3) := by decide +kernel
theorem dX5_readWord_62 : decode cX5_readWord 62 = .ok (.invokevirtual 193, 3) := by decide +kernel
theorem dX5_readWord_65 : decode cX5_readWord 65 = .ok (.iconst 1, 1) := by decide +kernel
theorem dX5_readWord_66 : decode cX5_readWord 66 = .ok (.ireturn, 1) := by decide +kernel
theorem dX5_readPerson_0 : decode cX5_readPerson 0 = .ok (.aload_n 0, 1) := by decide +kernel
theorem dX5_readPerson_1 : decode cX5_readPerson 1 = .ok (.invokevirtual 184, 3) := by decide +kernel
theorem dX5_readPerson_4 : decode cX5_readPerson 4 = .ok (.ifCond .ne 5, 3) := by decide +kernel
theorem dX5_readPerson_7 : decode cX5_readPerson 7 = .ok (.iconst 0, 1) := by decide +kernel
theorem dX5_readPerson_8 : decode cX5_readPerson 8 = .ok (.ireturn, 1) := by decide +kernel
theorem dX5_readPerson_9 : decode cX5_readPerson 9 = .ok (.aload_n 0, 1) := by decide +kernel
theorem dX5_readPerson_10 : decode cX5_readPerson 10 = .ok (.ldc 197, 2) := by decide +kernel
theorem dX5_readPerson_12 : decode cX5_readPerson 12 = .ok (.invokevirtual 109, 3) := by decide +kernel
theorem dX5_readPerson_15 : decode cX5_readPerson 15 = .ok (.ifCond .eq 7, 3) := by decide +kernel
theorem dX5_readPerson_18 : decode cX5_readPerson 18 = .ok (.iconst 0, 1) := by decide +kernel
theorem dX5_readPerson_19 : decode cX5_readPerson 19 = .ok (.goto 43, 3) := by decide +kernel
theorem dX5_readPerson_22 : decode cX5_readPerson 22 = .ok (.aload_n 0, 1) := by decide +kernel
theorem dX5_readPerson_23 : decode cX5_readPerson 23 = .ok (.ldc 199, 2) := by decide +kernel
theorem dX5_readPerson_25 : decode cX5_readPerson 25 = .ok (.invokevirtual 109, 3) := by decide +kernel
theorem dX5_readPerson_28 : decode cX5_readPerson 28 = .ok (.ifCond .eq 7, 3) := by decide +kernel
theorem dX5_readPerson_31 : decode cX5_readPerson 31 = .ok (.iconst 1, 1) := by decide +kernel
theorem dX5_readPerson_32 : decode cX5_readPerson 32 = .ok (.goto 30, 3) := by decide +kernel
theorem dX5_readPerson_35 : decode cX5_readPerson 35 = .ok (.aload_n 0, 1) := by decide +kernel
theorem dX5_readPerson_36 : decode cX5_readPerson 36 = .ok (.ldc 201, 2) := by decide +kernel
theorem dX5_readPerson_38 : decode cX5_readPerson 38 = .ok (.invokevirtual 109, 3) := by decide +kernel
theorem dX5_readPerson_41 : decode cX5_readPerson 41 = .ok (.ifCond .eq 7, 3) := by decide +kernel
theorem dX5_readPerson_44 : decode cX5_readPerson 44 = .ok (.iconst 2, 1) := by decide +kernel
theorem dX5_readPerson_45 : decode cX5_readPerson 45 = .ok (.goto 17, 3) := by decide +kernel
theorem dX5_readPerson_48 : decode cX5_readPerson 48 = .ok (.aload_n 0, 1) := by decide +kernel
theorem dX5_readPerson_49 : decode cX5_readPerson 49 = .ok (.ldc 203, 2) := by decide +kernel
theorem dX5_readPerson_51 : decode cX5_readPerson 51 = .ok (.invokevirtual 109, 3) := by decide +kernel
theorem dX5_readPerson_54 : decode cX5_readPerson 54 = .ok (.ifCond .eq 7, 3) := by decide +kernel
theorem dX5_readPerson_57 : decode cX5_readPerson 57 = .ok (.iconst 3, 1) := by decide +kernel
theorem dX5_readPerson_58 : decode cX5_readPerson 58 = .ok (.goto 4, 3) := by decide +kernel
theorem dX5_readPerson_61 : decode cX5_readPerson 61 = .ok (.iconst (-1), 1) := by decide +kernel
theorem dX5_readPerson_62 : decode cX5_readPerson 62 = .ok (.istore_n 1, 1) := by decide +kernel
theorem dX5_readPerson_63 : decode cX5_readPerson 63 = .ok (.iload_n 1, 1) := by decide +kernel
theorem dX5_readPerson_64 : decode cX5_readPerson 64 = .ok (.iconst (-1), 1) := by decide +kernel
theorem dX5_readPerson_65 : decode cX5_readPerson 65 = .ok (.if_icmp .ne 9, 3) := by decide +kernel
theorem dX5_readPerson_68 : decode cX5_readPerson 68 = .ok (.aload_n 0, 1) := by decide +kernel
theorem dX5_readPerson_69 : decode cX5_readPerson 69 = .ok (.iconst 1, 1) := by decide +kernel
theorem dX5_readPerson_70 : decode cX5_readPerson 70 = .ok (.invokevirtual 85, 3) := by decide +kernel
theorem dX5_readPerson_73 : decode cX5_readPerson 73 = .ok (.ireturn, 1) := by decide +kernel
theorem dX5_readPerson_74 : decode cX5_readPerson 74 = .ok (.aload_n 0, 1) := by decide +kernel
theorem dX5_readPerson_75 : decode cX5_readPerson 75 = .ok (.invokevirtual 78, 3) := by decide +kernel
theorem dX5_readPerson_78 : decode cX5_readPerson 78 = .ok (.aload_n 0, 1) := by decide +kernel
theorem dX5_readPerson_79 : decode cX5_readPerson 79 = .ok (.ldc 205, 2) := by decide +kernel
theorem dX5_readPerson_81 : decode cX5_readPerson 81 = .ok (.invokevirtual 171, 3) := by decide +kernel
theorem dX5_readPerson_84 : decode cX5_readPerson 84 = .ok (.ifCond .ne 5, 3) := by decide +kernel
theorem dX5_readPerson_87 : decode cX5_readPerson 87 = .ok (.iconst 0, 1) := by decide +kernel
theorem dX5_readPerson_88 : decode cX5_readPerson 88 = .ok (.ireturn, 1) := by decide +kernel
theorem dX5_readPerson_89 : decode cX5_readPerson 89 = .ok (.aload_n 0, 1) := by decide +kernel
theorem dX5_readPerson_90 : decode cX5_readPerson 90 = .ok (.ldc 207, 2) := by decide +kernel
theorem dX5_readPerson_92 : decode cX5_readPerson 92 = .ok (.invokevirtual 109, 3) := by decide +kernel
theorem dX5_readPerson_95 : decode cX5_readPerson 95 = .ok (.istore_n 2, 1) := by decide +kernel
theorem dX5_readPerson_96 : decode cX5_readPerson 96 = .ok (.iload_n 2, 1) := by decide +kernel
theorem dX5_readPerson_97 : decode cX5_readPerson 97 = .ok (.ifCond .ne 18, 3) := by decide +kernel
theorem dX5_readPerson_100 : decode cX5_readPerson 100 = .ok (.aload_n 0, 1) := by decide +kernel
theorem dX5_readPerson_101 : decode cX5_readPerson 101 = .ok (.ldc 209, 2) := by decide +kernel
theorem dX5_readPerson_103 : decode cX5_readPerson 103 = .ok (.invokevirtual 109, 3) := by decide +kernel
theorem dX5_readPerson_106 : decode cX5_readPerson 106 = .ok (.ifCond .ne 9, 3) := by decide +kernel
theorem dX5_readPerson_109 : decode cX5_readPerson 109 = .ok (.aload_n 0, 1) := by decide +kernel
theorem dX5_readPerson_110 : decode cX5_readPerson 110 = .ok (.iconst 1, 1) := by decide +kernel
theorem dX5_readPerson_111 : decode cX5_readPerson 111 = .ok (.invokevirtual 85, 3) := by decide +kernel
theorem dX5_readPerson_114 : decode cX5_readPerson 114 = .ok (.ireturn, 1) := by decide +kernel
theorem dX5_readPerson_115 : decode cX5_readPerson 115 = .ok (.aload_n 0, 1) := by decide +kernel
theorem dX5_readPerson_116 : decode cX5_readPerson 116 = .ok (.invokevirtual 78, 3) := by decide +kernel
theorem dX5_readPerson_119 : decode cX5_readPerson 119 = .ok (.aload_n 0, 1) := by decide +kernel
theorem dX5_readPerson_120 : decode cX5_readPerson 120 = .ok (.ldc 211, 2) := by decide +kernel
theorem dX5_readPerson_122 : decode cX5_readPerson 122 = .ok (.invokevirtual 171, 3) := by decide +kernel
theorem dX5_readPerson_125 : decode cX5_readPerson 125 = .ok (.ifCond .eq 10, 3) := by decide +kernel
theorem dX5_readPerson_128 : decode cX5_readPerson 128 = .ok (.aload_n 0, 1) := by decide +kernel
theorem dX5_readPerson_129 : decode cX5_readPerson 129 = .ok (.invokevirtual 213, 3) := by decide +kernel
theorem dX5_readPerson_132 : decode cX5_readPerson 132 = .ok (.ifCond .ne 5, 3) := by decide +kernel
theorem dX5_readPerson_135 : decode cX5_readPerson 135 = .ok (.iconst 0, 1) := by decide +kernel
theorem dX5_readPerson_136 : decode cX5_readPerson 136 = .ok (.ireturn, 1) := by decide +kernel
theorem dX5_readPerson_137 : decode cX5_readPerson 137 = .ok (.aload_n 0, 1) := by decide +kernel
theorem dX5_readPerson_138 : decode cX5_readPerson 138 = .ok (.invokevirtual 78, 3) := by decide +kernel
theorem dX5_readPerson_141 : decode cX5_readPerson 141 = .ok (.aload_n 0, 1) := by decide +kernel
theorem dX5_readPerson_142 : decode cX5_readPerson 142 = .ok (.getfield 63, 3) := by decide +kernel
theorem dX5_readPerson_145 : decode cX5_readPerson 145 = .ok (.aload_n 0, 1) := by decide +kernel
theorem dX5_readPerson_146 : decode cX5_readPerson 146 = .ok (.getfield 41, 3) := by decide +kernel
theorem dX5_readPerson_149 : decode cX5_readPerson 149 = .ok (.iload_n 1, 1) := by decide +kernel
theorem dX5_readPerson_150 : decode cX5_readPerson 150 = .ok (.iload_n 2, 1) := by decide +kernel
theorem dX5_readPerson_151 : decode cX5_readPerson 151 = .ok (.aload_n 0, 1) := by decide +kernel
theorem dX5_readPerson_152 : decode cX5_readPerson 152 = .ok (.getfield 50, 3) := by decide +kernel
theorem dX5_readPerson_155 : decode cX5_readPerson 155 = .ok (.invokevirtual 216, 3) := by decide +kernel
theorem dX5_readPerson_158 : decode cX5_readPerson 158 = .ok (.iconst 1, 1) := by decide +kernel
theorem dX5_readPerson_159 : decode cX5_readPerson 159 = .ok (.ireturn, 1) := by decide +kernel
theorem dX5_readKnows_0 : decode cX5_readKnows 0 = .ok (.aload_n 0, 1) := by decide +kernel
theorem dX5_readKnows_1 : decode cX5_readKnows 1 = .ok (.invokevirtual 220, 3) := by decide +kernel
theorem dX5_readKnows_4 : decode cX5_readKnows 4 = .ok (.ifCond .ne 5, 3) := by decide +kernel
theorem dX5_readKnows_7 : decode cX5_readKnows 7 = .ok (.iconst 0, 1) := by decide +kernel
theorem dX5_readKnows_8 : decode cX5_readKnows 8 = .ok (.ireturn, 1) := by decide +kernel
theorem dX5_readKnows_9 : decode cX5_readKnows 9 = .ok (.aload_n 0, 1) := by decide +kernel
theorem dX5_readKnows_10 : decode cX5_readKnows 10 = .ok (.getfield 50, 3) := by decide +kernel
theorem dX5_readKnows_13 : decode cX5_readKnows 13 = .ok (.istore_n 1, 1) := by decide +kernel
theorem dX5_readKnows_14 : decode cX5_readKnows 14 = .ok (.aload_n 0, 1) := by decide +kernel
theorem dX5_readKnows_15 : decode cX5_readKnows 15 = .ok (.invokevirtual 78, 3) := by decide +kernel
theorem dX5_readKnows_18 : decode cX5_readKnows 18 = .ok (.aload_n 0, 1) := by decide +kernel
theorem dX5_readKnows_19 : decode cX5_readKnows 19 = .ok (.invokevirtual 213, 3) := by decide +kernel
theorem dX5_readKnows_22 : decode cX5_readKnows 22 = .ok (.ifCond .ne 5, 3) := by decide +kernel
theorem dX5_readKnows_25 : decode cX5_readKnows 25 = .ok (.iconst 0, 1) := by decide +kernel
theorem dX5_readKnows_26 : decode cX5_readKnows 26 = .ok (.ireturn, 1) := by decide +kernel
theorem dX5_readKnows_27 : decode cX5_readKnows 27 = .ok (.aload_n 0, 1) := by decide +kernel
theorem dX5_readKnows_28 : decode cX5_readKnows 28 = .ok (.getfield 63, 3) := by decide +kernel
theorem dX5_readKnows_31 : decode cX5_readKnows 31 = .ok (.getfield 223, 3) := by decide +kernel
theorem dX5_readKnows_34 : decode cX5_readKnows 34 = .ok (.iload_n 1, 1) := by decide +kernel
theorem dX5_readKnows_35 : decode cX5_readKnows 35 = .ok (.iaload, 1) := by decide +kernel
theorem dX5_readKnows_36 : decode cX5_readKnows 36 = .ok (.aload_n 0, 1) := by decide +kernel
theorem dX5_readKnows_37 : decode cX5_readKnows 37 = .ok (.getfield 50, 3) := by decide +kernel
theorem dX5_readKnows_40 : decode cX5_readKnows 40 = .ok (.invokestatic 227, 3) := by decide +kernel
theorem dX5_readKnows_43 : decode cX5_readKnows 43 = .ok (.ifCond .eq 9, 3) := by decide +kernel
theorem dX5_readKnows_46 : decode cX5_readKnows 46 = .ok (.aload_n 0, 1) := by decide +kernel
theorem dX5_readKnows_47 : decode cX5_readKnows 47 = .ok (.iconst 3, 1) := by decide +kernel
theorem dX5_readKnows_48 : decode cX5_readKnows 48 = .ok (.invokevirtual 85, 3) := by decide +kernel
theorem dX5_readKnows_51 : decode cX5_readKnows 51 = .ok (.ireturn, 1) := by decide +kernel
theorem dX5_readKnows_52 : decode cX5_readKnows 52 = .ok (.aload_n 0, 1) := by decide +kernel
theorem dX5_readKnows_53 : decode cX5_readKnows 53 = .ok (.invokevirtual 78, 3) := by decide +kernel
theorem dX5_readKnows_56 : decode cX5_readKnows 56 = .ok (.aload_n 0, 1) := by decide +kernel
theorem dX5_readKnows_57 : decode cX5_readKnows 57 = .ok (.getfield 63, 3) := by decide +kernel
theorem dX5_readKnows_60 : decode cX5_readKnows 60 = .ok (.getfield 223, 3) := by decide +kernel
theorem dX5_readKnows_63 : decode cX5_readKnows 63 = .ok (.iload_n 1, 1) := by decide +kernel
theorem dX5_readKnows_64 : decode cX5_readKnows 64 = .ok (.dup2, 1) := by decide +kernel
theorem dX5_readKnows_65 : decode cX5_readKnows 65 = .ok (.iaload, 1) := by decide +kernel
theorem dX5_readKnows_66 : decode cX5_readKnows 66 = .ok (.iconst 1, 1) := by decide +kernel
theorem dX5_readKnows_67 : decode cX5_readKnows 67 = .ok (.aload_n 0, 1) := by decide +kernel
theorem dX5_readKnows_68 : decode cX5_readKnows 68 = .ok (.getfield 50, 3) := by decide +kernel
theorem dX5_readKnows_71 : decode cX5_readKnows 71 = .ok (.ishl, 1) := by decide +kernel
theorem dX5_readKnows_72 : decode cX5_readKnows 72 = .ok (.ior, 1) := by decide +kernel
theorem dX5_readKnows_73 : decode cX5_readKnows 73 = .ok (.iastore, 1) := by decide +kernel
theorem dX5_readKnows_74 : decode cX5_readKnows 74 = .ok (.aload_n 0, 1) := by decide +kernel
theorem dX5_readKnows_75 : decode cX5_readKnows 75 = .ok (.dup, 1) := by decide +kernel
theorem dX5_readKnows_76 : decode cX5_readKnows 76 = .ok (.getfield 22, 3) := by decide +kernel
theorem dX5_readKnows_79 : decode cX5_readKnows 79 = .ok (.iconst 1, 1) := by decide +kernel
theorem dX5_readKnows_80 : decode cX5_readKnows 80 = .ok (.iadd, 1) := by decide +kernel
theorem dX5_readKnows_81 : decode cX5_readKnows 81 = .ok (.putfield 22, 3) := by decide +kernel
theorem dX5_readKnows_84 : decode cX5_readKnows 84 = .ok (.iconst 1, 1) := by decide +kernel
theorem dX5_readKnows_85 : decode cX5_readKnows 85 = .ok (.ireturn, 1) := by decide +kernel
theorem dX5_readAlike_0 : decode cX5_readAlike 0 = .ok (.aload_n 0, 1) := by decide +kernel
theorem dX5_readAlike_1 : decode cX5_readAlike 1 = .ok (.invokevirtual 230, 3) := by decide +kernel
theorem dX5_readAlike_4 : decode cX5_readAlike 4 = .ok (.ifCond .ne 5, 3) := by decide +kernel
theorem dX5_readAlike_7 : decode cX5_readAlike 7 = .ok (.iconst 0, 1) := by decide +kernel
theorem dX5_readAlike_8 : decode cX5_readAlike 8 = .ok (.ireturn, 1) := by decide +kernel
theorem dX5_readAlike_9 : decode cX5_readAlike 9 = .ok (.aload_n 0, 1) := by decide +kernel
theorem dX5_readAlike_10 : decode cX5_readAlike 10 = .ok (.getfield 50, 3) := by decide +kernel
theorem dX5_readAlike_13 : decode cX5_readAlike 13 = .ok (.istore_n 1, 1) := by decide +kernel
theorem dX5_readAlike_14 : decode cX5_readAlike 14 = .ok (.aload_n 0, 1) := by decide +kernel
theorem dX5_readAlike_15 : decode cX5_readAlike 15 = .ok (.invokevirtual 78, 3) := by decide +kernel
theorem dX5_readAlike_18 : decode cX5_readAlike 18 = .ok (.aload_n 0, 1) := by decide +kernel
theorem dX5_readAlike_19 : decode cX5_readAlike 19 = .ok (.invokevirtual 230, 3) := by decide +kernel
theorem dX5_readAlike_22 : decode cX5_readAlike 22 = .ok (.ifCond .ne 5, 3) := by decide +kernel
theorem dX5_readAlike_25 : decode cX5_readAlike 25 = .ok (.iconst 0, 1) := by decide +kernel
theorem dX5_readAlike_26 : decode cX5_readAlike 26 = .ok (.ireturn, 1) := by decide +kernel
theorem dX5_readAlike_27 : decode cX5_readAlike 27 = .ok (.aload_n 0, 1) := by decide +kernel
theorem dX5_readAlike_28 : decode cX5_readAlike 28 = .ok (.getfield 63, 3) := by decide +kernel
theorem dX5_readAlike_31 : decode cX5_readAlike 31 = .ok (.iload_n 1, 1) := by decide +kernel
theorem dX5_readAlike_32 : decode cX5_readAlike 32 = .ok (.aload_n 0, 1) := by decide +kernel
theorem dX5_readAlike_33 : decode cX5_readAlike 33 = .ok (.getfield 50, 3) := by decide +kernel
theorem dX5_readAlike_36 : decode cX5_readAlike 36 = .ok (.invokevirtual 233, 3) := by decide +kernel
theorem dX5_readAlike_39 : decode cX5_readAlike 39 = .ok (.ifCond .eq 9, 3) := by decide +kernel
theorem dX5_readAlike_42 : decode cX5_readAlike 42 = .ok (.aload_n 0, 1) := by decide +kernel
theorem dX5_readAlike_43 : decode cX5_readAlike 43 = .ok (.iconst 3, 1) := by decide +kernel
theorem dX5_readAlike_44 : decode cX5_readAlike 44 = .ok (.invokevirtual 85, 3) := by decide +kernel
theorem dX5_readAlike_47 : decode cX5_readAlike 47 = .ok (.ireturn, 1) := by decide +kernel
theorem dX5_readAlike_48 : decode cX5_readAlike 48 = .ok (.aload_n 0, 1) := by decide +kernel
theorem dX5_readAlike_49 : decode cX5_readAlike 49 = .ok (.invokevirtual 78, 3) := by decide +kernel
theorem dX5_readAlike_52 : decode cX5_readAlike 52 = .ok (.aload_n 0, 1) := by decide +kernel
theorem dX5_readAlike_53 : decode cX5_readAlike 53 = .ok (.getfield 63, 3) := by decide +kernel
theorem dX5_readAlike_56 : decode cX5_readAlike 56 = .ok (.iload_n 1, 1) := by decide +kernel
theorem dX5_readAlike_57 : decode cX5_readAlike 57 = .ok (.aload_n 0, 1) := by decide +kernel
theorem dX5_readAlike_58 : decode cX5_readAlike 58 = .ok (.getfield 50, 3) := by decide +kernel
theorem dX5_readAlike_61 : decode cX5_readAlike 61 = .ok (.invokevirtual 236, 3) := by decide +kernel
theorem dX5_readAlike_64 : decode cX5_readAlike 64 = .ok (.iconst 1, 1) := by decide +kernel
theorem dX5_readAlike_65 : decode cX5_readAlike 65 = .ok (.ireturn, 1) := by decide +kernel
theorem dX5_readHour_0 : decode cX5_readHour 0 = .ok (.aload_n 0, 1) := by decide +kernel
theorem dX5_readHour_1 : decode cX5_readHour 1 = .ok (.iconst 0, 1) := by decide +kernel
theorem dX5_readHour_2 : decode cX5_readHour 2 = .ok (.bipush 23, 2) := by decide +kernel
theorem dX5_readHour_4 : decode cX5_readHour 4 = .ok (.invokevirtual 240, 3) := by decide +kernel
theorem dX5_readHour_7 : decode cX5_readHour 7 = .ok (.ifCond .ne 5, 3) := by decide +kernel
theorem dX5_readHour_10 : decode cX5_readHour 10 = .ok (.iconst 0, 1) := by decide +kernel
theorem dX5_readHour_11 : decode cX5_readHour 11 = .ok (.ireturn, 1) := by decide +kernel
theorem dX5_readHour_12 : decode cX5_readHour 12 = .ok (.aload_n 0, 1) := by decide +kernel
theorem dX5_readHour_13 : decode cX5_readHour 13 = .ok (.getfield 38, 3) := by decide +kernel
theorem dX5_readHour_16 : decode cX5_readHour 16 = .ok (.istore_n 1, 1) := by decide +kernel
theorem dX5_readHour_17 : decode cX5_readHour 17 = .ok (.aload_n 0, 1) := by decide +kernel
theorem dX5_readHour_18 : decode cX5_readHour 18 = .ok (.getfield 63, 3) := by decide +kernel
theorem dX5_readHour_21 : decode cX5_readHour 21 = .ok (.getfield 243, 3) := by decide +kernel
theorem dX5_readHour_24 : decode cX5_readHour 24 = .ok (.iload_n 1, 1) := by decide +kernel
theorem dX5_readHour_25 : decode cX5_readHour 25 = .ok (.iaload, 1) := by decide +kernel
theorem dX5_readHour_26 : decode cX5_readHour 26 = .ok (.ifCond .le 9, 3) := by decide +kernel
theorem dX5_readHour_29 : decode cX5_readHour 29 = .ok (.aload_n 0, 1) := by decide +kernel
theorem dX5_readHour_30 : decode cX5_readHour 30 = .ok (.iconst 3, 1) := by decide +kernel
theorem dX5_readHour_31 : decode cX5_readHour 31 = .ok (.invokevirtual 85, 3) := by decide +kernel
theorem dX5_readHour_34 : decode cX5_readHour 34 = .ok (.ireturn, 1) := by decide +kernel
theorem dX5_readHour_35 : decode cX5_readHour 35 = .ok (.aload_n 0, 1) := by decide +kernel
theorem dX5_readHour_36 : decode cX5_readHour 36 = .ok (.invokevirtual 78, 3) := by decide +kernel
theorem dX5_readHour_39 : decode cX5_readHour 39 = .ok (.aload_n 0, 1) := by decide +kernel
theorem dX5_readHour_40 : decode cX5_readHour 40 = .ok (.ldc 169, 2) := by decide +kernel
theorem dX5_readHour_42 : decode cX5_readHour 42 = .ok (.invokevirtual 171, 3) := by decide +kernel
theorem dX5_readHour_45 : decode cX5_readHour 45 = .ok (.ifCond .eq 13, 3) := by decide +kernel
theorem dX5_readHour_48 : decode cX5_readHour 48 = .ok (.aload_n 0, 1) := by decide +kernel
theorem dX5_readHour_49 : decode cX5_readHour 49 = .ok (.iconst 1, 1) := by decide +kernel
theorem dX5_readHour_50 : decode cX5_readHour 50 = .ok (.bipush 6, 2) := by decide +kernel
theorem dX5_readHour_52 : decode cX5_readHour 52 = .ok (.invokevirtual 174, 3) := by decide +kernel
theorem dX5_readHour_55 : decode cX5_readHour 55 = .ok (.ifCond .ne 5, 3) := by decide +kernel
theorem dX5_readHour_58 : decode cX5_readHour 58 = .ok (.iconst 0, 1) := by decide +kernel
theorem dX5_readHour_59 : decode cX5_readHour 59 = .ok (.ireturn, 1) := by decide +kernel
theorem dX5_readHour_60 : decode cX5_readHour 60 = .ok (.aload_n 0, 1) := by decide +kernel
theorem dX5_readHour_61 : decode cX5_readHour 61 = .ok (.getfield 63, 3) := by decide +kernel
theorem dX5_readHour_64 : decode cX5_readHour 64 = .ok (.getfield 243, 3) := by decide +kernel
theorem dX5_readHour_67 : decode cX5_readHour 67 = .ok (.iload_n 1, 1) := by decide +kernel
theorem dX5_readHour_68 : decode cX5_readHour 68 = .ok (.aload_n 0, 1) := by decide +kernel
theorem dX5_readHour_69 : decode cX5_readHour 69 = .ok (.getfield 47, 3) := by decide +kernel
theorem dX5_readHour_72 : decode cX5_readHour 72 = .ok (.iastore, 1) := by decide +kernel
theorem dX5_readHour_73 : decode cX5_readHour 73 = .ok (.iconst 1, 1) := by decide +kernel
theorem dX5_readHour_74 : decode cX5_readHour 74 = .ok (.ireturn, 1) := by decide +kernel
theorem dX5_readErrand_0 : decode cX5_readErrand 0 = .ok (.aload_n 0, 1) := by decide +kernel
theorem dX5_readErrand_1 : decode cX5_readErrand 1 = .ok (.invokevirtual 220, 3) := by decide +kernel
theorem dX5_readErrand_4 : decode cX5_readErrand 4 = .ok (.ifCond .ne 5, 3) := by decide +kernel
theorem dX5_readErrand_7 : decode cX5_readErrand 7 = .ok (.iconst 0, 1) := by decide +kernel
theorem dX5_readErrand_8 : decode cX5_readErrand 8 = .ok (.ireturn, 1) := by decide +kernel
theorem dX5_readErrand_9 : decode cX5_readErrand 9 = .ok (.aload_n 0, 1) := by decide +kernel
theorem dX5_readErrand_10 : decode cX5_readErrand 10 = .ok (.getfield 50, 3) := by decide +kernel
theorem dX5_readErrand_13 : decode cX5_readErrand 13 = .ok (.istore_n 1, 1) := by decide +kernel
theorem dX5_readErrand_14 : decode cX5_readErrand 14 = .ok (.aload_n 0, 1) := by decide +kernel
theorem dX5_readErrand_15 : decode cX5_readErrand 15 = .ok (.getfield 63, 3) := by decide +kernel
theorem dX5_readErrand_18 : decode cX5_readErrand 18 = .ok (.getfield 246, 3) := by decide +kernel
theorem dX5_readErrand_21 : decode cX5_readErrand 21 = .ok (.iload_n 1, 1) := by decide +kernel
theorem dX5_readErrand_22 : decode cX5_readErrand 22 = .ok (.iaload, 1) := by decide +kernel
theorem dX5_readErrand_23 : decode cX5_readErrand 23 = .ok (.ifCond .le 9, 3) := by decide +kernel
theorem dX5_readErrand_26 : decode cX5_readErrand 26 = .ok (.aload_n 0, 1) := by decide +kernel
theorem dX5_readErrand_27 : decode cX5_readErrand 27 = .ok (.iconst 3, 1) := by decide +kernel
theorem dX5_readErrand_28 : decode cX5_readErrand 28 = .ok (.invokevirtual 85, 3) := by decide +kernel
theorem dX5_readErrand_31 : decode cX5_readErrand 31 = .ok (.ireturn, 1) := by decide +kernel
theorem dX5_readErrand_32 : decode cX5_readErrand 32 = .ok (.aload_n 0, 1) := by decide +kernel
theorem dX5_readErrand_33 : decode cX5_readErrand 33 = .ok (.invokevirtual 78, 3) := by decide +kernel
theorem dX5_readErrand_36 : decode cX5_readErrand 36 = .ok (.aload_n 0, 1) := by decide +kernel
theorem dX5_readErrand_37 : decode cX5_readErrand 37 = .ok (.ldc 249, 2) := by decide +kernel
theorem dX5_readErrand_39 : decode cX5_readErrand 39 = .ok (.invokevirtual 171, 3) := by decide +kernel
theorem dX5_readErrand_42 : decode cX5_readErrand 42 = .ok (.ifCond .eq 12, 3) := by decide +kernel
theorem dX5_readErrand_45 : decode cX5_readErrand 45 = .ok (.aload_n 0, 1) := by decide +kernel
theorem dX5_readErrand_46 : decode cX5_readErrand 46 = .ok (.iconst 1, 1) := by decide +kernel
theorem dX5_readErrand_47 : decode cX5_readErrand 47 = .ok (.iconst 4, 1) := by decide +kernel
theorem dX5_readErrand_48 : decode cX5_readErrand 48 = .ok (.invokevirtual 174, 3) := by decide +kernel
theorem dX5_readErrand_51 : decode cX5_readErrand 51 = .ok (.ifCond .ne 5, 3) := by decide +kernel
theorem dX5_readErrand_54 : decode cX5_readErrand 54 = .ok (.iconst 0, 1) := by decide +kernel
theorem dX5_readErrand_55 : decode cX5_readErrand 55 = .ok (.ireturn, 1) := by decide +kernel
theorem dX5_readErrand_56 : decode cX5_readErrand 56 = .ok (.aload_n 0, 1) := by decide +kernel
theorem dX5_readErrand_57 : decode cX5_readErrand 57 = .ok (.getfield 63, 3) := by decide +kernel
theorem dX5_readErrand_60 : decode cX5_readErrand 60 = .ok (.getfield 246, 3) := by decide +kernel
theorem dX5_readErrand_63 : decode cX5_readErrand 63 = .ok (.iload_n 1, 1) := by decide +kernel
theorem dX5_readErrand_64 : decode cX5_readErrand 64 = .ok (.aload_n 0, 1) := by decide +kernel
theorem dX5_readErrand_65 : decode cX5_readErrand 65 = .ok (.getfield 47, 3) := by decide +kernel
theorem dX5_readErrand_68 : decode cX5_readErrand 68 = .ok (.iastore, 1) := by decide +kernel
theorem dX5_readErrand_69 : decode cX5_readErrand 69 = .ok (.iconst 1, 1) := by decide +kernel
theorem dX5_readErrand_70 : decode cX5_readErrand 70 = .ok (.ireturn, 1) := by decide +kernel
theorem dX5_readGot_0 : decode cX5_readGot 0 = .ok (.aload_n 0, 1) := by decide +kernel
theorem dX5_readGot_1 : decode cX5_readGot 1 = .ok (.invokevirtual 220, 3) := by decide +kernel
theorem dX5_readGot_4 : decode cX5_readGot 4 = .ok (.ifCond .ne 5, 3) := by decide +kernel
theorem dX5_readGot_7 : decode cX5_readGot 7 = .ok (.iconst 0, 1) := by decide +kernel
theorem dX5_readGot_8 : decode cX5_readGot 8 = .ok (.ireturn, 1) := by decide +kernel
theorem dX5_readGot_9 : decode cX5_readGot 9 = .ok (.aload_n 0, 1) := by decide +kernel
theorem dX5_readGot_10 : decode cX5_readGot 10 = .ok (.getfield 50, 3) := by decide +kernel
theorem dX5_readGot_13 : decode cX5_readGot 13 = .ok (.istore_n 1, 1) := by decide +kernel
theorem dX5_readGot_14 : decode cX5_readGot 14 = .ok (.aload_n 0, 1) := by decide +kernel
theorem dX5_readGot_15 : decode cX5_readGot 15 = .ok (.invokevirtual 78, 3) := by decide +kernel
theorem dX5_readGot_18 : decode cX5_readGot 18 = .ok (.aload_n 0, 1) := by decide +kernel
theorem dX5_readGot_19 : decode cX5_readGot 19 = .ok (.invokevirtual 220, 3) := by decide +kernel
theorem dX5_readGot_22 : decode cX5_readGot 22 = .ok (.ifCond .ne 5, 3) := by decide +kernel
theorem dX5_readGot_25 : decode cX5_readGot 25 = .ok (.iconst 0, 1) := by decide +kernel
theorem dX5_readGot_26 : decode cX5_readGot 26 = .ok (.ireturn, 1) := by decide +kernel
theorem dX5_readGot_27 : decode cX5_readGot 27 = .ok (.aload_n 0, 1) := by decide +kernel
theorem dX5_readGot_28 : decode cX5_readGot 28 = .ok (.getfield 50, 3) := by decide +kernel
theorem dX5_readGot_31 : decode cX5_readGot 31 = .ok (.iload_n 1, 1) := by decide +kernel
theorem dX5_readGot_32 : decode cX5_readGot 32 = .ok (.if_icmp .ne 9, 3) := by decide +kernel
theorem dX5_readGot_35 : decode cX5_readGot 35 = .ok (.aload_n 0, 1) := by decide +kernel
theorem dX5_readGot_36 : decode cX5_readGot 36 = .ok (.iconst 3, 1) := by decide +kernel
theorem dX5_readGot_37 : decode cX5_readGot 37 = .ok (.invokevirtual 85, 3) := by decide +kernel
theorem dX5_readGot_40 : decode cX5_readGot 40 = .ok (.ireturn, 1) := by decide +kernel
theorem dX5_readGot_41 : decode cX5_readGot 41 = .ok (.aload_n 0, 1) := by decide +kernel
theorem dX5_readGot_42 : decode cX5_readGot 42 = .ok (.invokevirtual 78, 3) := by decide +kernel
theorem dX5_readGot_45 : decode cX5_readGot 45 = .ok (.aload_n 0, 1) := by decide +kernel
theorem dX5_readGot_46 : decode cX5_readGot 46 = .ok (.ldc 251, 2) := by decide +kernel
theorem dX5_readGot_48 : decode cX5_readGot 48 = .ok (.invokevirtual 109, 3) := by decide +kernel
theorem dX5_readGot_51 : decode cX5_readGot 51 = .ok (.ifCond .eq 7, 3) := by decide +kernel
theorem dX5_readGot_54 : decode cX5_readGot 54 = .ok (.iconst 2, 1) := by decide +kernel
theorem dX5_readGot_55 : decode cX5_readGot 55 = .ok (.goto 30, 3) := by decide +kernel
theorem dX5_readGot_58 : decode cX5_readGot 58 = .ok (.aload_n 0, 1) := by decide +kernel
theorem dX5_readGot_59 : decode cX5_readGot 59 = .ok (.ldc 253, 2) := by decide +kernel
theorem dX5_readGot_61 : decode cX5_readGot 61 = .ok (.invokevirtual 109, 3) := by decide +kernel
theorem dX5_readGot_64 : decode cX5_readGot 64 = .ok (.ifCond .eq 7, 3) := by decide +kernel
theorem dX5_readGot_67 : decode cX5_readGot 67 = .ok (.iconst 1, 1) := by decide +kernel
theorem dX5_readGot_68 : decode cX5_readGot 68 = .ok (.goto 17, 3) := by decide +kernel
theorem dX5_readGot_71 : decode cX5_readGot 71 = .ok (.aload_n 0, 1) := by decide +kernel
theorem dX5_readGot_72 : decode cX5_readGot 72 = .ok (.ldc 255, 2) := by decide +kernel
theorem dX5_readGot_74 : decode cX5_readGot 74 = .ok (.invokevirtual 109, 3) := by decide +kernel
theorem dX5_readGot_77 : decode cX5_readGot 77 = .ok (.ifCond .eq 7, 3) := by decide +kernel
theorem dX5_readGot_80 : decode cX5_readGot 80 = .ok (.iconst 0, 1) := by decide +kernel
theorem dX5_readGot_81 : decode cX5_readGot 81 = .ok (.goto 4, 3) := by decide +kernel
theorem dX5_readGot_84 : decode cX5_readGot 84 = .ok (.iconst (-1), 1) := by decide +kernel
theorem dX5_readGot_85 : decode cX5_readGot 85 = .ok (.istore_n 2, 1) := by decide +kernel
theorem dX5_readGot_86 : decode cX5_readGot 86 = .ok (.iload_n 2, 1) := by decide +kernel
theorem dX5_readGot_87 : decode cX5_readGot 87 = .ok (.iconst (-1), 1) := by decide +kernel
theorem dX5_readGot_88 : decode cX5_readGot 88 = .ok (.if_icmp .ne 9, 3) := by decide +kernel
theorem dX5_readGot_91 : decode cX5_readGot 91 = .ok (.aload_n 0, 1) := by decide +kernel
theorem dX5_readGot_92 : decode cX5_readGot 92 = .ok (.iconst 1, 1) := by decide +kernel
theorem dX5_readGot_93 : decode cX5_readGot 93 = .ok (.invokevirtual 85, 3) := by decide +kernel
theorem dX5_readGot_96 : decode cX5_readGot 96 = .ok (.ireturn, 1) := by decide +kernel
theorem dX5_readGot_97 : decode cX5_readGot 97 = .ok (.aload_n 0, 1) := by decide +kernel
theorem dX5_readGot_98 : decode cX5_readGot 98 = .ok (.invokevirtual 78, 3) := by decide +kernel
theorem dX5_readGot_101 : decode cX5_readGot 101 = .ok (.aload_n 0, 1) := by decide +kernel
theorem dX5_readGot_102 : decode cX5_readGot 102 = .ok (.getfield 63, 3) := by decide +kernel
theorem dX5_readGot_105 : decode cX5_readGot 105 = .ok (.iload_n 1, 1) := by decide +kernel
theorem dX5_readGot_106 : decode cX5_readGot 106 = .ok (.aload_n 0, 1) := by decide +kernel
theorem dX5_readGot_107 : decode cX5_readGot 107 = .ok (.getfield 50, 3) := by decide +kernel
theorem dX5_readGot_110 : decode cX5_readGot 110 = .ok (.iload_n 2, 1) := by decide +kernel
theorem dX5_readGot_111 : decode cX5_readGot 111 = .ok (.invokevirtual 257, 3) := by decide +kernel
theorem dX5_readGot_114 : decode cX5_readGot 114 = .ok (.iconst 1, 1) := by decide +kernel
theorem dX5_readGot_115 : decode cX5_readGot 115 = .ok (.ireturn, 1) := by decide +kernel
theorem dX5_takes_0 : decode cX5_takes 0 = .ok (.aload_n 0, 1) := by decide +kernel
theorem dX5_takes_1 : decode cX5_takes 1 = .ok (.aload_n 1, 1) := by decide +kernel
theorem dX5_takes_2 : decode cX5_takes 2 = .ok (.invokevirtual 109, 3) := by decide +kernel
theorem dX5_takes_5 : decode cX5_takes 5 = .ok (.ifCond .ne 9, 3) := by decide +kernel
theorem dX5_takes_8 : decode cX5_takes 8 = .ok (.aload_n 0, 1) := by decide +kernel
theorem dX5_takes_9 : decode cX5_takes 9 = .ok (.iconst 1, 1) := by decide +kernel
theorem dX5_takes_10 : decode cX5_takes 10 = .ok (.invokevirtual 85, 3) := by decide +kernel
theorem dX5_takes_13 : decode cX5_takes 13 = .ok (.ireturn, 1) := by decide +kernel
theorem dX5_takes_14 : decode cX5_takes 14 = .ok (.aload_n 0, 1) := by decide +kernel
theorem dX5_takes_15 : decode cX5_takes 15 = .ok (.invokevirtual 78, 3) := by decide +kernel
theorem dX5_takes_18 : decode cX5_takes 18 = .ok (.iconst 1, 1) := by decide +kernel
theorem dX5_takes_19 : decode cX5_takes 19 = .ok (.ireturn, 1) := by decide +kernel
theorem dX5_seesWhole_0 : decode cX5_seesWhole 0 = .ok (.aload_n 0, 1) := by decide +kernel
theorem dX5_seesWhole_1 : decode cX5_seesWhole 1 = .ok (.getfield 25, 3) := by decide +kernel
theorem dX5_seesWhole_4 : decode cX5_seesWhole 4 = .ok (.iconst 2, 1) := by decide +kernel
theorem dX5_seesWhole_5 : decode cX5_seesWhole 5 = .ok (.if_icmp .eq 9, 3) := by decide +kernel
theorem dX5_seesWhole_8 : decode cX5_seesWhole 8 = .ok (.aload_n 0, 1) := by decide +kernel
theorem dX5_seesWhole_9 : decode cX5_seesWhole 9 = .ok (.iconst 1, 1) := by decide +kernel
theorem dX5_seesWhole_10 : decode cX5_seesWhole 10 = .ok (.invokevirtual 85, 3) := by decide +kernel
theorem dX5_seesWhole_13 : decode cX5_seesWhole 13 = .ok (.ireturn, 1) := by decide +kernel
theorem dX5_seesWhole_14 : decode cX5_seesWhole 14 = .ok (.aload_n 0, 1) := by decide +kernel
theorem dX5_seesWhole_15 : decode cX5_seesWhole 15 = .ok (.getfield 38, 3) := by decide +kernel
theorem dX5_seesWhole_18 : decode cX5_seesWhole 18 = .ok (.iload_n 1, 1) := by decide +kernel
theorem dX5_seesWhole_19 : decode cX5_seesWhole 19 = .ok (.if_icmp .lt 11, 3) := by decide +kernel
theorem dX5_seesWhole_22 : decode cX5_seesWhole 22 = .ok (.aload_n 0, 1) := by decide +kernel
theorem dX5_seesWhole_23 : decode cX5_seesWhole 23 = .ok (.getfield 38, 3) := by decide +kernel
theorem dX5_seesWhole_26 : decode cX5_seesWhole 26 = .ok (.iload_n 2, 1) := by decide +kernel
theorem dX5_seesWhole_27 : decode cX5_seesWhole 27 = .ok (.if_icmp .le 11, 3) := by decide +kernel
theorem dX5_seesWhole_30 : decode cX5_seesWhole 30 = .ok (.aload_n 0, 1) := by decide +kernel
theorem dX5_seesWhole_31 : decode cX5_seesWhole 31 = .ok (.iconst 4, 1) := by decide +kernel
theorem dX5_seesWhole_32 : decode cX5_seesWhole 32 = .ok (.invokevirtual 85, 3) := by decide +kernel
theorem dX5_seesWhole_35 : decode cX5_seesWhole 35 = .ok (.ifCond .eq 7, 3) := by decide +kernel
theorem dX5_seesWhole_38 : decode cX5_seesWhole 38 = .ok (.iconst 1, 1) := by decide +kernel
theorem dX5_seesWhole_39 : decode cX5_seesWhole 39 = .ok (.goto 4, 3) := by decide +kernel
theorem dX5_seesWhole_42 : decode cX5_seesWhole 42 = .ok (.iconst 0, 1) := by decide +kernel
theorem dX5_seesWhole_43 : decode cX5_seesWhole 43 = .ok (.ireturn, 1) := by decide +kernel
theorem dX5_takesWhole_0 : decode cX5_takesWhole 0 = .ok (.aload_n 0, 1) := by decide +kernel
theorem dX5_takesWhole_1 : decode cX5_takesWhole 1 = .ok (.iload_n 1, 1) := by decide +kernel
theorem dX5_takesWhole_2 : decode cX5_takesWhole 2 = .ok (.iload_n 2, 1) := by decide +kernel
theorem dX5_takesWhole_3 : decode cX5_takesWhole 3 = .ok (.invokevirtual 240, 3) := by decide +kernel
theorem dX5_takesWhole_6 : decode cX5_takesWhole 6 = .ok (.ifCond .ne 5, 3) := by decide +kernel
theorem dX5_takesWhole_9 : decode cX5_takesWhole 9 = .ok (.iconst 0, 1) := by decide +kernel
theorem dX5_takesWhole_10 : decode cX5_takesWhole 10 = .ok (.ireturn, 1) := by decide +kernel
theorem dX5_takesWhole_11 : decode cX5_takesWhole 11 = .ok (.aload_n 0, 1) := by decide +kernel
theorem dX5_takesWhole_12 : decode cX5_takesWhole 12 = .ok (.aload_n 0, 1) := by decide +kernel
theorem dX5_takesWhole_13 : decode cX5_takesWhole 13 = .ok (.getfield 38, 3) := by decide +kernel
theorem dX5_takesWhole_16 : decode cX5_takesWhole 16 = .ok (.putfield 47, 3) := by decide +kernel
theorem dX5_takesWhole_19 : decode cX5_takesWhole 19 = .ok (.aload_n 0, 1) := by decide +kernel
theorem dX5_takesWhole_20 : decode cX5_takesWhole 20 = .ok (.invokevirtual 78, 3) := by decide +kernel
theorem dX5_takesWhole_23 : decode cX5_takesWhole 23 = .ok (.iconst 1, 1) := by decide +kernel
theorem dX5_takesWhole_24 : decode cX5_takesWhole 24 = .ok (.ireturn, 1) := by decide +kernel
theorem dX5_takesNewName_0 : decode cX5_takesNewName 0 = .ok (.aload_n 0, 1) := by decide +kernel
theorem dX5_takesNewName_1 : decode cX5_takesNewName 1 = .ok (.getfield 25, 3) := by decide +kernel
theorem dX5_takesNewName_4 : decode cX5_takesNewName 4 = .ok (.iconst 1, 1) := by decide +kernel
theorem dX5_takesNewName_5 : decode cX5_takesNewName 5 = .ok (.if_icmp .ne 10, 3) := by decide +kernel
theorem dX5_takesNewName_8 : decode cX5_takesNewName 8 = .ok (.aload_n 0, 1) := by decide +kernel
theorem dX5_takesNewName_9 : decode cX5_takesNewName 9 = .ok (.invokevirtual 139, 3) := by decide +kernel
theorem dX5_takesNewName_12 : decode cX5_takesNewName 12 = .ok (.ifCond .eq 9, 3) := by decide +kernel
theorem dX5_takesNewName_15 : decode cX5_takesNewName 15 = .ok (.aload_n 0, 1) := by decide +kernel
theorem dX5_takesNewName_16 : decode cX5_takesNewName 16 = .ok (.iconst 1, 1) := by decide +kernel
theorem dX5_takesNewName_17 : decode cX5_takesNewName 17 = .ok (.invokevirtual 85, 3) := by decide +kernel
theorem dX5_takesNewName_20 : decode cX5_takesNewName 20 = .ok (.ireturn, 1) := by decide +kernel
theorem dX5_takesNewName_21 : decode cX5_takesNewName 21 = .ok (.aload_n 0, 1) := by decide +kernel
theorem dX5_takesNewName_22 : decode cX5_takesNewName 22 = .ok (.getfield 63, 3) := by decide +kernel
theorem dX5_takesNewName_25 : decode cX5_takesNewName 25 = .ok (.aload_n 0, 1) := by decide +kernel
theorem dX5_takesNewName_26 : decode cX5_takesNewName 26 = .ok (.getfield 34, 3) := by decide +kernel
theorem dX5_takesNewName_29 : decode cX5_takesNewName 29 = .ok (.invokevirtual 261, 3) := by decide +kernel
theorem dX5_takesNewName_32 : decode cX5_takesNewName 32 = .ok (.iconst (-1), 1) := by decide +kernel
theorem dX5_takesNewName_33 : decode cX5_takesNewName 33 = .ok (.if_icmp .ne 18, 3) := by decide +kernel
theorem dX5_takesNewName_36 : decode cX5_takesNewName 36 = .ok (.aload_n 0, 1) := by decide +kernel
theorem dX5_takesNewName_37 : decode cX5_takesNewName 37 = .ok (.getfield 63, 3) := by decide +kernel
theorem dX5_takesNewName_40 : decode cX5_takesNewName 40 = .ok (.aload_n 0, 1) := by decide +kernel
theorem dX5_takesNewName_41 : decode cX5_takesNewName 41 = .ok (.getfield 34, 3) := by decide +kernel
theorem dX5_takesNewName_44 : decode cX5_takesNewName 44 = .ok (.invokevirtual 265, 3) := by decide +kernel
theorem dX5_takesNewName_47 : decode cX5_takesNewName 47 = .ok (.iconst (-1), 1) := by decide +kernel
theorem dX5_takesNewName_48 : decode cX5_takesNewName 48 = .ok (.if_icmp .eq 9, 3) := by decide +kernel
theorem dX5_takesNewName_51 : decode cX5_takesNewName 51 = .ok (.aload_n 0, 1) := by decide +kernel
theorem dX5_takesNewName_52 : decode cX5_takesNewName 52 = .ok (.iconst 3, 1) := by decide +kernel
theorem dX5_takesNewName_53 : decode cX5_takesNewName 53 = .ok (.invokevirtual 85, 3) := by decide +kernel
theorem dX5_takesNewName_56 : decode cX5_takesNewName 56 = .ok (.ireturn, 1) := by decide +kernel
theorem dX5_takesNewName_57 : decode cX5_takesNewName 57 = .ok (.aload_n 0, 1) := by decide +kernel
theorem dX5_takesNewName_58 : decode cX5_takesNewName 58 = .ok (.aload_n 0, 1) := by decide +kernel
theorem dX5_takesNewName_59 : decode cX5_takesNewName 59 = .ok (.getfield 34, 3) := by decide +kernel
theorem dX5_takesNewName_62 : decode cX5_takesNewName 62 = .ok (.putfield 41, 3) := by decide +kernel
theorem dX5_takesNewName_65 : decode cX5_takesNewName 65 = .ok (.aload_n 0, 1) := by decide +kernel
theorem dX5_takesNewName_66 : decode cX5_takesNewName 66 = .ok (.invokevirtual 78, 3) := by decide +kernel
theorem dX5_takesNewName_69 : decode cX5_takesNewName 69 = .ok (.iconst 1, 1) := by decide +kernel
theorem dX5_takesNewName_70 : decode cX5_takesNewName 70 = .ok (.ireturn, 1) := by decide +kernel
theorem dX5_takesSounds_0 : decode cX5_takesSounds 0 = .ok (.aload_n 0, 1) := by decide +kernel
theorem dX5_takesSounds_1 : decode cX5_takesSounds 1 = .ok (.getfield 25, 3) := by decide +kernel
theorem dX5_takesSounds_4 : decode cX5_takesSounds 4 = .ok (.iconst 1, 1) := by decide +kernel
theorem dX5_takesSounds_5 : decode cX5_takesSounds 5 = .ok (.if_icmp .eq 9, 3) := by decide +kernel
theorem dX5_takesSounds_8 : decode cX5_takesSounds 8 = .ok (.aload_n 0, 1) := by decide +kernel
theorem dX5_takesSounds_9 : decode cX5_takesSounds 9 = .ok (.iconst 1, 1) := by decide +kernel
theorem dX5_takesSounds_10 : decode cX5_takesSounds 10 = .ok (.invokevirtual 85, 3) := by decide +kernel
theorem dX5_takesSounds_13 : decode cX5_takesSounds 13 = .ok (.ireturn, 1) := by decide +kernel
theorem dX5_takesSounds_14 : decode cX5_takesSounds 14 = .ok (.aload_n 0, 1) := by decide +kernel
theorem dX5_takesSounds_15 : decode cX5_takesSounds 15 = .ok (.getfield 31, 3) := by decide +kernel
theorem dX5_takesSounds_18 : decode cX5_takesSounds 18 = .ok (.iconst 2, 1) := by decide +kernel
theorem dX5_takesSounds_19 : decode cX5_takesSounds 19 = .ok (.if_icmp .lt 16, 3) := by decide +kernel
theorem dX5_takesSounds_22 : decode cX5_takesSounds 22 = .ok (.aload_n 0, 1) := by decide +kernel
theorem dX5_takesSounds_23 : decode cX5_takesSounds 23 = .ok (.getfield 31, 3) := by decide +kernel
theorem dX5_takesSounds_26 : decode cX5_takesSounds 26 = .ok (.bipush 6, 2) := by decide +kernel
theorem dX5_takesSounds_28 : decode cX5_takesSounds 28 = .ok (.if_icmp .gt 7, 3) := by decide +kernel
theorem dX5_takesSounds_31 : decode cX5_takesSounds 31 = .ok (.iconst 1, 1) := by decide +kernel
theorem dX5_takesSounds_32 : decode cX5_takesSounds 32 = .ok (.goto 4, 3) := by decide +kernel
theorem dX5_takesSounds_35 : decode cX5_takesSounds 35 = .ok (.iconst 0, 1) := by decide +kernel
theorem dX5_takesSounds_36 : decode cX5_takesSounds 36 = .ok (.istore_n 1, 1) := by decide +kernel
theorem dX5_takesSounds_37 : decode cX5_takesSounds 37 = .ok (.iconst 0, 1) := by decide +kernel
theorem dX5_takesSounds_38 : decode cX5_takesSounds 38 = .ok (.istore_n 2, 1) := by decide +kernel
theorem dX5_takesSounds_39 : decode cX5_takesSounds 39 = .ok (.iload_n 2, 1) := by decide +kernel
theorem dX5_takesSounds_40 : decode cX5_takesSounds 40 = .ok (.bipush 8, 2) := by decide +kernel
theorem dX5_takesSounds_42 : decode cX5_takesSounds 42 = .ok (.if_icmp .ge 38, 3) := by decide +kernel
theorem dX5_takesSounds_45 : decode cX5_takesSounds 45 = .ok (.iload_n 1, 1) := by decide +kernel
theorem dX5_takesSounds_46 : decode cX5_takesSounds 46 = .ok (.ifCond .eq 26, 3) := by decide +kernel
theorem dX5_takesSounds_49 : decode cX5_takesSounds 49 = .ok (.aload_n 0, 1) := by decide +kernel
theorem dX5_takesSounds_50 : decode cX5_takesSounds 50 = .ok (.getfield 34, 3) := by decide +kernel
theorem dX5_takesSounds_53 : decode cX5_takesSounds 53 = .ok (.iconst 5, 1) := by decide +kernel
theorem dX5_takesSounds_54 : decode cX5_takesSounds 54 = .ok (.iload_n 2, 1) := by decide +kernel
theorem dX5_takesSounds_55 : decode cX5_takesSounds 55 = .ok (.imul, 1) := by decide +kernel
theorem dX5_takesSounds_56 : decode cX5_takesSounds 56 = .ok (.lushr, 1) := by decide +kernel
theorem dX5_takesSounds_57 : decode cX5_takesSounds 57 = .ok (.ldc2_w 268, 3) := by decide +kernel
theorem dX5_takesSounds_60 : decode cX5_takesSounds 60 = .ok (.land, 1) := by decide +kernel
theorem dX5_takesSounds_61 : decode cX5_takesSounds 61 = .ok (.ldc2_w 270, 3) := by decide +kernel
theorem dX5_takesSounds_64 : decode cX5_takesSounds 64 = .ok (.lcmp, 1) := by decide +kernel
theorem dX5_takesSounds_65 : decode cX5_takesSounds 65 = .ok (.ifCond .gt 7, 3) := by decide +kernel
theorem dX5_takesSounds_68 : decode cX5_takesSounds 68 = .ok (.iconst 1, 1) := by decide +kernel
theorem dX5_takesSounds_69 : decode cX5_takesSounds 69 = .ok (.goto 4, 3) := by decide +kernel
theorem dX5_takesSounds_72 : decode cX5_takesSounds 72 = .ok (.iconst 0, 1) := by decide +kernel
theorem dX5_takesSounds_73 : decode cX5_takesSounds 73 = .ok (.istore_n 1, 1) := by decide +kernel
theorem dX5_takesSounds_74 : decode cX5_takesSounds 74 = .ok (.iinc 2 1, 3) := by decide +kernel
theorem dX5_takesSounds_77 : decode cX5_takesSounds 77 = .ok (.goto (-38), 3) := by decide +kernel
theorem dX5_takesSounds_80 : decode cX5_takesSounds 80 = .ok (.iload_n 1, 1) := by decide +kernel
theorem dX5_takesSounds_81 : decode cX5_takesSounds 81 = .ok (.ifCond .ne 10, 3) := by decide +kernel
theorem dX5_takesSounds_84 : decode cX5_takesSounds 84 = .ok (.aload_n 0, 1) := by decide +kernel
theorem dX5_takesSounds_85 : decode cX5_takesSounds 85 = .ok (.bipush 7, 2) := by decide +kernel
theorem dX5_takesSounds_87 : decode cX5_takesSounds 87 = .ok (.invokevirtual 85, 3) := by decide +kernel
theorem dX5_takesSounds_90 : decode cX5_takesSounds 90 = .ok (.ireturn, 1) := by decide +kernel
theorem dX5_takesSounds_91 : decode cX5_takesSounds 91 = .ok (.aload_n 0, 1) := by decide +kernel
theorem dX5_takesSounds_92 : decode cX5_takesSounds 92 = .ok (.aload_n 0, 1) := by decide +kernel
theorem dX5_takesSounds_93 : decode cX5_takesSounds 93 = .ok (.getfield 34, 3) := by decide +kernel
theorem dX5_takesSounds_96 : decode cX5_takesSounds 96 = .ok (.putfield 44, 3) := by decide +kernel
theorem dX5_takesSounds_99 : decode cX5_takesSounds 99 = .ok (.aload_n 0, 1) := by decide +kernel
theorem dX5_takesSounds_100 : decode cX5_takesSounds 100 = .ok (.invokevirtual 78, 3) := by decide +kernel
theorem dX5_takesSounds_103 : decode cX5_takesSounds 103 = .ok (.iconst 1, 1) := by decide +kernel
theorem dX5_takesSounds_104 : decode cX5_takesSounds 104 = .ok (.ireturn, 1) := by decide +kernel
theorem dX5_seesLetter_0 : decode cX5_seesLetter 0 = .ok (.aload_n 0, 1) := by decide +kernel
theorem dX5_seesLetter_1 : decode cX5_seesLetter 1 = .ok (.getfield 25, 3) := by decide +kernel
theorem dX5_seesLetter_4 : decode cX5_seesLetter 4 = .ok (.iconst 1, 1) := by decide +kernel
theorem dX5_seesLetter_5 : decode cX5_seesLetter 5 = .ok (.if_icmp .eq 9, 3) := by decide +kernel
theorem dX5_seesLetter_8 : decode cX5_seesLetter 8 = .ok (.aload_n 0, 1) := by decide +kernel
theorem dX5_seesLetter_9 : decode cX5_seesLetter 9 = .ok (.iconst 1, 1) := by decide +kernel
theorem dX5_seesLetter_10 : decode cX5_seesLetter 10 = .ok (.invokevirtual 85, 3) := by decide +kernel
theorem dX5_seesLetter_13 : decode cX5_seesLetter 13 = .ok (.ireturn, 1) := by decide +kernel
theorem dX5_seesLetter_14 : decode cX5_seesLetter 14 = .ok (.aload_n 0, 1) := by decide +kernel
theorem dX5_seesLetter_15 : decode cX5_seesLetter 15 = .ok (.getfield 31, 3) := by decide +kernel
theorem dX5_seesLetter_18 : decode cX5_seesLetter 18 = .ok (.iconst 1, 1) := by decide +kernel
theorem dX5_seesLetter_19 : decode cX5_seesLetter 19 = .ok (.if_icmp .ne 14, 3) := by decide +kernel
theorem dX5_seesLetter_22 : decode cX5_seesLetter 22 = .ok (.aload_n 0, 1) := by decide +kernel
theorem dX5_seesLetter_23 : decode cX5_seesLetter 23 = .ok (.getfield 34, 3) := by decide +kernel
theorem dX5_seesLetter_26 : decode cX5_seesLetter 26 = .ok (.ldc2_w 270, 3) := by decide +kernel
theorem dX5_seesLetter_29 : decode cX5_seesLetter 29 = .ok (.lcmp, 1) := by decide +kernel
theorem dX5_seesLetter_30 : decode cX5_seesLetter 30 = .ok (.ifCond .le 10, 3) := by decide +kernel
theorem dX5_seesLetter_33 : decode cX5_seesLetter 33 = .ok (.aload_n 0, 1) := by decide +kernel
theorem dX5_seesLetter_34 : decode cX5_seesLetter 34 = .ok (.bipush 7, 2) := by decide +kernel
theorem dX5_seesLetter_36 : decode cX5_seesLetter 36 = .ok (.invokevirtual 85, 3) := by decide +kernel
theorem dX5_seesLetter_39 : decode cX5_seesLetter 39 = .ok (.ireturn, 1) := by decide +kernel
theorem dX5_seesLetter_40 : decode cX5_seesLetter 40 = .ok (.aload_n 0, 1) := by decide +kernel
theorem dX5_seesLetter_41 : decode cX5_seesLetter 41 = .ok (.aload_n 0, 1) := by decide +kernel
theorem dX5_seesLetter_42 : decode cX5_seesLetter 42 = .ok (.getfield 34, 3) := by decide +kernel
theorem dX5_seesLetter_45 : decode cX5_seesLetter 45 = .ok (.l2i, 1) := by decide +kernel
theorem dX5_seesLetter_46 : decode cX5_seesLetter 46 = .ok (.putfield 50, 3) := by decide +kernel
theorem dX5_seesLetter_49 : decode cX5_seesLetter 49 = .ok (.iconst 1, 1) := by decide +kernel
theorem dX5_seesLetter_50 : decode cX5_seesLetter 50 = .ok (.ireturn, 1) := by decide +kernel
theorem dX5_seesToldWord_0 : decode cX5_seesToldWord 0 = .ok (.aload_n 0, 1) := by decide +kernel
theorem dX5_seesToldWord_1 : decode cX5_seesToldWord 1 = .ok (.getfield 25, 3) := by decide +kernel
theorem dX5_seesToldWord_4 : decode cX5_seesToldWord 4 = .ok (.iconst 1, 1) := by decide +kernel
theorem dX5_seesToldWord_5 : decode cX5_seesToldWord 5 = .ok (.if_icmp .ne 10, 3) := by decide +kernel
theorem dX5_seesToldWord_8 : decode cX5_seesToldWord 8 = .ok (.aload_n 0, 1) := by decide +kernel
theorem dX5_seesToldWord_9 : decode cX5_seesToldWord 9 = .ok (.invokevirtual 139, 3) := by decide +kernel
theorem dX5_seesToldWord_12 : decode cX5_seesToldWord 12 = .ok (.ifCond .eq 9, 3) := by decide +kernel
theorem dX5_seesToldWord_15 : decode cX5_seesToldWord 15 = .ok (.aload_n 0, 1) := by decide +kernel
theorem dX5_seesToldWord_16 : decode cX5_seesToldWord 16 = .ok (.iconst 1, 1) := by decide +kernel
theorem dX5_seesToldWord_17 : decode cX5_seesToldWord 17 = .ok (.invokevirtual 85, 3) := by decide +kernel
theorem dX5_seesToldWord_20 : decode cX5_seesToldWord 20 = .ok (.ireturn, 1) := by decide +kernel
theorem dX5_seesToldWord_21 : decode cX5_seesToldWord 21 = .ok (.aload_n 0, 1) := by decide +kernel
theorem dX5_seesToldWord_22 : decode cX5_seesToldWord 22 = .ok (.aload_n 0, 1) := by decide +kernel
theorem dX5_seesToldWord_23 : decode cX5_seesToldWord 23 = .ok (.getfield 63, 3) := by decide +kernel
theorem dX5_seesToldWord_26 : decode cX5_seesToldWord 26 = .ok (.aload_n 0, 1) := by decide +kernel
theorem dX5_seesToldWord_27 : decode cX5_seesToldWord 27 = .ok (.getfield 34, 3) := by decide +kernel
theorem dX5_seesToldWord_30 : decode cX5_seesToldWord 30 = .ok (.invokevirtual 261, 3) := by decide +kernel
theorem dX5_seesToldWord_33 : decode cX5_seesToldWord 33 = .ok (.putfield 50, 3) := by decide +kernel
theorem dX5_seesToldWord_36 : decode cX5_seesToldWord 36 = .ok (.aload_n 0, 1) := by decide +kernel
theorem dX5_seesToldWord_37 : decode cX5_seesToldWord 37 = .ok (.getfield 50, 3) := by decide +kernel
theorem dX5_seesToldWord_40 : decode cX5_seesToldWord 40 = .ok (.iconst (-1), 1) := by decide +kernel
theorem dX5_seesToldWord_41 : decode cX5_seesToldWord 41 = .ok (.if_icmp .ne 11, 3) := by decide +kernel
theorem dX5_seesToldWord_44 : decode cX5_seesToldWord 44 = .ok (.aload_n 0, 1) := by decide +kernel
theorem dX5_seesToldWord_45 : decode cX5_seesToldWord 45 = .ok (.iconst 2, 1) := by decide +kernel
theorem dX5_seesToldWord_46 : decode cX5_seesToldWord 46 = .ok (.invokevirtual 85, 3) := by decide +kernel
theorem dX5_seesToldWord_49 : decode cX5_seesToldWord 49 = .ok (.ifCond .eq 7, 3) := by decide +kernel
theorem dX5_seesToldWord_52 : decode cX5_seesToldWord 52 = .ok (.iconst 1, 1) := by decide +kernel
theorem dX5_seesToldWord_53 : decode cX5_seesToldWord 53 = .ok (.goto 4, 3) := by decide +kernel
theorem dX5_seesToldWord_56 : decode cX5_seesToldWord 56 = .ok (.iconst 0, 1) := by decide +kernel
theorem dX5_seesToldWord_57 : decode cX5_seesToldWord 57 = .ok (.ireturn, 1) := by decide +kernel
theorem dX5_seesToldPerson_0 : decode cX5_seesToldPerson 0 = .ok (.aload_n 0, 1) := by decide +kernel
theorem dX5_seesToldPerson_1 : decode cX5_seesToldPerson 1 = .ok (.getfield 25, 3) := by decide +kernel
theorem dX5_seesToldPerson_4 : decode cX5_seesToldPerson 4 = .ok (.iconst 1, 1) := by decide +kernel
theorem dX5_seesToldPerson_5 : decode cX5_seesToldPerson 5 = .ok (.if_icmp .ne 10, 3) := by decide +kernel
theorem dX5_seesToldPerson_8 : decode cX5_seesToldPerson 8 = .ok (.aload_n 0, 1) := by decide +kernel
theorem dX5_seesToldPerson_9 : decode cX5_seesToldPerson 9 = .ok (.invokevirtual 139, 3) := by decide +kernel
theorem dX5_seesToldPerson_12 : decode cX5_seesToldPerson 12 = .ok (.ifCond .eq 9, 3) := by decide +kernel
theorem dX5_seesToldPerson_15 : decode cX5_seesToldPerson 15 = .ok (.aload_n 0, 1) := by decide +kernel
theorem dX5_seesToldPerson_16 : decode cX5_seesToldPerson 16 = .ok (.iconst 1, 1) := by decide +kernel
theorem dX5_seesToldPerson_17 : decode cX5_seesToldPerson 17 = .ok (.invokevirtual 85, 3) := by decide +kernel
theorem dX5_seesToldPerson_20 : decode cX5_seesToldPerson 20 = .ok (.ireturn, 1) := by decide +kernel
theorem dX5_seesToldPerson_21 : decode cX5_seesToldPerson 21 = .ok (.aload_n 0, 1) := by decide +kernel
theorem dX5_seesToldPerson_22 : decode cX5_seesToldPerson 22 = .ok (.aload_n 0, 1) := by decide +kernel
theorem dX5_seesToldPerson_23 : decode cX5_seesToldPerson 23 = .ok (.getfield 63, 3) := by decide +kernel
theorem dX5_seesToldPerson_26 : decode cX5_seesToldPerson 26 = .ok (.aload_n 0, 1) := by decide +kernel
theorem dX5_seesToldPerson_27 : decode cX5_seesToldPerson 27 = .ok (.getfield 34, 3) := by decide +kernel
theorem dX5_seesToldPerson_30 : decode cX5_seesToldPerson 30 = .ok (.invokevirtual 265, 3) := by decide +kernel
theorem dX5_seesToldPerson_33 : decode cX5_seesToldPerson 33 = .ok (.putfield 50, 3) := by decide +kernel
theorem dX5_seesToldPerson_36 : decode cX5_seesToldPerson 36 = .ok (.aload_n 0, 1) := by decide +kernel
theorem dX5_seesToldPerson_37 : decode cX5_seesToldPerson 37 = .ok (.getfield 50, 3) := by decide +kernel
theorem dX5_seesToldPerson_40 : decode cX5_seesToldPerson 40 = .ok (.iconst (-1), 1) := by decide +kernel
theorem dX5_seesToldPerson_41 : decode cX5_seesToldPerson 41 = .ok (.if_icmp .ne 11, 3) := by decide +kernel
theorem dX5_seesToldPerson_44 : decode cX5_seesToldPerson 44 = .ok (.aload_n 0, 1) := by decide +kernel
theorem dX5_seesToldPerson_45 : decode cX5_seesToldPerson 45 = .ok (.iconst 2, 1) := by decide +kernel
theorem dX5_seesToldPerson_46 : decode cX5_seesToldPerson 46 = .ok (.invokevirtual 85, 3) := by decide +kernel
theorem dX5_seesToldPerson_49 : decode cX5_seesToldPerson 49 = .ok (.ifCond .eq 7, 3) := by decide +kernel
theorem dX5_seesToldPerson_52 : decode cX5_seesToldPerson 52 = .ok (.iconst 1, 1) := by decide +kernel
theorem dX5_seesToldPerson_53 : decode cX5_seesToldPerson 53 = .ok (.goto 4, 3) := by decide +kernel
theorem dX5_seesToldPerson_56 : decode cX5_seesToldPerson 56 = .ok (.iconst 0, 1) := by decide +kernel
theorem dX5_seesToldPerson_57 : decode cX5_seesToldPerson 57 = .ok (.ireturn, 1) := by decide +kernel
theorem dX6_init_0 : decode cX6_init 0 = .ok (.aload_n 0, 1) := by decide +kernel
theorem dX6_init_1 : decode cX6_init 1 = .ok (.invokespecial 3, 3) := by decide +kernel
theorem dX6_init_4 : decode cX6_init 4 = .ok (.aload_n 0, 1) := by decide +kernel
theorem dX6_init_5 : decode cX6_init 5 = .ok (.bipush 8, 2) := by decide +kernel
theorem dX6_init_7 : decode cX6_init 7 = .ok (.newarray .int, 2) := by decide +kernel
theorem dX6_init_9 : decode cX6_init 9 = .ok (.putfield 9, 3) := by decide +kernel
theorem dX6_init_12 : decode cX6_init 12 = .ok (.aload_n 0, 1) := by decide +kernel
theorem dX6_init_13 : decode cX6_init 13 = .ok (.new 15, 3) := by decide +kernel
theorem dX6_init_16 : decode cX6_init 16 = .ok (.dup, 1) := by decide +kernel
theorem dX6_init_17 : decode cX6_init 17 = .ok (.invokespecial 17, 3) := by decide +kernel
theorem dX6_init_20 : decode cX6_init 20 = .ok (.putfield 18, 3) := by decide +kernel
theorem dX6_init_23 : decode cX6_init 23 = .ok (.aload_n 0, 1) := by decide +kernel
theorem dX6_init_24 : decode cX6_init 24 = .ok (.aload_n 1, 1) := by decide +kernel
theorem dX6_init_25 : decode cX6_init 25 = .ok (.putfield 22, 3) := by decide +kernel
theorem dX6_init_28 : decode cX6_init 28 = .ok (.return_, 1) := by decide +kernel
theorem dX6_degree_0 : decode cX6_degree 0 = .ok (.aload_n 0, 1) := by decide +kernel
theorem dX6_degree_1 : decode cX6_degree 1 = .ok (.getfield 18, 3) := by decide +kernel
theorem dX6_degree_4 : decode cX6_degree 4 = .ok (.aload_n 0, 1) := by decide +kernel
theorem dX6_degree_5 : decode cX6_degree 5 = .ok (.getfield 18, 3) := by decide +kernel
theorem dX6_degree_8 : decode cX6_degree 8 = .ok (.getfield 26, 3) := by decide +kernel
theorem dX6_degree_11 : decode cX6_degree 11 = .ok (.iload_n 1, 1) := by decide +kernel
theorem dX6_degree_12 : decode cX6_degree 12 = .ok (.iaload, 1) := by decide +kernel
theorem dX6_degree_13 : decode cX6_degree 13 = .ok (.aload_n 0, 1) := by decide +kernel
theorem dX6_degree_14 : decode cX6_degree 14 = .ok (.getfield 22, 3) := by decide +kernel
theorem dX6_degree_17 : decode cX6_degree 17 = .ok (.getfield 29, 3) := by decide +kernel
theorem dX6_degree_20 : decode cX6_degree 20 = .ok (.iload_n 1, 1) := by decide +kernel
theorem dX6_degree_21 : decode cX6_degree 21 = .ok (.iaload, 1) := by decide +kernel
theorem dX6_degree_22 : decode cX6_degree 22 = .ok (.aload_n 0, 1) := by decide +kernel
theorem dX6_degree_23 : decode cX6_degree 23 = .ok (.getfield 18, 3) := by decide +kernel
theorem dX6_degree_26 : decode cX6_degree 26 = .ok (.getfield 26, 3) := by decide +kernel
theorem dX6_degree_29 : decode cX6_degree 29 = .ok (.iload_n 2, 1) := by decide +kernel
theorem dX6_degree_30 : decode cX6_degree 30 = .ok (.iaload, 1) := by decide +kernel
theorem dX6_degree_31 : decode cX6_degree 31 = .ok (.aload_n 0, 1) := by decide +kernel
theorem dX6_degree_32 : decode cX6_degree 32 = .ok (.getfield 22, 3) := by decide +kernel
theorem dX6_degree_35 : decode cX6_degree 35 = .ok (.getfield 29, 3) := by decide +kernel
theorem dX6_degree_38 : decode cX6_degree 38 = .ok (.iload_n 2, 1) := by decide +kernel
theorem dX6_degree_39 : decode cX6_degree 39 = .ok (.iaload, 1) := by decide +kernel
theorem dX6_degree_40 : decode cX6_degree 40 = .ok (.iload_n 3, 1) := by decide +kernel
theorem dX6_degree_41 : decode cX6_degree 41 = .ok (.invokevirtual 34, 3) := by decide +kernel
theorem dX6_degree_44 : decode cX6_degree 44 = .ok (.ireturn, 1) := by decide +kernel
theorem dX6_metBy_0 : decode cX6_metBy 0 = .ok (.iconst 0, 1) := by decide +kernel
theorem dX6_metBy_1 : decode cX6_metBy 1 = .ok (.istore 5, 2) := by decide +kernel
theorem dX6_metBy_3 : decode cX6_metBy 3 = .ok (.iconst 0, 1) := by decide +kernel
theorem dX6_metBy_4 : decode cX6_metBy 4 = .ok (.istore 6, 2) := by decide +kernel
theorem dX6_metBy_6 : decode cX6_metBy 6 = .ok (.iload 6, 2) := by decide +kernel
theorem dX6_metBy_8 : decode cX6_metBy 8 = .ok (.aload_n 0, 1) := by decide +kernel
theorem dX6_metBy_9 : decode cX6_metBy 9 = .ok (.getfield 18, 3) := by decide +kernel
theorem dX6_metBy_12 : decode cX6_metBy 12 = .ok (.getfield 38, 3) := by decide +kernel
theorem dX6_metBy_15 : decode cX6_metBy 15 = .ok (.if_icmp .ge 72, 3) := by decide +kernel
theorem dX6_metBy_18 : decode cX6_metBy 18 = .ok (.aload_n 0, 1) := by decide +kernel
theorem dX6_metBy_19 : decode cX6_metBy 19 = .ok (.getfield 22, 3) := by decide +kernel
theorem dX6_metBy_22 : decode cX6_metBy 22 = .ok (.getfield 29, 3) := by decide +kernel
theorem dX6_metBy_25 : decode cX6_metBy 25 = .ok (.iload 6, 2) := by decide +kernel
theorem dX6_metBy_27 : decode cX6_metBy 27 = .ok (.iaload, 1) := by decide +kernel
theorem dX6_metBy_28 : decode cX6_metBy 28 = .ok (.iload_n 3, 1) := by decide +kernel
theorem dX6_metBy_29 : decode cX6_metBy 29 = .ok (.ior, 1) := by decide +kernel
theorem dX6_metBy_30 : decode cX6_metBy 30 = .ok (.istore 7, 2) := by decide +kernel
theorem dX6_metBy_32 : decode cX6_metBy 32 = .ok (.iload 6, 2) := by decide +kernel
theorem dX6_metBy_34 : decode cX6_metBy 34 = .ok (.iload_n 1, 1) := by decide +kernel
theorem dX6_metBy_35 : decode cX6_metBy 35 = .ok (.if_icmp .eq 46, 3) := by decide +kernel
theorem dX6_metBy_38 : decode cX6_metBy 38 = .ok (.aload_n 0, 1) := by decide +kernel
theorem dX6_metBy_39 : decode cX6_metBy 39 = .ok (.getfield 18, 3) := by decide +kernel
theorem dX6_metBy_42 : decode cX6_metBy 42 = .ok (.aload_n 0, 1) := by decide +kernel
theorem dX6_metBy_43 : decode cX6_metBy 43 = .ok (.getfield 18, 3) := by decide +kernel
theorem dX6_metBy_46 : decode cX6_metBy 46 = .ok (.getfield 26, 3) := by decide +kernel
theorem dX6_metBy_49 : decode cX6_metBy 49 = .ok (.iload_n 1, 1) := by decide +kernel
theorem dX6_metBy_50 : decode cX6_metBy 50 = .ok (.iaload, 1) := by decide +kernel
theorem dX6_metBy_51 : decode cX6_metBy 51 = .ok (.iload_n 2, 1) := by decide +kernel
theorem dX6_metBy_52 : decode cX6_metBy 52 = .ok (.aload_n 0, 1) := by decide +kernel
theorem dX6_metBy_53 : decode cX6_metBy 53 = .ok (.getfield 18, 3) := by decide +kernel
theorem dX6_metBy_56 : decode cX6_metBy 56 = .ok (.getfield 26, 3) := by decide +kernel
theorem dX6_metBy_59 : decode cX6_metBy 59 = .ok (.iload 6, 2) := by decide +kernel
theorem dX6_metBy_61 : decode cX6_metBy 61 = .ok (.iaload, 1) := by decide +kernel
theorem dX6_metBy_62 : decode cX6_metBy 62 = .ok (.iload 7, 2) := by decide +kernel
theorem dX6_metBy_64 : decode cX6_metBy 64 = .ok (.iload 4, 2) := by decide +kernel
theorem dX6_metBy_66 : decode cX6_metBy 66 = .ok (.invokevirtual 42, 3) := by decide +kernel
theorem dX6_metBy_69 : decode cX6_metBy 69 = .ok (.ifCond .eq 12, 3) := by decide +kernel
theorem dX6_metBy_72 : decode cX6_metBy 72 = .ok (.iload 5, 2) := by decide +kernel
theorem dX6_metBy_74 : decode cX6_metBy 74 = .ok (.iconst 1, 1) := by decide +kernel
theorem dX6_metBy_75 : decode cX6_metBy 75 = .ok (.iload 6, 2) := by decide +kernel
theorem dX6_metBy_77 : decode cX6_metBy 77 = .ok (.ishl, 1) := by decide +kernel
theorem dX6_metBy_78 : decode cX6_metBy 78 = .ok (.ior, 1) := by decide +kernel
theorem dX6_metBy_79 : decode cX6_metBy 79 = .ok (.istore 5, 2) := by decide +kernel
theorem dX6_metBy_81 : decode cX6_metBy 81 = .ok (.iinc 6 1, 3) := by decide +kernel
theorem dX6_metBy_84 : decode cX6_metBy 84 = .ok (.goto (-78), 3) := by decide +kernel
theorem dX6_metBy_87 : decode cX6_metBy 87 = .ok (.iload 5, 2) := by decide +kernel
theorem dX6_metBy_89 : decode cX6_metBy 89 = .ok (.ireturn, 1) := by decide +kernel
theorem dX6_metNow_0 : decode cX6_metNow 0 = .ok (.aload_n 0, 1) := by decide +kernel
theorem dX6_metNow_1 : decode cX6_metNow 1 = .ok (.iload_n 1, 1) := by decide +kernel
theorem dX6_metNow_2 : decode cX6_metNow 2 = .ok (.aload_n 0, 1) := by decide +kernel
theorem dX6_metNow_3 : decode cX6_metNow 3 = .ok (.getfield 22, 3) := by decide +kernel
theorem dX6_metNow_6 : decode cX6_metNow 6 = .ok (.getfield 29, 3) := by decide +kernel
theorem dX6_metNow_9 : decode cX6_metNow 9 = .ok (.iload_n 1, 1) := by decide +kernel
theorem dX6_metNow_10 : decode cX6_metNow 10 = .ok (.iaload, 1) := by decide +kernel
theorem dX6_metNow_11 : decode cX6_metNow 11 = .ok (.iconst 0, 1) := by decide +kernel
theorem dX6_metNow_12 : decode cX6_metNow 12 = .ok (.iload_n 2, 1) := by decide +kernel
theorem dX6_metNow_13 : decode cX6_metNow 13 = .ok (.invokevirtual 46, 3) := by decide +kernel
theorem dX6_metNow_16 : decode cX6_metNow 16 = .ok (.ireturn, 1) := by decide +kernel
theorem dX6_metHaving_0 : decode cX6_metHaving 0 = .ok (.aload_n 0, 1) := by decide +kernel
theorem dX6_metHaving_1 : decode cX6_metHaving 1 = .ok (.iload_n 1, 1) := by decide +kernel
theorem dX6_metHaving_2 : decode cX6_metHaving 2 = .ok (.aload_n 0, 1) := by decide +kernel
theorem dX6_metHaving_3 : decode cX6_metHaving 3 = .ok (.getfield 22, 3) := by decide +kernel
theorem dX6_metHaving_6 : decode cX6_metHaving 6 = .ok (.getfield 29, 3) := by decide +kernel
theorem dX6_metHaving_9 : decode cX6_metHaving 9 = .ok (.iload_n 1, 1) := by decide +kernel
theorem dX6_metHaving_10 : decode cX6_metHaving 10 = .ok (.iaload, 1) := by decide +kernel
theorem dX6_metHaving_11 : decode cX6_metHaving 11 = .ok (.iconst 1, 1) := by decide +kernel
theorem dX6_metHaving_12 : decode cX6_metHaving 12 = .ok (.iload_n 2, 1) := by decide +kernel
theorem dX6_metHaving_13 : decode cX6_metHaving 13 = .ok (.ishl, 1) := by decide +kernel
theorem dX6_metHaving_14 : decode cX6_metHaving 14 = .ok (.ior, 1) := by decide +kernel
theorem dX6_metHaving_15 : decode cX6_metHaving 15 = .ok (.iconst 0, 1) := by decide +kernel
theorem dX6_metHaving_16 : decode cX6_metHaving 16 = .ok (.iload_n 3, 1) := by decide +kernel
theorem dX6_metHaving_17 : decode cX6_metHaving 17 = .ok (.invokevirtual 46, 3) := by decide +kernel
theorem dX6_metHaving_20 : decode cX6_metHaving 20 = .ok (.ireturn, 1) := by decide +kernel
theorem dX6_link_0 : decode cX6_link 0 = .ok (.iconst 0, 1) := by decide +kernel
theorem dX6_link_1 : decode cX6_link 1 = .ok (.istore_n 2, 1) := by decide +kernel
theorem dX6_link_2 : decode cX6_link 2 = .ok (.iload_n 2, 1) := by decide +kernel
theorem dX6_link_3 : decode cX6_link 3 = .ok (.aload_n 0, 1) := by decide +kernel
theorem dX6_link_4 : decode cX6_link 4 = .ok (.getfield 18, 3) := by decide +kernel
theorem dX6_link_7 : decode cX6_link 7 = .ok (.getfield 38, 3) := by decide +kernel
theorem dX6_link_10 : decode cX6_link 10 = .ok (.if_icmp .ge 21, 3) := by decide +kernel
theorem dX6_link_13 : decode cX6_link 13 = .ok (.aload_n 0, 1) := by decide +kernel
theorem dX6_link_14 : decode cX6_link 14 = .ok (.getfield 9, 3) := by decide +kernel
theorem dX6_link_17 : decode cX6_link 17 = .ok (.iload_n 2, 1) := by decide +kernel
theorem dX6_link_18 : decode cX6_link 18 = .ok (.aload_n 0, 1) := by decide +kernel
theorem dX6_link_19 : decode cX6_link 19 = .ok (.iload_n 2, 1) := by decide +kernel
theorem dX6_link_20 : decode cX6_link 20 = .ok (.iload_n 1, 1) := by decide +kernel
theorem dX6_link_21 : decode cX6_link 21 = .ok (.invokevirtual 50, 3) := by decide +kernel
theorem dX6_link_24 : decode cX6_link 24 = .ok (.iastore, 1) := by decide +kernel
theorem dX6_link_25 : decode cX6_link 25 = .ok (.iinc 2 1, 3) := by decide +kernel
theorem dX6_link_28 : decode cX6_link 28 = .ok (.goto (-26), 3) := by decide +kernel
theorem dX6_link_31 : decode cX6_link 31 = .ok (.return_, 1) := by decide +kernel
theorem dX6_groupOf_0 : decode cX6_groupOf 0 = .ok (.iconst 1, 1) := by decide +kernel
theorem dX6_groupOf_1 : decode cX6_groupOf 1 = .ok (.iload_n 1, 1) := by decide +kernel
theorem dX6_groupOf_2 : decode cX6_groupOf 2 = .ok (.ishl, 1) := by decide +kernel
theorem dX6_groupOf_3 : decode cX6_groupOf 3 = .ok (.istore_n 2, 1) := by decide +kernel
theorem dX6_groupOf_4 : decode cX6_groupOf 4 = .ok (.iconst 0, 1) := by decide +kernel
theorem dX6_groupOf_5 : decode cX6_groupOf 5 = .ok (.istore_n 3, 1) := by decide +kernel
theorem dX6_groupOf_6 : decode cX6_groupOf 6 = .ok (.iload_n 3, 1) := by decide +kernel
theorem dX6_groupOf_7 : decode cX6_groupOf 7 = .ok (.aload_n 0, 1) := by decide +kernel
theorem dX6_groupOf_8 : decode cX6_groupOf 8 = .ok (.getfield 18, 3) := by decide +kernel
theorem dX6_groupOf_11 : decode cX6_groupOf 11 = .ok (.getfield 38, 3) := by decide +kernel
theorem dX6_groupOf_14 : decode cX6_groupOf 14 = .ok (.if_icmp .ge 53, 3) := by decide +kernel
theorem dX6_groupOf_17 : decode cX6_groupOf 17 = .ok (.iconst 0, 1) := by decide +kernel
theorem dX6_groupOf_18 : decode cX6_groupOf 18 = .ok (.istore 4, 2) := by decide +kernel
theorem dX6_groupOf_20 : decode cX6_groupOf 20 = .ok (.iload 4, 2) := by decide +kernel
theorem dX6_groupOf_22 : decode cX6_groupOf 22 = .ok (.aload_n 0, 1) := by decide +kernel
theorem dX6_groupOf_23 : decode cX6_groupOf 23 = .ok (.getfield 18, 3) := by decide +kernel
theorem dX6_groupOf_26 : decode cX6_groupOf 26 = .ok (.getfield 38, 3) := by decide +kernel
theorem dX6_groupOf_29 : decode cX6_groupOf 29 = .ok (.if_icmp .ge 32, 3) := by decide +kernel
theorem dX6_groupOf_32 : decode cX6_groupOf 32 = .ok (.iload_n 2, 1) := by decide +kernel
theorem dX6_groupOf_33 : decode cX6_groupOf 33 = .ok (.iload_n 2, 1) := by decide +kernel
theorem dX6_groupOf_34 : decode cX6_groupOf 34 = .ok (.iload 4, 2) := by decide +kernel
theorem dX6_groupOf_36 : decode cX6_groupOf 36 = .ok (.invokestatic 54, 3) := by decide +kernel
theorem dX6_groupOf_39 : decode cX6_groupOf 39 = .ok (.ifCond .eq 13, 3) := by decide +kernel
theorem dX6_groupOf_42 : decode cX6_groupOf 42 = .ok (.aload_n 0, 1) := by decide +kernel
theorem dX6_groupOf_43 : decode cX6_groupOf 43 = .ok (.getfield 9, 3) := by decide +kernel
theorem dX6_groupOf_46 : decode cX6_groupOf 46 = .ok (.iload 4, 2) := by decide +kernel
theorem dX6_groupOf_48 : decode cX6_groupOf 48 = .ok (.iaload, 1) := by decide +kernel
theorem dX6_groupOf_49 : decode cX6_groupOf 49 = .ok (.goto 4, 3) := by decide +kernel
theorem dX6_groupOf_52 : decode cX6_groupOf 52 = .ok (.iconst 0, 1) := by decide +kernel
theorem dX6_groupOf_53 : decode cX6_groupOf 53 = .ok (.ior, 1) := by decide +kernel
theorem dX6_groupOf_54 : decode cX6_groupOf 54 = .ok (.istore_n 2, 1) := by decide +kernel
theorem dX6_groupOf_55 : decode cX6_groupOf 55 = .ok (.iinc 4 1, 3) := by decide +kernel
theorem dX6_groupOf_58 : decode cX6_groupOf 58 = .ok (.goto (-38), 3) := by decide +kernel
theorem dX6_groupOf_61 : decode cX6_groupOf 61 = .ok (.iinc 3 1, 3) := by decide +kernel
theorem dX6_groupOf_64 : decode cX6_groupOf 64 = .ok (.goto (-58), 3) := by decide +kernel
theorem dX6_groupOf_67 : decode cX6_groupOf 67 = .ok (.iload_n 2, 1) := by decide +kernel
theorem dX6_groupOf_68 : decode cX6_groupOf 68 = .ok (.ireturn, 1) := by decide +kernel
theorem dX6_groupCount_0 : decode cX6_groupCount 0 = .ok (.iconst 0, 1) := by decide +kernel
theorem dX6_groupCount_1 : decode cX6_groupCount 1 = .ok (.istore_n 1, 1) := by decide +kernel
theorem dX6_groupCount_2 : decode cX6_groupCount 2 = .ok (.iconst 0, 1) := by decide +kernel
theorem dX6_groupCount_3 : decode cX6_groupCount 3 = .ok (.istore_n 2, 1) := by decide +kernel
theorem dX6_groupCount_4 : decode cX6_groupCount 4 = .ok (.iconst 0, 1) := by decide +kernel
theorem dX6_groupCount_5 : decode cX6_groupCount 5 = .ok (.istore_n 3, 1) := by decide +kernel
theorem dX6_groupCount_6 : decode cX6_groupCount 6 = .ok (.iload_n 3, 1) := by decide +kernel
theorem dX6_groupCount_7 : decode cX6_groupCount 7 = .ok (.aload_n 0, 1) := by decide +kernel
theorem dX6_groupCount_8 : decode cX6_groupCount 8 = .ok (.getfield 18, 3) := by decide +kernel
theorem dX6_groupCount_11 : decode cX6_groupCount 11 = .ok (.getfield 38, 3) := by decide +kernel
theorem dX6_groupCount_14 : decode cX6_groupCount 14 = .ok (.if_icmp .ge 28, 3) := by decide +kernel
theorem dX6_groupCount_17 : decode cX6_groupCount 17 = .ok (.iload_n 2, 1) := by decide +kernel
theorem dX6_groupCount_18 : decode cX6_groupCount 18 = .ok (.iload_n 3, 1) := by decide +kernel
theorem dX6_groupCount_19 : decode cX6_groupCount 19 = .ok (.invokestatic 54, 3) := by decide +kernel
theorem dX6_groupCount_22 : decode cX6_groupCount 22 = .ok (.ifCond .ne 14, 3) := by decide +kernel
theorem dX6_groupCount_25 : decode cX6_groupCount 25 = .ok (.iload_n 2, 1) := by decide +kernel
theorem dX6_groupCount_26 : decode cX6_groupCount 26 = .ok (.aload_n 0, 1) := by decide +kernel
theorem dX6_groupCount_27 : decode cX6_groupCount 27 = .ok (.iload_n 3, 1) := by decide +kernel
theorem dX6_groupCount_28 : decode cX6_groupCount 28 = .ok (.invokevirtual 58, 3) := by decide +kernel
theorem dX6_groupCount_31 : decode cX6_groupCount 31 = .ok (.ior, 1) := by decide +kernel
theorem dX6_groupCount_32 : decode cX6_groupCount 32 = .ok (.istore_n 2, 1) := by decide +kernel
theorem dX6_groupCount_33 : decode cX6_groupCount 33 = .ok (.iinc 1 1, 3) := by decide +kernel
theorem dX6_groupCount_36 : decode cX6_groupCount 36 = .ok (.iinc 3 1, 3) := by decide +kernel
theorem dX6_groupCount_39 : decode cX6_groupCount 39 = .ok (.goto (-33), 3) := by decide +kernel
theorem dX6_groupCount_42 : decode cX6_groupCount 42 = .ok (.iload_n 1, 1) := by decide +kernel
theorem dX6_groupCount_43 : decode cX6_groupCount 43 = .ok (.ireturn, 1) := by decide +kernel
theorem dX6_hourOfMost_0 : decode cX6_hourOfMost 0 = .ok (.iconst 0, 1) := by decide +kernel
theorem dX6_hourOfMost_1 : decode cX6_hourOfMost 1 = .ok (.istore_n 2, 1) := by decide +kernel
theorem dX6_hourOfMost_2 : decode cX6_hourOfMost 2 = .ok (.iconst (-1), 1) := by decide +kernel
theorem dX6_hourOfMost_3 : decode cX6_hourOfMost 3 = .ok (.istore_n 3, 1) := by decide +kernel
theorem dX6_hourOfMost_4 : decode cX6_hourOfMost 4 = .ok (.iconst 0, 1) := by decide +kernel
theorem dX6_hourOfMost_5 : decode cX6_hourOfMost 5 = .ok (.istore 4, 2) := by decide +kernel
theorem dX6_hourOfMost_7 : decode cX6_hourOfMost 7 = .ok (.iload 4, 2) := by decide +kernel
theorem dX6_hourOfMost_9 : decode cX6_hourOfMost 9 = .ok (.bipush 24, 2) := by decide +kernel
theorem dX6_hourOfMost_11 : decode cX6_hourOfMost 11 = .ok (.if_icmp .ge 40, 3) := by decide +kernel
theorem dX6_hourOfMost_14 : decode cX6_hourOfMost 14 = .ok (.aload_n 0, 1) := by decide +kernel
theorem dX6_hourOfMost_15 : decode cX6_hourOfMost 15 = .ok (.iload_n 1, 1) := by decide +kernel
theorem dX6_hourOfMost_16 : decode cX6_hourOfMost 16 = .ok (.aload_n 0, 1) := by decide +kernel
theorem dX6_hourOfMost_17 : decode cX6_hourOfMost 17 = .ok (.getfield 18, 3) := by decide +kernel
theorem dX6_hourOfMost_20 : decode cX6_hourOfMost 20 = .ok (.iload 4, 2) := by decide +kernel
theorem dX6_hourOfMost_22 : decode cX6_hourOfMost 22 = .ok (.invokevirtual 62, 3) := by decide +kernel
theorem dX6_hourOfMost_25 : decode cX6_hourOfMost 25 = .ok (.invokevirtual 50, 3) := by decide +kernel
theorem dX6_hourOfMost_28 : decode cX6_hourOfMost 28 = .ok (.invokestatic 65, 3) := by decide +kernel
theorem dX6_hourOfMost_31 : decode cX6_hourOfMost 31 = .ok (.istore 5, 2) := by decide +kernel
theorem dX6_hourOfMost_33 : decode cX6_hourOfMost 33 = .ok (.iload 5, 2) := by decide +kernel
theorem dX6_hourOfMost_35 : decode cX6_hourOfMost 35 = .ok (.iload_n 3, 1) := by decide +kernel
theorem dX6_hourOfMost_36 : decode cX6_hourOfMost 36 = .ok (.if_icmp .le 9, 3) := by decide +kernel
theorem dX6_hourOfMost_39 : decode cX6_hourOfMost 39 = .ok (.iload 5, 2) := by decide +kernel
theorem dX6_hourOfMost_41 : decode cX6_hourOfMost 41 = .ok (.istore_n 3, 1) := by decide +kernel
theorem dX6_hourOfMost_42 : decode cX6_hourOfMost 42 = .ok (.iload 4, 2) := by decide +kernel
theorem dX6_hourOfMost_44 : decode cX6_hourOfMost 44 = .ok (.istore_n 2, 1) := by decide +kernel
theorem dX6_hourOfMost_45 : decode cX6_hourOfMost 45 = .ok (.iinc 4 1, 3) := by decide +kernel
theorem dX6_hourOfMost_48 : decode cX6_hourOfMost 48 = .ok (.goto (-41), 3) := by decide +kernel
theorem dX6_hourOfMost_51 : decode cX6_hourOfMost 51 = .ok (.iload_n 2, 1) := by decide +kernel
theorem dX6_hourOfMost_52 : decode cX6_hourOfMost 52 = .ok (.ireturn, 1) := by decide +kernel
theorem dX6_wordOfMost_0 : decode cX6_wordOfMost 0 = .ok (.iconst 0, 1) := by decide +kernel
theorem dX6_wordOfMost_1 : decode cX6_wordOfMost 1 = .ok (.istore_n 3, 1) := by decide +kernel
theorem dX6_wordOfMost_2 : decode cX6_wordOfMost 2 = .ok (.iconst (-1), 1) := by decide +kernel
theorem dX6_wordOfMost_3 : decode cX6_wordOfMost 3 = .ok (.istore 4, 2) := by decide +kernel
theorem dX6_wordOfMost_5 : decode cX6_wordOfMost 5 = .ok (.iconst 0, 1) := by decide +kernel
theorem dX6_wordOfMost_6 : decode cX6_wordOfMost 6 = .ok (.istore 5, 2) := by decide +kernel
theorem dX6_wordOfMost_8 : decode cX6_wordOfMost 8 = .ok (.iload 5, 2) := by decide +kernel
theorem dX6_wordOfMost_10 : decode cX6_wordOfMost 10 = .ok (.aload_n 0, 1) := by decide +kernel
theorem dX6_wordOfMost_11 : decode cX6_wordOfMost 11 = .ok (.getfield 18, 3) := by decide +kernel
theorem dX6_wordOfMost_14 : decode cX6_wordOfMost 14 = .ok (.getfield 70, 3) := by decide +kernel
theorem dX6_wordOfMost_17 : decode cX6_wordOfMost 17 = .ok (.if_icmp .ge 39, 3) := by decide +kernel
theorem dX6_wordOfMost_20 : decode cX6_wordOfMost 20 = .ok (.aload_n 0, 1) := by decide +kernel
theorem dX6_wordOfMost_21 : decode cX6_wordOfMost 21 = .ok (.iload_n 1, 1) := by decide +kernel
theorem dX6_wordOfMost_22 : decode cX6_wordOfMost 22 = .ok (.iconst 1, 1) := by decide +kernel
theorem dX6_wordOfMost_23 : decode cX6_wordOfMost 23 = .ok (.iload 5, 2) := by decide +kernel
theorem dX6_wordOfMost_25 : decode cX6_wordOfMost 25 = .ok (.ishl, 1) := by decide +kernel
theorem dX6_wordOfMost_26 : decode cX6_wordOfMost 26 = .ok (.iconst 0, 1) := by decide +kernel
theorem dX6_wordOfMost_27 : decode cX6_wordOfMost 27 = .ok (.iload_n 2, 1) := by decide +kernel
theorem dX6_wordOfMost_28 : decode cX6_wordOfMost 28 = .ok (.invokevirtual 46, 3) := by decide +kernel
theorem dX6_wordOfMost_31 : decode cX6_wordOfMost 31 = .ok (.invokestatic 65, 3) := by decide +kernel
theorem dX6_wordOfMost_34 : decode cX6_wordOfMost 34 = .ok (.istore 6, 2) := by decide +kernel
theorem dX6_wordOfMost_36 : decode cX6_wordOfMost 36 = .ok (.iload 6, 2) := by decide +kernel
theorem dX6_wordOfMost_38 : decode cX6_wordOfMost 38 = .ok (.iload 4, 2) := by decide +kernel
theorem dX6_wordOfMost_40 : decode cX6_wordOfMost 40 = .ok (.if_icmp .le 10, 3) := by decide +kernel
theorem dX6_wordOfMost_43 : decode cX6_wordOfMost 43 = .ok (.iload 6, 2) := by decide +kernel
theorem dX6_wordOfMost_45 : decode cX6_wordOfMost 45 = .ok (.istore 4, 2) := by decide +kernel
theorem dX6_wordOfMost_47 : decode cX6_wordOfMost 47 = .ok (.iload 5, 2) := by decide +kernel
theorem dX6_wordOfMost_49 : decode cX6_wordOfMost 49 = .ok (.istore_n 3, 1) := by decide +kernel
theorem dX6_wordOfMost_50 : decode cX6_wordOfMost 50 = .ok (.iinc 5 1, 3) := by decide +kernel
theorem dX6_wordOfMost_53 : decode cX6_wordOfMost 53 = .ok (.goto (-45), 3) := by decide +kernel
theorem dX6_wordOfMost_56 : decode cX6_wordOfMost 56 = .ok (.iload_n 3, 1) := by decide +kernel
theorem dX6_wordOfMost_57 : decode cX6_wordOfMost 57 = .ok (.ireturn, 1) := by decide +kernel
theorem dX6_firstHour_0 : decode cX6_firstHour 0 = .ok (.iconst 0, 1) := by decide +kernel
theorem dX6_firstHour_1 : decode cX6_firstHour 1 = .ok (.istore_n 3, 1) := by decide +kernel
theorem dX6_firstHour_2 : decode cX6_firstHour 2 = .ok (.iload_n 3, 1) := by decide +kernel
theorem dX6_firstHour_3 : decode cX6_firstHour 3 = .ok (.bipush 24, 2) := by decide +kernel
theorem dX6_firstHour_5 : decode cX6_firstHour 5 = .ok (.if_icmp .ge 29, 3) := by decide +kernel
theorem dX6_firstHour_8 : decode cX6_firstHour 8 = .ok (.aload_n 0, 1) := by decide +kernel
theorem dX6_firstHour_9 : decode cX6_firstHour 9 = .ok (.iload_n 1, 1) := by decide +kernel
theorem dX6_firstHour_10 : decode cX6_firstHour 10 = .ok (.iload_n 2, 1) := by decide +kernel
theorem dX6_firstHour_11 : decode cX6_firstHour 11 = .ok (.aload_n 0, 1) := by decide +kernel
theorem dX6_firstHour_12 : decode cX6_firstHour 12 = .ok (.getfield 18, 3) := by decide +kernel
theorem dX6_firstHour_15 : decode cX6_firstHour 15 = .ok (.iload_n 3, 1) := by decide +kernel
theorem dX6_firstHour_16 : decode cX6_firstHour 16 = .ok (.invokevirtual 62, 3) := by decide +kernel
theorem dX6_firstHour_19 : decode cX6_firstHour 19 = .ok (.invokevirtual 73, 3) := by decide +kernel
theorem dX6_firstHour_22 : decode cX6_firstHour 22 = .ok (.iconst 2, 1) := by decide +kernel
theorem dX6_firstHour_23 : decode cX6_firstHour 23 = .ok (.if_icmp .ne 5, 3) := by decide +kernel
theorem dX6_firstHour_26 : decode cX6_firstHour 26 = .ok (.iload_n 3, 1) := by decide +kernel
theorem dX6_firstHour_27 : decode cX6_firstHour 27 = .ok (.ireturn, 1) := by decide +kernel
theorem dX6_firstHour_28 : decode cX6_firstHour 28 = .ok (.iinc 3 1, 3) := by decide +kernel
theorem dX6_firstHour_31 : decode cX6_firstHour 31 = .ok (.goto (-29), 3) := by decide +kernel
theorem dX6_firstHour_34 : decode cX6_firstHour 34 = .ok (.bipush (-2), 2) := by decide +kernel
theorem dX6_firstHour_36 : decode cX6_firstHour 36 = .ok (.ireturn, 1) := by decide +kernel
theorem dX6_hourCount_0 : decode cX6_hourCount 0 = .ok (.iconst 0, 1) := by decide +kernel
theorem dX6_hourCount_1 : decode cX6_hourCount 1 = .ok (.istore_n 3, 1) := by decide +kernel
theorem dX6_hourCount_2 : decode cX6_hourCount 2 = .ok (.iconst 0, 1) := by decide +kernel
theorem dX6_hourCount_3 : decode cX6_hourCount 3 = .ok (.istore 4, 2) := by decide +kernel
theorem dX6_hourCount_5 : decode cX6_hourCount 5 = .ok (.iload 4, 2) := by decide +kernel
theorem dX6_hourCount_7 : decode cX6_hourCount 7 = .ok (.bipush 24, 2) := by decide +kernel
theorem dX6_hourCount_9 : decode cX6_hourCount 9 = .ok (.if_icmp .ge 36, 3) := by decide +kernel
theorem dX6_hourCount_12 : decode cX6_hourCount 12 = .ok (.iload_n 3, 1) := by decide +kernel
theorem dX6_hourCount_13 : decode cX6_hourCount 13 = .ok (.aload_n 0, 1) := by decide +kernel
theorem dX6_hourCount_14 : decode cX6_hourCount 14 = .ok (.iload_n 1, 1) := by decide +kernel
theorem dX6_hourCount_15 : decode cX6_hourCount 15 = .ok (.iload_n 2, 1) := by decide +kernel
theorem dX6_hourCount_16 : decode cX6_hourCount 16 = .ok (.aload_n 0, 1) := by decide +kernel
theorem dX6_hourCount_17 : decode cX6_hourCount 17 = .ok (.getfield 18, 3) := by decide +kernel
theorem dX6_hourCount_20 : decode cX6_hourCount 20 = .ok (.iload 4, 2) := by decide +kernel
theorem dX6_hourCount_22 : decode cX6_hourCount 22 = .ok (.invokevirtual 62, 3) := by decide +kernel
theorem dX6_hourCount_25 : decode cX6_hourCount 25 = .ok (.invokevirtual 73, 3) := by decide +kernel
theorem dX6_hourCount_28 : decode cX6_hourCount 28 = .ok (.iconst 2, 1) := by decide +kernel
theorem dX6_hourCount_29 : decode cX6_hourCount 29 = .ok (.if_icmp .ne 7, 3) := by decide +kernel
theorem dX6_hourCount_32 : decode cX6_hourCount 32 = .ok (.iconst 1, 1) := by decide +kernel
theorem dX6_hourCount_33 : decode cX6_hourCount 33 = .ok (.goto 4, 3) := by decide +kernel
theorem dX6_hourCount_36 : decode cX6_hourCount 36 = .ok (.iconst 0, 1) := by decide +kernel
theorem dX6_hourCount_37 : decode cX6_hourCount 37 = .ok (.iadd, 1) := by decide +kernel
theorem dX6_hourCount_38 : decode cX6_hourCount 38 = .ok (.istore_n 3, 1) := by decide +kernel
theorem dX6_hourCount_39 : decode cX6_hourCount 39 = .ok (.iinc 4 1, 3) := by decide +kernel
theorem dX6_hourCount_42 : decode cX6_hourCount 42 = .ok (.goto (-37), 3) := by decide +kernel
theorem dX6_hourCount_45 : decode cX6_hourCount 45 = .ok (.iload_n 3, 1) := by decide +kernel
theorem dX6_hourCount_46 : decode cX6_hourCount 46 = .ok (.ireturn, 1) := by decide +kernel
theorem dX6_cheapestGain_0 : decode cX6_cheapestGain 0 = .ok (.aload_n 0, 1) := by decide +kernel
theorem dX6_cheapestGain_1 : decode cX6_cheapestGain 1 = .ok (.getfield 22, 3) := by decide +kernel
theorem dX6_cheapestGain_4 : decode cX6_cheapestGain 4 = .ok (.aload_n 0, 1) := by decide +kernel
theorem dX6_cheapestGain_5 : decode cX6_cheapestGain 5 = .ok (.getfield 22, 3) := by decide +kernel
theorem dX6_cheapestGain_8 : decode cX6_cheapestGain 8 = .ok (.iload_n 1, 1) := by decide +kernel
theorem dX6_cheapestGain_9 : decode cX6_cheapestGain 9 = .ok (.invokevirtual 76, 3) := by decide +kernel
theorem dX6_cheapestGain_12 : decode cX6_cheapestGain 12 = .ok (.invokevirtual 79, 3) := by decide +kernel
theorem dX6_cheapestGain_15 : decode cX6_cheapestGain 15 = .ok (.aload_n 0, 1) := by decide +kernel
theorem dX6_cheapestGain_16 : decode cX6_cheapestGain 16 = .ok (.iload_n 1, 1) := by decide +kernel
theorem dX6_cheapestGain_17 : decode cX6_cheapestGain 17 = .ok (.iload_n 2, 1) := by decide +kernel
theorem dX6_cheapestGain_18 : decode cX6_cheapestGain 18 = .ok (.invokevirtual 50, 3) := by decide +kernel
theorem dX6_cheapestGain_21 : decode cX6_cheapestGain 21 = .ok (.iconst (-1), 1) := by decide +kernel
theorem dX6_cheapestGain_22 : decode cX6_cheapestGain 22 = .ok (.ixor, 1) := by decide +kernel
theorem dX6_cheapestGain_23 : decode cX6_cheapestGain 23 = .ok (.iand, 1) := by decide +kernel
theorem dX6_cheapestGain_24 : decode cX6_cheapestGain 24 = .ok (.istore_n 3, 1) := by decide +kernel
theorem dX6_cheapestGain_25 : decode cX6_cheapestGain 25 = .ok (.bipush (-2), 2) := by decide +kernel
theorem dX6_cheapestGain_27 : decode cX6_cheapestGain 27 = .ok (.istore 4, 2) := by decide +kernel
theorem dX6_cheapestGain_29 : decode cX6_cheapestGain 29 = .ok (.iconst 0, 1) := by decide +kernel
theorem dX6_cheapestGain_30 : decode cX6_cheapestGain 30 = .ok (.istore 5, 2) := by decide +kernel
theorem dX6_cheapestGain_32 : decode cX6_cheapestGain 32 = .ok (.iload 5, 2) := by decide +kernel
theorem dX6_cheapestGain_34 : decode cX6_cheapestGain 34 = .ok (.aload_n 0, 1) := by decide +kernel
theorem dX6_cheapestGain_35 : decode cX6_cheapestGain 35 = .ok (.getfield 18, 3) := by decide +kernel
theorem dX6_cheapestGain_38 : decode cX6_cheapestGain 38 = .ok (.getfield 70, 3) := by decide +kernel
theorem dX6_cheapestGain_41 : decode cX6_cheapestGain 41 = .ok (.if_icmp .ge 81, 3) := by decide +kernel
theorem dX6_cheapestGain_44 : decode cX6_cheapestGain 44 = .ok (.iload 4, 2) := by decide +kernel
theorem dX6_cheapestGain_46 : decode cX6_cheapestGain 46 = .ok (.bipush (-2), 2) := by decide +kernel
theorem dX6_cheapestGain_48 : decode cX6_cheapestGain 48 = .ok (.if_icmp .eq 26, 3) := by decide +kernel
theorem dX6_cheapestGain_51 : decode cX6_cheapestGain 51 = .ok (.aload_n 0, 1) := by decide +kernel
theorem dX6_cheapestGain_52 : decode cX6_cheapestGain 52 = .ok (.getfield 18, 3) := by decide +kernel
theorem dX6_cheapestGain_55 : decode cX6_cheapestGain 55 = .ok (.getfield 82, 3) := by decide +kernel
theorem dX6_cheapestGain_58 : decode cX6_cheapestGain 58 = .ok (.iload 5, 2) := by decide +kernel
theorem dX6_cheapestGain_60 : decode cX6_cheapestGain 60 = .ok (.iaload, 1) := by decide +kernel
theorem dX6_cheapestGain_61 : decode cX6_cheapestGain 61 = .ok (.aload_n 0, 1) := by decide +kernel
theorem dX6_cheapestGain_62 : decode cX6_cheapestGain 62 = .ok (.getfield 18, 3) := by decide +kernel
theorem dX6_cheapestGain_65 : decode cX6_cheapestGain 65 = .ok (.getfield 82, 3) := by decide +kernel
theorem dX6_cheapestGain_68 : decode cX6_cheapestGain 68 = .ok (.iload 4, 2) := by decide +kernel
theorem dX6_cheapestGain_70 : decode cX6_cheapestGain 70 = .ok (.iaload, 1) := by decide +kernel
theorem dX6_cheapestGain_71 : decode cX6_cheapestGain 71 = .ok (.if_icmp .ge 7, 3) := by decide +kernel
theorem dX6_cheapestGain_74 : decode cX6_cheapestGain 74 = .ok (.iconst 1, 1) := by decide +kernel
theorem dX6_cheapestGain_75 : decode cX6_cheapestGain 75 = .ok (.goto 4, 3) := by decide +kernel
theorem dX6_cheapestGain_78 : decode cX6_cheapestGain 78 = .ok (.iconst 0, 1) := by decide +kernel
theorem dX6_cheapestGain_79 : decode cX6_cheapestGain 79 = .ok (.istore 6, 2) := by decide +kernel
theorem dX6_cheapestGain_81 : decode cX6_cheapestGain 81 = .ok (.iload 6, 2) := by decide +kernel
theorem dX6_cheapestGain_83 : decode cX6_cheapestGain 83 = .ok (.ifCond .eq 33, 3) := by decide +kernel
theorem dX6_cheapestGain_86 : decode cX6_cheapestGain 86 = .ok (.aload_n 0, 1) := by decide +kernel
theorem dX6_cheapestGain_87 : decode cX6_cheapestGain 87 = .ok (.getfield 22, 3) := by decide +kernel
theorem dX6_cheapestGain_90 : decode cX6_cheapestGain 90 = .ok (.iload_n 1, 1) := by decide +kernel
theorem dX6_cheapestGain_91 : decode cX6_cheapestGain 91 = .ok (.iload 5, 2) := by decide +kernel
theorem dX6_cheapestGain_93 : decode cX6_cheapestGain 93 = .ok (.invokevirtual 85, 3) := by decide +kernel
theorem dX6_cheapestGain_96 : decode cX6_cheapestGain 96 = .ok (.ifCond .ne 20, 3) := by decide +kernel
theorem dX6_cheapestGain_99 : decode cX6_cheapestGain 99 = .ok (.aload_n 0, 1) := by decide +kernel
theorem dX6_cheapestGain_100 : decode cX6_cheapestGain 100 = .ok (.iload_n 1, 1) := by decide +kernel
theorem dX6_cheapestGain_101 : decode cX6_cheapestGain 101 = .ok (.iload 5, 2) := by decide +kernel
theorem dX6_cheapestGain_103 : decode cX6_cheapestGain 103 = .ok (.iload_n 2, 1) := by decide +kernel
theorem dX6_cheapestGain_104 : decode cX6_cheapestGain 104 = .ok (.invokevirtual 88, 3) := by decide +kernel
theorem dX6_cheapestGain_107 : decode cX6_cheapestGain 107 = .ok (.iload_n 3, 1) := by decide +kernel
theorem dX6_cheapestGain_108 : decode cX6_cheapestGain 108 = .ok (.iand, 1) := by decide +kernel
theorem dX6_cheapestGain_109 : decode cX6_cheapestGain 109 = .ok (.ifCond .eq 7, 3) := by decide +kernel
theorem dX6_cheapestGain_112 : decode cX6_cheapestGain 112 = .ok (.iload 5, 2) := by decide +kernel
theorem dX6_cheapestGain_114 : decode cX6_cheapestGain 114 = .ok (.istore 4, 2) := by decide +kernel
theorem dX6_cheapestGain_116 : decode cX6_cheapestGain 116 = .ok (.iinc 5 1, 3) := by decide +kernel
theorem dX6_cheapestGain_119 : decode cX6_cheapestGain 119 = .ok (.goto (-87), 3) := by decide +kernel
theorem dX6_cheapestGain_122 : decode cX6_cheapestGain 122 = .ok (.iload 4, 2) := by decide +kernel
theorem dX6_cheapestGain_124 : decode cX6_cheapestGain 124 = .ok (.ireturn, 1) := by decide +kernel
theorem dX6_lonely_0 : decode cX6_lonely 0 = .ok (.iconst 0, 1) := by decide +kernel
theorem dX6_lonely_1 : decode cX6_lonely 1 = .ok (.istore_n 3, 1) := by decide +kernel
theorem dX6_lonely_2 : decode cX6_lonely 2 = .ok (.iconst 0, 1) := by decide +kernel
theorem dX6_lonely_3 : decode cX6_lonely 3 = .ok (.istore 4, 2) := by decide +kernel
theorem dX6_lonely_5 : decode cX6_lonely 5 = .ok (.iload 4, 2) := by decide +kernel
theorem dX6_lonely_7 : decode cX6_lonely 7 = .ok (.aload_n 0, 1) := by decide +kernel
theorem dX6_lonely_8 : decode cX6_lonely 8 = .ok (.getfield 18, 3) := by decide +kernel
theorem dX6_lonely_11 : decode cX6_lonely 11 = .ok (.getfield 38, 3) := by decide +kernel
theorem dX6_lonely_14 : decode cX6_lonely 14 = .ok (.if_icmp .ge 37, 3) := by decide +kernel
theorem dX6_lonely_17 : decode cX6_lonely 17 = .ok (.iload_n 1, 1) := by decide +kernel
theorem dX6_lonely_18 : decode cX6_lonely 18 = .ok (.iload 4, 2) := by decide +kernel
theorem dX6_lonely_20 : decode cX6_lonely 20 = .ok (.invokestatic 54, 3) := by decide +kernel
theorem dX6_lonely_23 : decode cX6_lonely 23 = .ok (.ifCond .eq 22, 3) := by decide +kernel
theorem dX6_lonely_26 : decode cX6_lonely 26 = .ok (.aload_n 0, 1) := by decide +kernel
theorem dX6_lonely_27 : decode cX6_lonely 27 = .ok (.iload 4, 2) := by decide +kernel
theorem dX6_lonely_29 : decode cX6_lonely 29 = .ok (.iload_n 2, 1) := by decide +kernel
theorem dX6_lonely_30 : decode cX6_lonely 30 = .ok (.invokevirtual 50, 3) := by decide +kernel
theorem dX6_lonely_33 : decode cX6_lonely 33 = .ok (.iload_n 1, 1) := by decide +kernel
theorem dX6_lonely_34 : decode cX6_lonely 34 = .ok (.iand, 1) := by decide +kernel
theorem dX6_lonely_35 : decode cX6_lonely 35 = .ok (.ifCond .ne 10, 3) := by decide +kernel
theorem dX6_lonely_38 : decode cX6_lonely 38 = .ok (.iload_n 3, 1) := by decide +kernel
theorem dX6_lonely_39 : decode cX6_lonely 39 = .ok (.iconst 1, 1) := by decide +kernel
theorem dX6_lonely_40 : decode cX6_lonely 40 = .ok (.iload 4, 2) := by decide +kernel
theorem dX6_lonely_42 : decode cX6_lonely 42 = .ok (.ishl, 1) := by decide +kernel
theorem dX6_lonely_43 : decode cX6_lonely 43 = .ok (.ior, 1) := by decide +kernel
theorem dX6_lonely_44 : decode cX6_lonely 44 = .ok (.istore_n 3, 1) := by decide +kernel
theorem dX6_lonely_45 : decode cX6_lonely 45 = .ok (.iinc 4 1, 3) := by decide +kernel
theorem dX6_lonely_48 : decode cX6_lonely 48 = .ok (.goto (-43), 3) := by decide +kernel
theorem dX6_lonely_51 : decode cX6_lonely 51 = .ok (.iload_n 3, 1) := by decide +kernel
theorem dX6_lonely_52 : decode cX6_lonely 52 = .ok (.ireturn, 1) := by decide +kernel
theorem dX7_init_0 : decode cX7_init 0 = .ok (.aload_n 0, 1) := by decide +kernel
theorem dX7_init_1 : decode cX7_init 1 = .ok (.invokespecial 3, 3) := by decide +kernel
theorem dX7_init_4 : decode cX7_init 4 = .ok (.aload_n 0, 1) := by decide +kernel
theorem dX7_init_5 : decode cX7_init 5 = .ok (.iconst 0, 1) := by decide +kernel
theorem dX7_init_6 : decode cX7_init 6 = .ok (.putfield 9, 3) := by decide +kernel
theorem dX7_init_9 : decode cX7_init 9 = .ok (.aload_n 0, 1) := by decide +kernel
theorem dX7_init_10 : decode cX7_init 10 = .ok (.iconst 0, 1) := by decide +kernel
theorem dX7_init_11 : decode cX7_init 11 = .ok (.putfield 15, 3) := by decide +kernel
theorem dX7_init_14 : decode cX7_init 14 = .ok (.aload_n 0, 1) := by decide +kernel
theorem dX7_init_15 : decode cX7_init 15 = .ok (.iconst 0, 1) := by decide +kernel
theorem dX7_init_16 : decode cX7_init 16 = .ok (.putfield 18, 3) := by decide +kernel
theorem dX7_init_19 : decode cX7_init 19 = .ok (.aload_n 0, 1) := by decide +kernel
theorem dX7_init_20 : decode cX7_init 20 = .ok (.aload_n 1, 1) := by decide +kernel
theorem dX7_init_21 : decode cX7_init 21 = .ok (.putfield 21, 3) := by decide +kernel
theorem dX7_init_24 : decode cX7_init 24 = .ok (.return_, 1) := by decide +kernel
theorem dX7_countBuyers_0 : decode cX7_countBuyers 0 = .ok (.aload_n 0, 1) := by decide +kernel
theorem dX7_countBuyers_1 : decode cX7_countBuyers 1 = .ok (.iconst 0, 1) := by decide +kernel
theorem dX7_countBuyers_2 : decode cX7_countBuyers 2 = .ok (.putfield 9, 3) := by decide +kernel
theorem dX7_countBuyers_5 : decode cX7_countBuyers 5 = .ok (.aload_n 0, 1) := by decide +kernel
theorem dX7_countBuyers_6 : decode cX7_countBuyers 6 = .ok (.iconst 0, 1) := by decide +kernel
theorem dX7_countBuyers_7 : decode cX7_countBuyers 7 = .ok (.putfield 15, 3) := by decide +kernel
theorem dX7_countBuyers_10 : decode cX7_countBuyers 10 = .ok (.aload_n 0, 1) := by decide +kernel
theorem dX7_countBuyers_11 : decode cX7_countBuyers 11 = .ok (.iconst 0, 1) := by decide +kernel
theorem dX7_countBuyers_12 : decode cX7_countBuyers 12 = .ok (.putfield 18, 3) := by decide +kernel
theorem dX7_countBuyers_15 : decode cX7_countBuyers 15 = .ok (.aload_n 0, 1) := by decide +kernel
theorem dX7_countBuyers_16 : decode cX7_countBuyers 16 = .ok (.getfield 21, 3) := by decide +kernel
theorem dX7_countBuyers_19 : decode cX7_countBuyers 19 = .ok (.getfield 25, 3) := by decide +kernel
theorem dX7_countBuyers_22 : decode cX7_countBuyers 22 = .ok (.iconst 0, 1) := by decide +kernel
theorem dX7_countBuyers_23 : decode cX7_countBuyers 23 = .ok (.invokevirtual 31, 3) := by decide +kernel
theorem dX7_countBuyers_26 : decode cX7_countBuyers 26 = .ok (.istore 4, 2) := by decide +kernel
theorem dX7_countBuyers_28 : decode cX7_countBuyers 28 = .ok (.aload_n 0, 1) := by decide +kernel
theorem dX7_countBuyers_29 : decode cX7_countBuyers 29 = .ok (.getfield 21, 3) := by decide +kernel
theorem dX7_countBuyers_32 : decode cX7_countBuyers 32 = .ok (.iload 4, 2) := by decide +kernel
theorem dX7_countBuyers_34 : decode cX7_countBuyers 34 = .ok (.iload_n 3, 1) := by decide +kernel
theorem dX7_countBuyers_35 : decode cX7_countBuyers 35 = .ok (.invokevirtual 37, 3) := by decide +kernel
theorem dX7_countBuyers_38 : decode cX7_countBuyers 38 = .ok (.istore 5, 2) := by decide +kernel
theorem dX7_countBuyers_40 : decode cX7_countBuyers 40 = .ok (.iconst 0, 1) := by decide +kernel
theorem dX7_countBuyers_41 : decode cX7_countBuyers 41 = .ok (.istore 6, 2) := by decide +kernel
theorem dX7_countBuyers_43 : decode cX7_countBuyers 43 = .ok (.iload 6, 2) := by decide +kernel
theorem dX7_countBuyers_45 : decode cX7_countBuyers 45 = .ok (.aload_n 0, 1) := by decide +kernel
theorem dX7_countBuyers_46 : decode cX7_countBuyers 46 = .ok (.getfield 21, 3) := by decide +kernel
theorem dX7_countBuyers_49 : decode cX7_countBuyers 49 = .ok (.getfield 41, 3) := by decide +kernel
theorem dX7_countBuyers_52 : decode cX7_countBuyers 52 = .ok (.getfield 45, 3) := by decide +kernel
theorem dX7_countBuyers_55 : decode cX7_countBuyers 55 = .ok (.if_icmp .ge 139, 3) := by decide +kernel
theorem dX7_countBuyers_58 : decode cX7_countBuyers 58 = .ok (.iload 5, 2) := by decide +kernel
theorem dX7_countBuyers_60 : decode cX7_countBuyers 60 = .ok (.iload 6, 2) := by decide +kernel
theorem dX7_countBuyers_62 : decode cX7_countBuyers 62 = .ok (.invokestatic 50, 3) := by decide +kernel
theorem dX7_countBuyers_65 : decode cX7_countBuyers 65 = .ok (.ifCond .eq 123, 3) := by decide +kernel
theorem dX7_countBuyers_68 : decode cX7_countBuyers 68 = .ok (.aload_n 0, 1) := by decide +kernel
theorem dX7_countBuyers_69 : decode cX7_countBuyers 69 = .ok (.getfield 21, 3) := by decide +kernel
theorem dX7_countBuyers_72 : decode cX7_countBuyers 72 = .ok (.iload 6, 2) := by decide +kernel
theorem dX7_countBuyers_74 : decode cX7_countBuyers 74 = .ok (.iload_n 1, 1) := by decide +kernel
theorem dX7_countBuyers_75 : decode cX7_countBuyers 75 = .ok (.iload_n 3, 1) := by decide +kernel
theorem dX7_countBuyers_76 : decode cX7_countBuyers 76 = .ok (.invokevirtual 54, 3) := by decide +kernel
theorem dX7_countBuyers_79 : decode cX7_countBuyers 79 = .ok (.iload 4, 2) := by decide +kernel
theorem dX7_countBuyers_81 : decode cX7_countBuyers 81 = .ok (.iand, 1) := by decide +kernel
theorem dX7_countBuyers_82 : decode cX7_countBuyers 82 = .ok (.ifCond .eq 7, 3) := by decide +kernel
theorem dX7_countBuyers_85 : decode cX7_countBuyers 85 = .ok (.iconst 1, 1) := by decide +kernel
theorem dX7_countBuyers_86 : decode cX7_countBuyers 86 = .ok (.goto 4, 3) := by decide +kernel
theorem dX7_countBuyers_89 : decode cX7_countBuyers 89 = .ok (.iconst 0, 1) := by decide +kernel
theorem dX7_countBuyers_90 : decode cX7_countBuyers 90 = .ok (.istore 7, 2) := by decide +kernel
theorem dX7_countBuyers_92 : decode cX7_countBuyers 92 = .ok (.aload_n 0, 1) := by decide +kernel
theorem dX7_countBuyers_93 : decode cX7_countBuyers 93 = .ok (.getfield 21, 3) := by decide +kernel
theorem dX7_countBuyers_96 : decode cX7_countBuyers 96 = .ok (.iload 6, 2) := by decide +kernel
theorem dX7_countBuyers_98 : decode cX7_countBuyers 98 = .ok (.iload_n 2, 1) := by decide +kernel
theorem dX7_countBuyers_99 : decode cX7_countBuyers 99 = .ok (.iload_n 3, 1) := by decide +kernel
theorem dX7_countBuyers_100 : decode cX7_countBuyers 100 = .ok (.invokevirtual 54, 3) := by decide +kernel
theorem dX7_countBuyers_103 : decode cX7_countBuyers 103 = .ok (.iload 4, 2) := by decide +kernel
theorem dX7_countBuyers_105 : decode cX7_countBuyers 105 = .ok (.iand, 1) := by decide +kernel
theorem dX7_countBuyers_106 : decode cX7_countBuyers 106 = .ok (.ifCond .eq 7, 3) := by decide +kernel
theorem dX7_countBuyers_109 : decode cX7_countBuyers 109 = .ok (.iconst 1, 1) := by decide +kernel
theorem dX7_countBuyers_110 : decode cX7_countBuyers 110 = .ok (.goto 4, 3) := by decide +kernel
theorem dX7_countBuyers_113 : decode cX7_countBuyers 113 = .ok (.iconst 0, 1) := by decide +kernel
theorem dX7_countBuyers_114 : decode cX7_countBuyers 114 = .ok (.istore 8, 2) := by decide +kernel
theorem dX7_countBuyers_116 : decode cX7_countBuyers 116 = .ok (.aload_n 0, 1) := by decide +kernel
theorem dX7_countBuyers_117 : decode cX7_countBuyers 117 = .ok (.dup, 1) := by decide +kernel
theorem dX7_countBuyers_118 : decode cX7_countBuyers 118 = .ok (.getfield 9, 3) := by decide +kernel
theorem dX7_countBuyers_121 : decode cX7_countBuyers 121 = .ok (.iload 7, 2) := by decide +kernel
theorem dX7_countBuyers_123 : decode cX7_countBuyers 123 = .ok (.ifCond .eq 12, 3) := by decide +kernel
theorem dX7_countBuyers_126 : decode cX7_countBuyers 126 = .ok (.iload 8, 2) := by decide +kernel
theorem dX7_countBuyers_128 : decode cX7_countBuyers 128 = .ok (.ifCond .ne 7, 3) := by decide +kernel
theorem dX7_countBuyers_131 : decode cX7_countBuyers 131 = .ok (.iconst 1, 1) := by decide +kernel
theorem dX7_countBuyers_132 : decode cX7_countBuyers 132 = .ok (.goto 4, 3) := by decide +kernel
theorem dX7_countBuyers_135 : decode cX7_countBuyers 135 = .ok (.iconst 0, 1) := by decide +kernel
theorem dX7_countBuyers_136 : decode cX7_countBuyers 136 = .ok (.iadd, 1) := by decide +kernel
theorem dX7_countBuyers_137 : decode cX7_countBuyers 137 = .ok (.putfield 9, 3) := by decide +kernel
theorem dX7_countBuyers_140 : decode cX7_countBuyers 140 = .ok (.aload_n 0, 1) := by decide +kernel
theorem dX7_countBuyers_141 : decode cX7_countBuyers 141 = .ok (.dup, 1) := by decide +kernel
theorem dX7_countBuyers_142 : decode cX7_countBuyers 142 = .ok (.getfield 15, 3) := by decide +kernel
theorem dX7_countBuyers_145 : decode cX7_countBuyers 145 = .ok (.iload 8, 2) := by decide +kernel
theorem dX7_countBuyers_147 : decode cX7_countBuyers 147 = .ok (.ifCond .eq 12, 3) := by decide +kernel
theorem dX7_countBuyers_150 : decode cX7_countBuyers 150 = .ok (.iload 7, 2) := by decide +kernel
theorem dX7_countBuyers_152 : decode cX7_countBuyers 152 = .ok (.ifCond .ne 7, 3) := by decide +kernel
theorem dX7_countBuyers_155 : decode cX7_countBuyers 155 = .ok (.iconst 1, 1) := by decide +kernel
theorem dX7_countBuyers_156 : decode cX7_countBuyers 156 = .ok (.goto 4, 3) := by decide +kernel
theorem dX7_countBuyers_159 : decode cX7_countBuyers 159 = .ok (.iconst 0, 1) := by decide +kernel
theorem dX7_countBuyers_160 : decode cX7_countBuyers 160 = .ok (.iadd, 1) := by decide +kernel
theorem dX7_countBuyers_161 : decode cX7_countBuyers 161 = .ok (.putfield 15, 3) := by decide +kernel
theorem dX7_countBuyers_164 : decode cX7_countBuyers 164 = .ok (.aload_n 0, 1) := by decide +kernel
theorem dX7_countBuyers_165 : decode cX7_countBuyers 165 = .ok (.dup, 1) := by decide +kernel
theorem dX7_countBuyers_166 : decode cX7_countBuyers 166 = .ok (.getfield 18, 3) := by decide +kernel
theorem dX7_countBuyers_169 : decode cX7_countBuyers 169 = .ok (.iload 7, 2) := by decide +kernel
theorem dX7_countBuyers_171 : decode cX7_countBuyers 171 = .ok (.ifCond .eq 12, 3) := by decide +kernel
theorem dX7_countBuyers_174 : decode cX7_countBuyers 174 = .ok (.iload 8, 2) := by decide +kernel
theorem dX7_countBuyers_176 : decode cX7_countBuyers 176 = .ok (.ifCond .eq 7, 3) := by decide +kernel
theorem dX7_countBuyers_179 : decode cX7_countBuyers 179 = .ok (.iconst 1, 1) := by decide +kernel
theorem dX7_countBuyers_180 : decode cX7_countBuyers 180 = .ok (.goto 4, 3) := by decide +kernel
theorem dX7_countBuyers_183 : decode cX7_countBuyers 183 = .ok (.iconst 0, 1) := by decide +kernel
theorem dX7_countBuyers_184 : decode cX7_countBuyers 184 = .ok (.iadd, 1) := by decide +kernel
theorem dX7_countBuyers_185 : decode cX7_countBuyers 185 = .ok (.putfield 18, 3) := by decide +kernel
theorem dX7_countBuyers_188 : decode cX7_countBuyers 188 = .ok (.iinc 6 1, 3) := by decide +kernel
theorem dX7_countBuyers_191 : decode cX7_countBuyers 191 = .ok (.goto (-148), 3) := by decide +kernel
theorem dX7_countBuyers_194 : decode cX7_countBuyers 194 = .ok (.return_, 1) := by decide +kernel
