theorem dX7_firstHas_0 : decode cX7_firstHas 0 = .ok (.iload_n 1, 1) := by decide +kernel
theorem dX7_firstHas_1 : decode cX7_firstHas 1 = .ok (.aload_n 0, 1) := by decide +kernel
theorem dX7_firstHas_2 : decode cX7_firstHas 2 = .ok (.getfield 9, 3) := by decide +kernel
theorem dX7_firstHas_5 : decode cX7_firstHas 5 = .ok (.iload_n 1, 1) := by decide +kernel
theorem dX7_firstHas_6 : decode cX7_firstHas 6 = .ok (.iload_n 2, 1) := by decide +kernel
theorem dX7_firstHas_7 : decode cX7_firstHas 7 = .ok (.if_icmp .gt 10, 3) := by decide +kernel
theorem dX7_firstHas_10 : decode cX7_firstHas 10 = .ok (.aload_n 0, 1) := by decide +kernel
theorem dX7_firstHas_11 : decode cX7_firstHas 11 = .ok (.getfield 18, 3) := by decide +kernel
theorem dX7_firstHas_14 : decode cX7_firstHas 14 = .ok (.goto 4, 3) := by decide +kernel
theorem dX7_firstHas_17 : decode cX7_firstHas 17 = .ok (.iconst 0, 1) := by decide +kernel
theorem dX7_firstHas_18 : decode cX7_firstHas 18 = .ok (.iadd, 1) := by decide +kernel
theorem dX7_firstHas_19 : decode cX7_firstHas 19 = .ok (.imul, 1) := by decide +kernel
theorem dX7_firstHas_20 : decode cX7_firstHas 20 = .ok (.ireturn, 1) := by decide +kernel
theorem dX7_secondHas_0 : decode cX7_secondHas 0 = .ok (.iload_n 2, 1) := by decide +kernel
theorem dX7_secondHas_1 : decode cX7_secondHas 1 = .ok (.aload_n 0, 1) := by decide +kernel
theorem dX7_secondHas_2 : decode cX7_secondHas 2 = .ok (.getfield 15, 3) := by decide +kernel
theorem dX7_secondHas_5 : decode cX7_secondHas 5 = .ok (.iload_n 2, 1) := by decide +kernel
theorem dX7_secondHas_6 : decode cX7_secondHas 6 = .ok (.iload_n 1, 1) := by decide +kernel
theorem dX7_secondHas_7 : decode cX7_secondHas 7 = .ok (.if_icmp .ge 10, 3) := by decide +kernel
theorem dX7_secondHas_10 : decode cX7_secondHas 10 = .ok (.aload_n 0, 1) := by decide +kernel
theorem dX7_secondHas_11 : decode cX7_secondHas 11 = .ok (.getfield 18, 3) := by decide +kernel
theorem dX7_secondHas_14 : decode cX7_secondHas 14 = .ok (.goto 4, 3) := by decide +kernel
theorem dX7_secondHas_17 : decode cX7_secondHas 17 = .ok (.iconst 0, 1) := by decide +kernel
theorem dX7_secondHas_18 : decode cX7_secondHas 18 = .ok (.iadd, 1) := by decide +kernel
theorem dX7_secondHas_19 : decode cX7_secondHas 19 = .ok (.imul, 1) := by decide +kernel
theorem dX7_secondHas_20 : decode cX7_secondHas 20 = .ok (.ireturn, 1) := by decide +kernel
theorem dX7_isRest_0 : decode cX7_isRest 0 = .ok (.iconst 0, 1) := by decide +kernel
theorem dX7_isRest_1 : decode cX7_isRest 1 = .ok (.istore_n 3, 1) := by decide +kernel
theorem dX7_isRest_2 : decode cX7_isRest 2 = .ok (.iload_n 3, 1) := by decide +kernel
theorem dX7_isRest_3 : decode cX7_isRest 3 = .ok (.bipush 10, 2) := by decide +kernel
theorem dX7_isRest_5 : decode cX7_isRest 5 = .ok (.if_icmp .ge 41, 3) := by decide +kernel
theorem dX7_isRest_8 : decode cX7_isRest 8 = .ok (.aload_n 0, 1) := by decide +kernel
theorem dX7_isRest_9 : decode cX7_isRest 9 = .ok (.iload_n 3, 1) := by decide +kernel
theorem dX7_isRest_10 : decode cX7_isRest 10 = .ok (.iload_n 2, 1) := by decide +kernel
theorem dX7_isRest_11 : decode cX7_isRest 11 = .ok (.invokevirtual 58, 3) := by decide +kernel
theorem dX7_isRest_14 : decode cX7_isRest 14 = .ok (.aload_n 0, 1) := by decide +kernel
theorem dX7_isRest_15 : decode cX7_isRest 15 = .ok (.iload_n 1, 1) := by decide +kernel
theorem dX7_isRest_16 : decode cX7_isRest 16 = .ok (.iload_n 2, 1) := by decide +kernel
theorem dX7_isRest_17 : decode cX7_isRest 17 = .ok (.invokevirtual 58, 3) := by decide +kernel
theorem dX7_isRest_20 : decode cX7_isRest 20 = .ok (.if_icmp .gt 18, 3) := by decide +kernel
theorem dX7_isRest_23 : decode cX7_isRest 23 = .ok (.aload_n 0, 1) := by decide +kernel
theorem dX7_isRest_24 : decode cX7_isRest 24 = .ok (.iload_n 1, 1) := by decide +kernel
theorem dX7_isRest_25 : decode cX7_isRest 25 = .ok (.iload_n 3, 1) := by decide +kernel
theorem dX7_isRest_26 : decode cX7_isRest 26 = .ok (.invokevirtual 61, 3) := by decide +kernel
theorem dX7_isRest_29 : decode cX7_isRest 29 = .ok (.aload_n 0, 1) := by decide +kernel
theorem dX7_isRest_30 : decode cX7_isRest 30 = .ok (.iload_n 1, 1) := by decide +kernel
theorem dX7_isRest_31 : decode cX7_isRest 31 = .ok (.iload_n 2, 1) := by decide +kernel
theorem dX7_isRest_32 : decode cX7_isRest 32 = .ok (.invokevirtual 61, 3) := by decide +kernel
theorem dX7_isRest_35 : decode cX7_isRest 35 = .ok (.if_icmp .le 5, 3) := by decide +kernel
theorem dX7_isRest_38 : decode cX7_isRest 38 = .ok (.iconst 0, 1) := by decide +kernel
theorem dX7_isRest_39 : decode cX7_isRest 39 = .ok (.ireturn, 1) := by decide +kernel
theorem dX7_isRest_40 : decode cX7_isRest 40 = .ok (.iinc 3 1, 3) := by decide +kernel
theorem dX7_isRest_43 : decode cX7_isRest 43 = .ok (.goto (-41), 3) := by decide +kernel
theorem dX7_isRest_46 : decode cX7_isRest 46 = .ok (.iconst 1, 1) := by decide +kernel
theorem dX7_isRest_47 : decode cX7_isRest 47 = .ok (.ireturn, 1) := by decide +kernel
theorem dX7_restCount_0 : decode cX7_restCount 0 = .ok (.iconst 0, 1) := by decide +kernel
theorem dX7_restCount_1 : decode cX7_restCount 1 = .ok (.istore_n 1, 1) := by decide +kernel
theorem dX7_restCount_2 : decode cX7_restCount 2 = .ok (.iconst 0, 1) := by decide +kernel
theorem dX7_restCount_3 : decode cX7_restCount 3 = .ok (.istore_n 2, 1) := by decide +kernel
theorem dX7_restCount_4 : decode cX7_restCount 4 = .ok (.iload_n 2, 1) := by decide +kernel
theorem dX7_restCount_5 : decode cX7_restCount 5 = .ok (.bipush 100, 2) := by decide +kernel
theorem dX7_restCount_7 : decode cX7_restCount 7 = .ok (.if_icmp .ge 32, 3) := by decide +kernel
theorem dX7_restCount_10 : decode cX7_restCount 10 = .ok (.iload_n 1, 1) := by decide +kernel
theorem dX7_restCount_11 : decode cX7_restCount 11 = .ok (.aload_n 0, 1) := by decide +kernel
theorem dX7_restCount_12 : decode cX7_restCount 12 = .ok (.iload_n 2, 1) := by decide +kernel
theorem dX7_restCount_13 : decode cX7_restCount 13 = .ok (.bipush 10, 2) := by decide +kernel
theorem dX7_restCount_15 : decode cX7_restCount 15 = .ok (.idiv, 1) := by decide +kernel
theorem dX7_restCount_16 : decode cX7_restCount 16 = .ok (.iload_n 2, 1) := by decide +kernel
theorem dX7_restCount_17 : decode cX7_restCount 17 = .ok (.bipush 10, 2) := by decide +kernel
theorem dX7_restCount_19 : decode cX7_restCount 19 = .ok (.irem, 1) := by decide +kernel
theorem dX7_restCount_20 : decode cX7_restCount 20 = .ok (.invokevirtual 64, 3) := by decide +kernel
theorem dX7_restCount_23 : decode cX7_restCount 23 = .ok (.ifCond .eq 7, 3) := by decide +kernel
theorem dX7_restCount_26 : decode cX7_restCount 26 = .ok (.iconst 1, 1) := by decide +kernel
theorem dX7_restCount_27 : decode cX7_restCount 27 = .ok (.goto 4, 3) := by decide +kernel
theorem dX7_restCount_30 : decode cX7_restCount 30 = .ok (.iconst 0, 1) := by decide +kernel
theorem dX7_restCount_31 : decode cX7_restCount 31 = .ok (.iadd, 1) := by decide +kernel
theorem dX7_restCount_32 : decode cX7_restCount 32 = .ok (.istore_n 1, 1) := by decide +kernel
theorem dX7_restCount_33 : decode cX7_restCount 33 = .ok (.iinc 2 1, 3) := by decide +kernel
theorem dX7_restCount_36 : decode cX7_restCount 36 = .ok (.goto (-32), 3) := by decide +kernel
theorem dX7_restCount_39 : decode cX7_restCount 39 = .ok (.iload_n 1, 1) := by decide +kernel
theorem dX7_restCount_40 : decode cX7_restCount 40 = .ok (.ireturn, 1) := by decide +kernel
theorem dX7_firstRest_0 : decode cX7_firstRest 0 = .ok (.iconst 0, 1) := by decide +kernel
theorem dX7_firstRest_1 : decode cX7_firstRest 1 = .ok (.istore_n 1, 1) := by decide +kernel
theorem dX7_firstRest_2 : decode cX7_firstRest 2 = .ok (.iload_n 1, 1) := by decide +kernel
theorem dX7_firstRest_3 : decode cX7_firstRest 3 = .ok (.bipush 100, 2) := by decide +kernel
theorem dX7_firstRest_5 : decode cX7_firstRest 5 = .ok (.if_icmp .ge 26, 3) := by decide +kernel
theorem dX7_firstRest_8 : decode cX7_firstRest 8 = .ok (.aload_n 0, 1) := by decide +kernel
theorem dX7_firstRest_9 : decode cX7_firstRest 9 = .ok (.iload_n 1, 1) := by decide +kernel
theorem dX7_firstRest_10 : decode cX7_firstRest 10 = .ok (.bipush 10, 2) := by decide +kernel
theorem dX7_firstRest_12 : decode cX7_firstRest 12 = .ok (.idiv, 1) := by decide +kernel
theorem dX7_firstRest_13 : decode cX7_firstRest 13 = .ok (.iload_n 1, 1) := by decide +kernel
theorem dX7_firstRest_14 : decode cX7_firstRest 14 = .ok (.bipush 10, 2) := by decide +kernel
theorem dX7_firstRest_16 : decode cX7_firstRest 16 = .ok (.irem, 1) := by decide +kernel
theorem dX7_firstRest_17 : decode cX7_firstRest 17 = .ok (.invokevirtual 64, 3) := by decide +kernel
theorem dX7_firstRest_20 : decode cX7_firstRest 20 = .ok (.ifCond .eq 5, 3) := by decide +kernel
theorem dX7_firstRest_23 : decode cX7_firstRest 23 = .ok (.iload_n 1, 1) := by decide +kernel
theorem dX7_firstRest_24 : decode cX7_firstRest 24 = .ok (.ireturn, 1) := by decide +kernel
theorem dX7_firstRest_25 : decode cX7_firstRest 25 = .ok (.iinc 1 1, 3) := by decide +kernel
theorem dX7_firstRest_28 : decode cX7_firstRest 28 = .ok (.goto (-26), 3) := by decide +kernel
theorem dX7_firstRest_31 : decode cX7_firstRest 31 = .ok (.bipush (-2), 2) := by decide +kernel
theorem dX7_firstRest_33 : decode cX7_firstRest 33 = .ok (.ireturn, 1) := by decide +kernel
theorem dX8_init_0 : decode cX8_init 0 = .ok (.aload_n 0, 1) := by decide +kernel
theorem dX8_init_1 : decode cX8_init 1 = .ok (.invokespecial 3, 3) := by decide +kernel
theorem dX8_init_4 : decode cX8_init 4 = .ok (.aload_n 0, 1) := by decide +kernel
theorem dX8_init_5 : decode cX8_init 5 = .ok (.iconst 0, 1) := by decide +kernel
theorem dX8_init_6 : decode cX8_init 6 = .ok (.putfield 9, 3) := by decide +kernel
theorem dX8_init_9 : decode cX8_init 9 = .ok (.aload_n 0, 1) := by decide +kernel
theorem dX8_init_10 : decode cX8_init 10 = .ok (.iconst 0, 1) := by decide +kernel
theorem dX8_init_11 : decode cX8_init 11 = .ok (.putfield 15, 3) := by decide +kernel
theorem dX8_init_14 : decode cX8_init 14 = .ok (.aload_n 0, 1) := by decide +kernel
theorem dX8_init_15 : decode cX8_init 15 = .ok (.iconst 1, 1) := by decide +kernel
theorem dX8_init_16 : decode cX8_init 16 = .ok (.iload_n 1, 1) := by decide +kernel
theorem dX8_init_17 : decode cX8_init 17 = .ok (.invokestatic 18, 3) := by decide +kernel
theorem dX8_init_20 : decode cX8_init 20 = .ok (.putfield 24, 3) := by decide +kernel
theorem dX8_init_23 : decode cX8_init 23 = .ok (.aload_n 0, 1) := by decide +kernel
theorem dX8_init_24 : decode cX8_init 24 = .ok (.aload_n 0, 1) := by decide +kernel
theorem dX8_init_25 : decode cX8_init 25 = .ok (.getfield 24, 3) := by decide +kernel
theorem dX8_init_28 : decode cX8_init 28 = .ok (.bipush 19, 2) := by decide +kernel
theorem dX8_init_30 : decode cX8_init 30 = .ok (.imul, 1) := by decide +kernel
theorem dX8_init_31 : decode cX8_init 31 = .ok (.newarray .int, 2) := by decide +kernel
theorem dX8_init_33 : decode cX8_init 33 = .ok (.putfield 27, 3) := by decide +kernel
theorem dX8_init_36 : decode cX8_init 36 = .ok (.return_, 1) := by decide +kernel
theorem dX8_clear_0 : decode cX8_clear 0 = .ok (.aload_n 0, 1) := by decide +kernel
theorem dX8_clear_1 : decode cX8_clear 1 = .ok (.iconst 0, 1) := by decide +kernel
theorem dX8_clear_2 : decode cX8_clear 2 = .ok (.putfield 9, 3) := by decide +kernel
theorem dX8_clear_5 : decode cX8_clear 5 = .ok (.aload_n 0, 1) := by decide +kernel
theorem dX8_clear_6 : decode cX8_clear 6 = .ok (.iconst 0, 1) := by decide +kernel
theorem dX8_clear_7 : decode cX8_clear 7 = .ok (.putfield 15, 3) := by decide +kernel
theorem dX8_clear_10 : decode cX8_clear 10 = .ok (.return_, 1) := by decide +kernel
theorem dX8_push_0 : decode cX8_push 0 = .ok (.aload_n 0, 1) := by decide +kernel
theorem dX8_push_1 : decode cX8_push 1 = .ok (.getfield 15, 3) := by decide +kernel
theorem dX8_push_4 : decode cX8_push 4 = .ok (.aload_n 0, 1) := by decide +kernel
theorem dX8_push_5 : decode cX8_push 5 = .ok (.getfield 24, 3) := by decide +kernel
theorem dX8_push_8 : decode cX8_push 8 = .ok (.if_icmp .ne 28, 3) := by decide +kernel
theorem dX8_push_11 : decode cX8_push 11 = .ok (.aload_n 0, 1) := by decide +kernel
theorem dX8_push_12 : decode cX8_push 12 = .ok (.aload_n 0, 1) := by decide +kernel
theorem dX8_push_13 : decode cX8_push 13 = .ok (.getfield 9, 3) := by decide +kernel
theorem dX8_push_16 : decode cX8_push 16 = .ok (.iconst 1, 1) := by decide +kernel
theorem dX8_push_17 : decode cX8_push 17 = .ok (.iadd, 1) := by decide +kernel
theorem dX8_push_18 : decode cX8_push 18 = .ok (.aload_n 0, 1) := by decide +kernel
theorem dX8_push_19 : decode cX8_push 19 = .ok (.getfield 24, 3) := by decide +kernel
theorem dX8_push_22 : decode cX8_push 22 = .ok (.irem, 1) := by decide +kernel
theorem dX8_push_23 : decode cX8_push 23 = .ok (.putfield 9, 3) := by decide +kernel
theorem dX8_push_26 : decode cX8_push 26 = .ok (.aload_n 0, 1) := by decide +kernel
theorem dX8_push_27 : decode cX8_push 27 = .ok (.dup, 1) := by decide +kernel
theorem dX8_push_28 : decode cX8_push 28 = .ok (.getfield 15, 3) := by decide +kernel
theorem dX8_push_31 : decode cX8_push 31 = .ok (.iconst 1, 1) := by decide +kernel
theorem dX8_push_32 : decode cX8_push 32 = .ok (.isub, 1) := by decide +kernel
theorem dX8_push_33 : decode cX8_push 33 = .ok (.putfield 15, 3) := by decide +kernel
theorem dX8_push_36 : decode cX8_push 36 = .ok (.aload_n 0, 1) := by decide +kernel
theorem dX8_push_37 : decode cX8_push 37 = .ok (.aload_n 0, 1) := by decide +kernel
theorem dX8_push_38 : decode cX8_push 38 = .ok (.getfield 15, 3) := by decide +kernel
theorem dX8_push_41 : decode cX8_push 41 = .ok (.invokevirtual 31, 3) := by decide +kernel
theorem dX8_push_44 : decode cX8_push 44 = .ok (.istore_n 2, 1) := by decide +kernel
theorem dX8_push_45 : decode cX8_push 45 = .ok (.aload_n 0, 1) := by decide +kernel
theorem dX8_push_46 : decode cX8_push 46 = .ok (.getfield 27, 3) := by decide +kernel
theorem dX8_push_49 : decode cX8_push 49 = .ok (.iload_n 2, 1) := by decide +kernel
theorem dX8_push_50 : decode cX8_push 50 = .ok (.aload_n 1, 1) := by decide +kernel
theorem dX8_push_51 : decode cX8_push 51 = .ok (.getfield 35, 3) := by decide +kernel
theorem dX8_push_54 : decode cX8_push 54 = .ok (.iastore, 1) := by decide +kernel
theorem dX8_push_55 : decode cX8_push 55 = .ok (.aload_n 0, 1) := by decide +kernel
theorem dX8_push_56 : decode cX8_push 56 = .ok (.getfield 27, 3) := by decide +kernel
theorem dX8_push_59 : decode cX8_push 59 = .ok (.iload_n 2, 1) := by decide +kernel
theorem dX8_push_60 : decode cX8_push 60 = .ok (.iconst 1, 1) := by decide +kernel
theorem dX8_push_61 : decode cX8_push 61 = .ok (.iadd, 1) := by decide +kernel
theorem dX8_push_62 : decode cX8_push 62 = .ok (.aload_n 1, 1) := by decide +kernel
theorem dX8_push_63 : decode cX8_push 63 = .ok (.getfield 40, 3) := by decide +kernel
theorem dX8_push_66 : decode cX8_push 66 = .ok (.iastore, 1) := by decide +kernel
theorem dX8_push_67 : decode cX8_push 67 = .ok (.aload_n 0, 1) := by decide +kernel
theorem dX8_push_68 : decode cX8_push 68 = .ok (.getfield 27, 3) := by decide +kernel
theorem dX8_push_71 : decode cX8_push 71 = .ok (.iload_n 2, 1) := by decide +kernel
theorem dX8_push_72 : decode cX8_push 72 = .ok (.iconst 2, 1) := by decide +kernel
theorem dX8_push_73 : decode cX8_push 73 = .ok (.iadd, 1) := by decide +kernel
theorem dX8_push_74 : decode cX8_push 74 = .ok (.aload_n 1, 1) := by decide +kernel
theorem dX8_push_75 : decode cX8_push 75 = .ok (.getfield 43, 3) := by decide +kernel
theorem dX8_push_78 : decode cX8_push 78 = .ok (.iastore, 1) := by decide +kernel
theorem dX8_push_79 : decode cX8_push 79 = .ok (.aload_n 1, 1) := by decide +kernel
theorem dX8_push_80 : decode cX8_push 80 = .ok (.getfield 46, 3) := by decide +kernel
theorem dX8_push_83 : decode cX8_push 83 = .ok (.iconst 0, 1) := by decide +kernel
theorem dX8_push_84 : decode cX8_push 84 = .ok (.aload_n 0, 1) := by decide +kernel
theorem dX8_push_85 : decode cX8_push 85 = .ok (.getfield 27, 3) := by decide +kernel
theorem dX8_push_88 : decode cX8_push 88 = .ok (.iload_n 2, 1) := by decide +kernel
theorem dX8_push_89 : decode cX8_push 89 = .ok (.iconst 3, 1) := by decide +kernel
theorem dX8_push_90 : decode cX8_push 90 = .ok (.iadd, 1) := by decide +kernel
theorem dX8_push_91 : decode cX8_push 91 = .ok (.bipush 8, 2) := by decide +kernel
theorem dX8_push_93 : decode cX8_push 93 = .ok (.invokestatic 49, 3) := by decide +kernel
theorem dX8_push_96 : decode cX8_push 96 = .ok (.aload_n 1, 1) := by decide +kernel
theorem dX8_push_97 : decode cX8_push 97 = .ok (.getfield 55, 3) := by decide +kernel
theorem dX8_push_100 : decode cX8_push 100 = .ok (.iconst 0, 1) := by decide +kernel
theorem dX8_push_101 : decode cX8_push 101 = .ok (.aload_n 0, 1) := by decide +kernel
theorem dX8_push_102 : decode cX8_push 102 = .ok (.getfield 27, 3) := by decide +kernel
theorem dX8_push_105 : decode cX8_push 105 = .ok (.iload_n 2, 1) := by decide +kernel
theorem dX8_push_106 : decode cX8_push 106 = .ok (.iconst 3, 1) := by decide +kernel
theorem dX8_push_107 : decode cX8_push 107 = .ok (.iadd, 1) := by decide +kernel
theorem dX8_push_108 : decode cX8_push 108 = .ok (.bipush 8, 2) := by decide +kernel
theorem dX8_push_110 : decode cX8_push 110 = .ok (.iadd, 1) := by decide +kernel
theorem dX8_push_111 : decode cX8_push 111 = .ok (.bipush 8, 2) := by decide +kernel
theorem dX8_push_113 : decode cX8_push 113 = .ok (.invokestatic 49, 3) := by decide +kernel
theorem dX8_push_116 : decode cX8_push 116 = .ok (.aload_n 0, 1) := by decide +kernel
theorem dX8_push_117 : decode cX8_push 117 = .ok (.dup, 1) := by decide +kernel
theorem dX8_push_118 : decode cX8_push 118 = .ok (.getfield 15, 3) := by decide +kernel
theorem dX8_push_121 : decode cX8_push 121 = .ok (.iconst 1, 1) := by decide +kernel
theorem dX8_push_122 : decode cX8_push 122 = .ok (.iadd, 1) := by decide +kernel
theorem dX8_push_123 : decode cX8_push 123 = .ok (.putfield 15, 3) := by decide +kernel
theorem dX8_push_126 : decode cX8_push 126 = .ok (.return_, 1) := by decide +kernel
theorem dX8_copyTo_0 : decode cX8_copyTo 0 = .ok (.aload_n 0, 1) := by decide +kernel
theorem dX8_copyTo_1 : decode cX8_copyTo 1 = .ok (.iload_n 1, 1) := by decide +kernel
theorem dX8_copyTo_2 : decode cX8_copyTo 2 = .ok (.invokevirtual 31, 3) := by decide +kernel
theorem dX8_copyTo_5 : decode cX8_copyTo 5 = .ok (.istore_n 3, 1) := by decide +kernel
theorem dX8_copyTo_6 : decode cX8_copyTo 6 = .ok (.aload_n 2, 1) := by decide +kernel
theorem dX8_copyTo_7 : decode cX8_copyTo 7 = .ok (.aload_n 0, 1) := by decide +kernel
theorem dX8_copyTo_8 : decode cX8_copyTo 8 = .ok (.getfield 27, 3) := by decide +kernel
theorem dX8_copyTo_11 : decode cX8_copyTo 11 = .ok (.iload_n 3, 1) := by decide +kernel
theorem dX8_copyTo_12 : decode cX8_copyTo 12 = .ok (.iaload, 1) := by decide +kernel
theorem dX8_copyTo_13 : decode cX8_copyTo 13 = .ok (.putfield 35, 3) := by decide +kernel
theorem dX8_copyTo_16 : decode cX8_copyTo 16 = .ok (.aload_n 2, 1) := by decide +kernel
theorem dX8_copyTo_17 : decode cX8_copyTo 17 = .ok (.aload_n 0, 1) := by decide +kernel
theorem dX8_copyTo_18 : decode cX8_copyTo 18 = .ok (.getfield 27, 3) := by decide +kernel
theorem dX8_copyTo_21 : decode cX8_copyTo 21 = .ok (.iload_n 3, 1) := by decide +kernel
theorem dX8_copyTo_22 : decode cX8_copyTo 22 = .ok (.iconst 1, 1) := by decide +kernel
theorem dX8_copyTo_23 : decode cX8_copyTo 23 = .ok (.iadd, 1) := by decide +kernel
theorem dX8_copyTo_24 : decode cX8_copyTo 24 = .ok (.iaload, 1) := by decide +kernel
theorem dX8_copyTo_25 : decode cX8_copyTo 25 = .ok (.putfield 40, 3) := by decide +kernel
theorem dX8_copyTo_28 : decode cX8_copyTo 28 = .ok (.aload_n 2, 1) := by decide +kernel
theorem dX8_copyTo_29 : decode cX8_copyTo 29 = .ok (.aload_n 0, 1) := by decide +kernel
theorem dX8_copyTo_30 : decode cX8_copyTo 30 = .ok (.getfield 27, 3) := by decide +kernel
theorem dX8_copyTo_33 : decode cX8_copyTo 33 = .ok (.iload_n 3, 1) := by decide +kernel
theorem dX8_copyTo_34 : decode cX8_copyTo 34 = .ok (.iconst 2, 1) := by decide +kernel
theorem dX8_copyTo_35 : decode cX8_copyTo 35 = .ok (.iadd, 1) := by decide +kernel
theorem dX8_copyTo_36 : decode cX8_copyTo 36 = .ok (.iaload, 1) := by decide +kernel
theorem dX8_copyTo_37 : decode cX8_copyTo 37 = .ok (.putfield 43, 3) := by decide +kernel
theorem dX8_copyTo_40 : decode cX8_copyTo 40 = .ok (.aload_n 0, 1) := by decide +kernel
theorem dX8_copyTo_41 : decode cX8_copyTo 41 = .ok (.getfield 27, 3) := by decide +kernel
theorem dX8_copyTo_44 : decode cX8_copyTo 44 = .ok (.iload_n 3, 1) := by decide +kernel
theorem dX8_copyTo_45 : decode cX8_copyTo 45 = .ok (.iconst 3, 1) := by decide +kernel
theorem dX8_copyTo_46 : decode cX8_copyTo 46 = .ok (.iadd, 1) := by decide +kernel
theorem dX8_copyTo_47 : decode cX8_copyTo 47 = .ok (.aload_n 2, 1) := by decide +kernel
theorem dX8_copyTo_48 : decode cX8_copyTo 48 = .ok (.getfield 46, 3) := by decide +kernel
theorem dX8_copyTo_51 : decode cX8_copyTo 51 = .ok (.iconst 0, 1) := by decide +kernel
theorem dX8_copyTo_52 : decode cX8_copyTo 52 = .ok (.bipush 8, 2) := by decide +kernel
theorem dX8_copyTo_54 : decode cX8_copyTo 54 = .ok (.invokestatic 49, 3) := by decide +kernel
theorem dX8_copyTo_57 : decode cX8_copyTo 57 = .ok (.aload_n 0, 1) := by decide +kernel
theorem dX8_copyTo_58 : decode cX8_copyTo 58 = .ok (.getfield 27, 3) := by decide +kernel
theorem dX8_copyTo_61 : decode cX8_copyTo 61 = .ok (.iload_n 3, 1) := by decide +kernel
theorem dX8_copyTo_62 : decode cX8_copyTo 62 = .ok (.iconst 3, 1) := by decide +kernel
theorem dX8_copyTo_63 : decode cX8_copyTo 63 = .ok (.iadd, 1) := by decide +kernel
theorem dX8_copyTo_64 : decode cX8_copyTo 64 = .ok (.bipush 8, 2) := by decide +kernel
theorem dX8_copyTo_66 : decode cX8_copyTo 66 = .ok (.iadd, 1) := by decide +kernel
theorem dX8_copyTo_67 : decode cX8_copyTo 67 = .ok (.aload_n 2, 1) := by decide +kernel
theorem dX8_copyTo_68 : decode cX8_copyTo 68 = .ok (.getfield 55, 3) := by decide +kernel
theorem dX8_copyTo_71 : decode cX8_copyTo 71 = .ok (.iconst 0, 1) := by decide +kernel
theorem dX8_copyTo_72 : decode cX8_copyTo 72 = .ok (.bipush 8, 2) := by decide +kernel
theorem dX8_copyTo_74 : decode cX8_copyTo 74 = .ok (.invokestatic 49, 3) := by decide +kernel
theorem dX8_copyTo_77 : decode cX8_copyTo 77 = .ok (.return_, 1) := by decide +kernel
theorem dX8_pop_0 : decode cX8_pop 0 = .ok (.aload_n 0, 1) := by decide +kernel
theorem dX8_pop_1 : decode cX8_pop 1 = .ok (.getfield 15, 3) := by decide +kernel
theorem dX8_pop_4 : decode cX8_pop 4 = .ok (.ifCond .le 22, 3) := by decide +kernel
theorem dX8_pop_7 : decode cX8_pop 7 = .ok (.aload_n 0, 1) := by decide +kernel
theorem dX8_pop_8 : decode cX8_pop 8 = .ok (.dup, 1) := by decide +kernel
theorem dX8_pop_9 : decode cX8_pop 9 = .ok (.getfield 15, 3) := by decide +kernel
theorem dX8_pop_12 : decode cX8_pop 12 = .ok (.iconst 1, 1) := by decide +kernel
theorem dX8_pop_13 : decode cX8_pop 13 = .ok (.isub, 1) := by decide +kernel
theorem dX8_pop_14 : decode cX8_pop 14 = .ok (.putfield 15, 3) := by decide +kernel
theorem dX8_pop_17 : decode cX8_pop 17 = .ok (.aload_n 0, 1) := by decide +kernel
theorem dX8_pop_18 : decode cX8_pop 18 = .ok (.aload_n 0, 1) := by decide +kernel
theorem dX8_pop_19 : decode cX8_pop 19 = .ok (.getfield 15, 3) := by decide +kernel
theorem dX8_pop_22 : decode cX8_pop 22 = .ok (.aload_n 1, 1) := by decide +kernel
theorem dX8_pop_23 : decode cX8_pop 23 = .ok (.invokevirtual 58, 3) := by decide +kernel
theorem dX8_pop_26 : decode cX8_pop 26 = .ok (.return_, 1) := by decide +kernel
theorem dX8_placeOf_0 : decode cX8_placeOf 0 = .ok (.aload_n 0, 1) := by decide +kernel
theorem dX8_placeOf_1 : decode cX8_placeOf 1 = .ok (.getfield 9, 3) := by decide +kernel
theorem dX8_placeOf_4 : decode cX8_placeOf 4 = .ok (.iload_n 1, 1) := by decide +kernel
theorem dX8_placeOf_5 : decode cX8_placeOf 5 = .ok (.iadd, 1) := by decide +kernel
theorem dX8_placeOf_6 : decode cX8_placeOf 6 = .ok (.aload_n 0, 1) := by decide +kernel
theorem dX8_placeOf_7 : decode cX8_placeOf 7 = .ok (.getfield 24, 3) := by decide +kernel
theorem dX8_placeOf_10 : decode cX8_placeOf 10 = .ok (.irem, 1) := by decide +kernel
theorem dX8_placeOf_11 : decode cX8_placeOf 11 = .ok (.bipush 19, 2) := by decide +kernel
theorem dX8_placeOf_13 : decode cX8_placeOf 13 = .ok (.imul, 1) := by decide +kernel
theorem dX8_placeOf_14 : decode cX8_placeOf 14 = .ok (.ireturn, 1) := by decide +kernel
theorem dX9_init_0 : decode cX9_init 0 = .ok (.aload_n 0, 1) := by decide +kernel
theorem dX9_init_1 : decode cX9_init 1 = .ok (.invokespecial 3, 3) := by decide +kernel
theorem dX9_init_4 : decode cX9_init 4 = .ok (.aload_n 0, 1) := by decide +kernel
theorem dX9_init_5 : decode cX9_init 5 = .ok (.bipush 10, 2) := by decide +kernel
theorem dX9_init_7 : decode cX9_init 7 = .ok (.newarray .long, 2) := by decide +kernel
theorem dX9_init_9 : decode cX9_init 9 = .ok (.putfield 9, 3) := by decide +kernel
theorem dX9_init_12 : decode cX9_init 12 = .ok (.aload_n 0, 1) := by decide +kernel
theorem dX9_init_13 : decode cX9_init 13 = .ok (.bipush 10, 2) := by decide +kernel
theorem dX9_init_15 : decode cX9_init 15 = .ok (.newarray .long, 2) := by decide +kernel
theorem dX9_init_17 : decode cX9_init 17 = .ok (.putfield 15, 3) := by decide +kernel
theorem dX9_init_20 : decode cX9_init 20 = .ok (.aload_n 0, 1) := by decide +kernel
theorem dX9_init_21 : decode cX9_init 21 = .ok (.bipush 10, 2) := by decide +kernel
theorem dX9_init_23 : decode cX9_init 23 = .ok (.newarray .int, 2) := by decide +kernel
theorem dX9_init_25 : decode cX9_init 25 = .ok (.putfield 18, 3) := by decide +kernel
theorem dX9_init_28 : decode cX9_init 28 = .ok (.aload_n 0, 1) := by decide +kernel
theorem dX9_init_29 : decode cX9_init 29 = .ok (.bipush 8, 2) := by decide +kernel
theorem dX9_init_31 : decode cX9_init 31 = .ok (.newarray .long, 2) := by decide +kernel
theorem dX9_init_33 : decode cX9_init 33 = .ok (.putfield 22, 3) := by decide +kernel
theorem dX9_init_36 : decode cX9_init 36 = .ok (.aload_n 0, 1) := by decide +kernel
theorem dX9_init_37 : decode cX9_init 37 = .ok (.bipush 8, 2) := by decide +kernel
theorem dX9_init_39 : decode cX9_init 39 = .ok (.newarray .int, 2) := by decide +kernel
theorem dX9_init_41 : decode cX9_init 41 = .ok (.putfield 25, 3) := by decide +kernel
theorem dX9_init_44 : decode cX9_init 44 = .ok (.aload_n 0, 1) := by decide +kernel
theorem dX9_init_45 : decode cX9_init 45 = .ok (.bipush 8, 2) := by decide +kernel
theorem dX9_init_47 : decode cX9_init 47 = .ok (.newarray .int, 2) := by decide +kernel
theorem dX9_init_49 : decode cX9_init 49 = .ok (.putfield 28, 3) := by decide +kernel
theorem dX9_init_52 : decode cX9_init 52 = .ok (.aload_n 0, 1) := by decide +kernel
theorem dX9_init_53 : decode cX9_init 53 = .ok (.bipush 8, 2) := by decide +kernel
theorem dX9_init_55 : decode cX9_init 55 = .ok (.newarray .int, 2) := by decide +kernel
theorem dX9_init_57 : decode cX9_init 57 = .ok (.putfield 31, 3) := by decide +kernel
theorem dX9_init_60 : decode cX9_init 60 = .ok (.aload_n 0, 1) := by decide +kernel
theorem dX9_init_61 : decode cX9_init 61 = .ok (.bipush 32, 2) := by decide +kernel
theorem dX9_init_63 : decode cX9_init 63 = .ok (.newarray .int, 2) := by decide +kernel
theorem dX9_init_65 : decode cX9_init 65 = .ok (.putfield 34, 3) := by decide +kernel
theorem dX9_init_68 : decode cX9_init 68 = .ok (.aload_n 0, 1) := by decide +kernel
theorem dX9_init_69 : decode cX9_init 69 = .ok (.bipush 24, 2) := by decide +kernel
theorem dX9_init_71 : decode cX9_init 71 = .ok (.newarray .int, 2) := by decide +kernel
theorem dX9_init_73 : decode cX9_init 73 = .ok (.putfield 37, 3) := by decide +kernel
theorem dX9_init_76 : decode cX9_init 76 = .ok (.aload_n 0, 1) := by decide +kernel
theorem dX9_init_77 : decode cX9_init 77 = .ok (.bipush 6, 2) := by decide +kernel
theorem dX9_init_79 : decode cX9_init 79 = .ok (.newarray .int, 2) := by decide +kernel
theorem dX9_init_81 : decode cX9_init 81 = .ok (.putfield 40, 3) := by decide +kernel
theorem dX9_init_84 : decode cX9_init 84 = .ok (.aload_n 0, 1) := by decide +kernel
theorem dX9_init_85 : decode cX9_init 85 = .ok (.bipush 6, 2) := by decide +kernel
theorem dX9_init_87 : decode cX9_init 87 = .ok (.newarray .int, 2) := by decide +kernel
theorem dX9_init_89 : decode cX9_init 89 = .ok (.putfield 43, 3) := by decide +kernel
theorem dX9_init_92 : decode cX9_init 92 = .ok (.aload_n 0, 1) := by decide +kernel
theorem dX9_init_93 : decode cX9_init 93 = .ok (.bipush 6, 2) := by decide +kernel
theorem dX9_init_95 : decode cX9_init 95 = .ok (.newarray .int, 2) := by decide +kernel
theorem dX9_init_97 : decode cX9_init 97 = .ok (.putfield 46, 3) := by decide +kernel
theorem dX9_init_100 : decode cX9_init 100 = .ok (.aload_n 0, 1) := by decide +kernel
theorem dX9_init_101 : decode cX9_init 101 = .ok (.sipush 160, 3) := by decide +kernel
theorem dX9_init_104 : decode cX9_init 104 = .ok (.newarray .int, 2) := by decide +kernel
theorem dX9_init_106 : decode cX9_init 106 = .ok (.putfield 49, 3) := by decide +kernel
theorem dX9_init_109 : decode cX9_init 109 = .ok (.aload_n 0, 1) := by decide +kernel
theorem dX9_init_110 : decode cX9_init 110 = .ok (.iconst 0, 1) := by decide +kernel
theorem dX9_init_111 : decode cX9_init 111 = .ok (.putfield 52, 3) := by decide +kernel
theorem dX9_init_114 : decode cX9_init 114 = .ok (.aload_n 0, 1) := by decide +kernel
theorem dX9_init_115 : decode cX9_init 115 = .ok (.iconst 0, 1) := by decide +kernel
theorem dX9_init_116 : decode cX9_init 116 = .ok (.putfield 56, 3) := by decide +kernel
theorem dX9_init_119 : decode cX9_init 119 = .ok (.aload_n 0, 1) := by decide +kernel
theorem dX9_init_120 : decode cX9_init 120 = .ok (.iconst 0, 1) := by decide +kernel
theorem dX9_init_121 : decode cX9_init 121 = .ok (.putfield 59, 3) := by decide +kernel
theorem dX9_init_124 : decode cX9_init 124 = .ok (.aload_n 0, 1) := by decide +kernel
theorem dX9_init_125 : decode cX9_init 125 = .ok (.iconst 0, 1) := by decide +kernel
theorem dX9_init_126 : decode cX9_init 126 = .ok (.putfield 62, 3) := by decide +kernel
theorem dX9_init_129 : decode cX9_init 129 = .ok (.aload_n 0, 1) := by decide +kernel
theorem dX9_init_130 : decode cX9_init 130 = .ok (.iconst 0, 1) := by decide +kernel
theorem dX9_init_131 : decode cX9_init 131 = .ok (.putfield 65, 3) := by decide +kernel
theorem dX9_init_134 : decode cX9_init 134 = .ok (.aload_n 0, 1) := by decide +kernel
theorem dX9_init_135 : decode cX9_init 135 = .ok (.iconst 0, 1) := by decide +kernel
theorem dX9_init_136 : decode cX9_init 136 = .ok (.putfield 68, 3) := by decide +kernel
theorem dX9_init_139 : decode cX9_init 139 = .ok (.aload_n 0, 1) := by decide +kernel
theorem dX9_init_140 : decode cX9_init 140 = .ok (.iconst 0, 1) := by decide +kernel
theorem dX9_init_141 : decode cX9_init 141 = .ok (.putfield 71, 3) := by decide +kernel
theorem dX9_init_144 : decode cX9_init 144 = .ok (.return_, 1) := by decide +kernel
theorem dX9_forget_0 : decode cX9_forget 0 = .ok (.aload_n 0, 1) := by decide +kernel
theorem dX9_forget_1 : decode cX9_forget 1 = .ok (.getfield 34, 3) := by decide +kernel
theorem dX9_forget_4 : decode cX9_forget 4 = .ok (.iconst 0, 1) := by decide +kernel
theorem dX9_forget_5 : decode cX9_forget 5 = .ok (.invokestatic 74, 3) := by decide +kernel
theorem dX9_forget_8 : decode cX9_forget 8 = .ok (.aload_n 0, 1) := by decide +kernel
theorem dX9_forget_9 : decode cX9_forget 9 = .ok (.getfield 37, 3) := by decide +kernel
theorem dX9_forget_12 : decode cX9_forget 12 = .ok (.iconst 0, 1) := by decide +kernel
theorem dX9_forget_13 : decode cX9_forget 13 = .ok (.invokestatic 74, 3) := by decide +kernel
theorem dX9_forget_16 : decode cX9_forget 16 = .ok (.aload_n 0, 1) := by decide +kernel
theorem dX9_forget_17 : decode cX9_forget 17 = .ok (.iconst 0, 1) := by decide +kernel
theorem dX9_forget_18 : decode cX9_forget 18 = .ok (.putfield 52, 3) := by decide +kernel
theorem dX9_forget_21 : decode cX9_forget 21 = .ok (.aload_n 0, 1) := by decide +kernel
theorem dX9_forget_22 : decode cX9_forget 22 = .ok (.iconst 0, 1) := by decide +kernel
theorem dX9_forget_23 : decode cX9_forget 23 = .ok (.putfield 56, 3) := by decide +kernel
theorem dX9_forget_26 : decode cX9_forget 26 = .ok (.aload_n 0, 1) := by decide +kernel
theorem dX9_forget_27 : decode cX9_forget 27 = .ok (.iconst 0, 1) := by decide +kernel
theorem dX9_forget_28 : decode cX9_forget 28 = .ok (.putfield 59, 3) := by decide +kernel
theorem dX9_forget_31 : decode cX9_forget 31 = .ok (.aload_n 0, 1) := by decide +kernel
theorem dX9_forget_32 : decode cX9_forget 32 = .ok (.iconst 0, 1) := by decide +kernel
theorem dX9_forget_33 : decode cX9_forget 33 = .ok (.putfield 62, 3) := by decide +kernel
theorem dX9_forget_36 : decode cX9_forget 36 = .ok (.aload_n 0, 1) := by decide +kernel
theorem dX9_forget_37 : decode cX9_forget 37 = .ok (.iconst 0, 1) := by decide +kernel
theorem dX9_forget_38 : decode cX9_forget 38 = .ok (.putfield 65, 3) := by decide +kernel
theorem dX9_forget_41 : decode cX9_forget 41 = .ok (.aload_n 0, 1) := by decide +kernel
theorem dX9_forget_42 : decode cX9_forget 42 = .ok (.iconst 0, 1) := by decide +kernel
theorem dX9_forget_43 : decode cX9_forget 43 = .ok (.putfield 68, 3) := by decide +kernel
theorem dX9_forget_46 : decode cX9_forget 46 = .ok (.aload_n 0, 1) := by decide +kernel
theorem dX9_forget_47 : decode cX9_forget 47 = .ok (.iconst 0, 1) := by decide +kernel
theorem dX9_forget_48 : decode cX9_forget 48 = .ok (.putfield 71, 3) := by decide +kernel
theorem dX9_forget_51 : decode cX9_forget 51 = .ok (.return_, 1) := by decide +kernel
theorem dX9_addWord_0 : decode cX9_addWord 0 = .ok (.aload_n 0, 1) := by decide +kernel
theorem dX9_addWord_1 : decode cX9_addWord 1 = .ok (.getfield 59, 3) := by decide +kernel
theorem dX9_addWord_4 : decode cX9_addWord 4 = .ok (.bipush 10, 2) := by decide +kernel
theorem dX9_addWord_6 : decode cX9_addWord 6 = .ok (.if_icmp .ge 44, 3) := by decide +kernel
theorem dX9_addWord_9 : decode cX9_addWord 9 = .ok (.aload_n 0, 1) := by decide +kernel
theorem dX9_addWord_10 : decode cX9_addWord 10 = .ok (.getfield 9, 3) := by decide +kernel
theorem dX9_addWord_13 : decode cX9_addWord 13 = .ok (.aload_n 0, 1) := by decide +kernel
theorem dX9_addWord_14 : decode cX9_addWord 14 = .ok (.getfield 59, 3) := by decide +kernel
theorem dX9_addWord_17 : decode cX9_addWord 17 = .ok (.lload_n 1, 1) := by decide +kernel
theorem dX9_addWord_18 : decode cX9_addWord 18 = .ok (.lastore, 1) := by decide +kernel
theorem dX9_addWord_19 : decode cX9_addWord 19 = .ok (.aload_n 0, 1) := by decide +kernel
theorem dX9_addWord_20 : decode cX9_addWord 20 = .ok (.getfield 15, 3) := by decide +kernel
theorem dX9_addWord_23 : decode cX9_addWord 23 = .ok (.aload_n 0, 1) := by decide +kernel
theorem dX9_addWord_24 : decode cX9_addWord 24 = .ok (.getfield 59, 3) := by decide +kernel
theorem dX9_addWord_27 : decode cX9_addWord 27 = .ok (.lload_n 3, 1) := by decide +kernel
theorem dX9_addWord_28 : decode cX9_addWord 28 = .ok (.lastore, 1) := by decide +kernel
theorem dX9_addWord_29 : decode cX9_addWord 29 = .ok (.aload_n 0, 1) := by decide +kernel
theorem dX9_addWord_30 : decode cX9_addWord 30 = .ok (.getfield 18, 3) := by decide +kernel
theorem dX9_addWord_33 : decode cX9_addWord 33 = .ok (.aload_n 0, 1) := by decide +kernel
theorem dX9_addWord_34 : decode cX9_addWord 34 = .ok (.getfield 59, 3) := by decide +kernel
theorem dX9_addWord_37 : decode cX9_addWord 37 = .ok (.iload 5, 2) := by decide +kernel
theorem dX9_addWord_39 : decode cX9_addWord 39 = .ok (.iastore, 1) := by decide +kernel
theorem dX9_addWord_40 : decode cX9_addWord 40 = .ok (.aload_n 0, 1) := by decide +kernel
theorem dX9_addWord_41 : decode cX9_addWord 41 = .ok (.dup, 1) := by decide +kernel
theorem dX9_addWord_42 : decode cX9_addWord 42 = .ok (.getfield 59, 3) := by decide +kernel
theorem dX9_addWord_45 : decode cX9_addWord 45 = .ok (.iconst 1, 1) := by decide +kernel
theorem dX9_addWord_46 : decode cX9_addWord 46 = .ok (.iadd, 1) := by decide +kernel
theorem dX9_addWord_47 : decode cX9_addWord 47 = .ok (.putfield 59, 3) := by decide +kernel
theorem dX9_addWord_50 : decode cX9_addWord 50 = .ok (.return_, 1) := by decide +kernel
theorem dX9_addPerson_0 : decode cX9_addPerson 0 = .ok (.aload_n 0, 1) := by decide +kernel
theorem dX9_addPerson_1 : decode cX9_addPerson 1 = .ok (.getfield 62, 3) := by decide +kernel
theorem dX9_addPerson_4 : decode cX9_addPerson 4 = .ok (.bipush 8, 2) := by decide +kernel
theorem dX9_addPerson_6 : decode cX9_addPerson 6 = .ok (.if_icmp .ge 80, 3) := by decide +kernel
theorem dX9_addPerson_9 : decode cX9_addPerson 9 = .ok (.aload_n 0, 1) := by decide +kernel
theorem dX9_addPerson_10 : decode cX9_addPerson 10 = .ok (.getfield 22, 3) := by decide +kernel
theorem dX9_addPerson_13 : decode cX9_addPerson 13 = .ok (.aload_n 0, 1) := by decide +kernel
theorem dX9_addPerson_14 : decode cX9_addPerson 14 = .ok (.getfield 62, 3) := by decide +kernel
theorem dX9_addPerson_17 : decode cX9_addPerson 17 = .ok (.lload_n 1, 1) := by decide +kernel
theorem dX9_addPerson_18 : decode cX9_addPerson 18 = .ok (.lastore, 1) := by decide +kernel
theorem dX9_addPerson_19 : decode cX9_addPerson 19 = .ok (.aload_n 0, 1) := by decide +kernel
theorem dX9_addPerson_20 : decode cX9_addPerson 20 = .ok (.getfield 25, 3) := by decide +kernel
theorem dX9_addPerson_23 : decode cX9_addPerson 23 = .ok (.aload_n 0, 1) := by decide +kernel
theorem dX9_addPerson_24 : decode cX9_addPerson 24 = .ok (.getfield 62, 3) := by decide +kernel
theorem dX9_addPerson_27 : decode cX9_addPerson 27 = .ok (.iload_n 3, 1) := by decide +kernel
theorem dX9_addPerson_28 : decode cX9_addPerson 28 = .ok (.iastore, 1) := by decide +kernel
theorem dX9_addPerson_29 : decode cX9_addPerson 29 = .ok (.aload_n 0, 1) := by decide +kernel
theorem dX9_addPerson_30 : decode cX9_addPerson 30 = .ok (.getfield 28, 3) := by decide +kernel
theorem dX9_addPerson_33 : decode cX9_addPerson 33 = .ok (.aload_n 0, 1) := by decide +kernel
theorem dX9_addPerson_34 : decode cX9_addPerson 34 = .ok (.getfield 62, 3) := by decide +kernel
theorem dX9_addPerson_37 : decode cX9_addPerson 37 = .ok (.iconst 1, 1) := by decide +kernel
theorem dX9_addPerson_38 : decode cX9_addPerson 38 = .ok (.iload 5, 2) := by decide +kernel
theorem dX9_addPerson_40 : decode cX9_addPerson 40 = .ok (.ishl, 1) := by decide +kernel
theorem dX9_addPerson_41 : decode cX9_addPerson 41 = .ok (.iastore, 1) := by decide +kernel
theorem dX9_addPerson_42 : decode cX9_addPerson 42 = .ok (.aload_n 0, 1) := by decide +kernel
theorem dX9_addPerson_43 : decode cX9_addPerson 43 = .ok (.getfield 31, 3) := by decide +kernel
theorem dX9_addPerson_46 : decode cX9_addPerson 46 = .ok (.aload_n 0, 1) := by decide +kernel
theorem dX9_addPerson_47 : decode cX9_addPerson 47 = .ok (.getfield 62, 3) := by decide +kernel
theorem dX9_addPerson_50 : decode cX9_addPerson 50 = .ok (.iconst 0, 1) := by decide +kernel
theorem dX9_addPerson_51 : decode cX9_addPerson 51 = .ok (.iastore, 1) := by decide +kernel
theorem dX9_addPerson_52 : decode cX9_addPerson 52 = .ok (.aload_n 0, 1) := by decide +kernel
theorem dX9_addPerson_53 : decode cX9_addPerson 53 = .ok (.dup, 1) := by decide +kernel
theorem dX9_addPerson_54 : decode cX9_addPerson 54 = .ok (.getfield 65, 3) := by decide +kernel
theorem dX9_addPerson_57 : decode cX9_addPerson 57 = .ok (.iload 4, 2) := by decide +kernel
theorem dX9_addPerson_59 : decode cX9_addPerson 59 = .ok (.ifCond .eq 12, 3) := by decide +kernel
theorem dX9_addPerson_62 : decode cX9_addPerson 62 = .ok (.iconst 1, 1) := by decide +kernel
theorem dX9_addPerson_63 : decode cX9_addPerson 63 = .ok (.aload_n 0, 1) := by decide +kernel
theorem dX9_addPerson_64 : decode cX9_addPerson 64 = .ok (.getfield 62, 3) := by decide +kernel
theorem dX9_addPerson_67 : decode cX9_addPerson 67 = .ok (.ishl, 1) := by decide +kernel
theorem dX9_addPerson_68 : decode cX9_addPerson 68 = .ok (.goto 4, 3) := by decide +kernel
theorem dX9_addPerson_71 : decode cX9_addPerson 71 = .ok (.iconst 0, 1) := by decide +kernel
theorem dX9_addPerson_72 : decode cX9_addPerson 72 = .ok (.ior, 1) := by decide +kernel
theorem dX9_addPerson_73 : decode cX9_addPerson 73 = .ok (.putfield 65, 3) := by decide +kernel
theorem dX9_addPerson_76 : decode cX9_addPerson 76 = .ok (.aload_n 0, 1) := by decide +kernel
theorem dX9_addPerson_77 : decode cX9_addPerson 77 = .ok (.dup, 1) := by decide +kernel
theorem dX9_addPerson_78 : decode cX9_addPerson 78 = .ok (.getfield 62, 3) := by decide +kernel
theorem dX9_addPerson_81 : decode cX9_addPerson 81 = .ok (.iconst 1, 1) := by decide +kernel
theorem dX9_addPerson_82 : decode cX9_addPerson 82 = .ok (.iadd, 1) := by decide +kernel
theorem dX9_addPerson_83 : decode cX9_addPerson 83 = .ok (.putfield 62, 3) := by decide +kernel
theorem dX9_addPerson_86 : decode cX9_addPerson 86 = .ok (.return_, 1) := by decide +kernel
theorem dX9_addAlike_0 : decode cX9_addAlike 0 = .ok (.aload_n 0, 1) := by decide +kernel
theorem dX9_addAlike_1 : decode cX9_addAlike 1 = .ok (.getfield 34, 3) := by decide +kernel
theorem dX9_addAlike_4 : decode cX9_addAlike 4 = .ok (.iload_n 1, 1) := by decide +kernel
theorem dX9_addAlike_5 : decode cX9_addAlike 5 = .ok (.bipush 31, 2) := by decide +kernel
theorem dX9_addAlike_7 : decode cX9_addAlike 7 = .ok (.iand, 1) := by decide +kernel
theorem dX9_addAlike_8 : decode cX9_addAlike 8 = .ok (.dup2, 1) := by decide +kernel
theorem dX9_addAlike_9 : decode cX9_addAlike 9 = .ok (.iaload, 1) := by decide +kernel
theorem dX9_addAlike_10 : decode cX9_addAlike 10 = .ok (.iconst 1, 1) := by decide +kernel
theorem dX9_addAlike_11 : decode cX9_addAlike 11 = .ok (.iload_n 2, 1) := by decide +kernel
theorem dX9_addAlike_12 : decode cX9_addAlike 12 = .ok (.ishl, 1) := by decide +kernel
theorem dX9_addAlike_13 : decode cX9_addAlike 13 = .ok (.ior, 1) := by decide +kernel
theorem dX9_addAlike_14 : decode cX9_addAlike 14 = .ok (.iastore, 1) := by decide +kernel
theorem dX9_addAlike_15 : decode cX9_addAlike 15 = .ok (.aload_n 0, 1) := by decide +kernel
theorem dX9_addAlike_16 : decode cX9_addAlike 16 = .ok (.getfield 34, 3) := by decide +kernel
theorem dX9_addAlike_19 : decode cX9_addAlike 19 = .ok (.iload_n 2, 1) := by decide +kernel
theorem dX9_addAlike_20 : decode cX9_addAlike 20 = .ok (.bipush 31, 2) := by decide +kernel
theorem dX9_addAlike_22 : decode cX9_addAlike 22 = .ok (.iand, 1) := by decide +kernel
theorem dX9_addAlike_23 : decode cX9_addAlike 23 = .ok (.dup2, 1) := by decide +kernel
theorem dX9_addAlike_24 : decode cX9_addAlike 24 = .ok (.iaload, 1) := by decide +kernel
theorem dX9_addAlike_25 : decode cX9_addAlike 25 = .ok (.iconst 1, 1) := by decide +kernel
theorem dX9_addAlike_26 : decode cX9_addAlike 26 = .ok (.iload_n 1, 1) := by decide +kernel
theorem dX9_addAlike_27 : decode cX9_addAlike 27 = .ok (.ishl, 1) := by decide +kernel
theorem dX9_addAlike_28 : decode cX9_addAlike 28 = .ok (.ior, 1) := by decide +kernel
theorem dX9_addAlike_29 : decode cX9_addAlike 29 = .ok (.iastore, 1) := by decide +kernel
theorem dX9_addAlike_30 : decode cX9_addAlike 30 = .ok (.aload_n 0, 1) := by decide +kernel
theorem dX9_addAlike_31 : decode cX9_addAlike 31 = .ok (.dup, 1) := by decide +kernel
theorem dX9_addAlike_32 : decode cX9_addAlike 32 = .ok (.getfield 68, 3) := by decide +kernel
theorem dX9_addAlike_35 : decode cX9_addAlike 35 = .ok (.iconst 1, 1) := by decide +kernel
theorem dX9_addAlike_36 : decode cX9_addAlike 36 = .ok (.iadd, 1) := by decide +kernel
theorem dX9_addAlike_37 : decode cX9_addAlike 37 = .ok (.putfield 68, 3) := by decide +kernel
theorem dX9_addAlike_40 : decode cX9_addAlike 40 = .ok (.return_, 1) := by decide +kernel
theorem dX9_addGot_0 : decode cX9_addGot 0 = .ok (.aload_n 0, 1) := by decide +kernel
theorem dX9_addGot_1 : decode cX9_addGot 1 = .ok (.getfield 71, 3) := by decide +kernel
theorem dX9_addGot_4 : decode cX9_addGot 4 = .ok (.bipush 6, 2) := by decide +kernel
theorem dX9_addGot_6 : decode cX9_addGot 6 = .ok (.if_icmp .ge 43, 3) := by decide +kernel
theorem dX9_addGot_9 : decode cX9_addGot 9 = .ok (.aload_n 0, 1) := by decide +kernel
theorem dX9_addGot_10 : decode cX9_addGot 10 = .ok (.getfield 40, 3) := by decide +kernel
theorem dX9_addGot_13 : decode cX9_addGot 13 = .ok (.aload_n 0, 1) := by decide +kernel
theorem dX9_addGot_14 : decode cX9_addGot 14 = .ok (.getfield 71, 3) := by decide +kernel
theorem dX9_addGot_17 : decode cX9_addGot 17 = .ok (.iload_n 1, 1) := by decide +kernel
theorem dX9_addGot_18 : decode cX9_addGot 18 = .ok (.iastore, 1) := by decide +kernel
theorem dX9_addGot_19 : decode cX9_addGot 19 = .ok (.aload_n 0, 1) := by decide +kernel
theorem dX9_addGot_20 : decode cX9_addGot 20 = .ok (.getfield 43, 3) := by decide +kernel
theorem dX9_addGot_23 : decode cX9_addGot 23 = .ok (.aload_n 0, 1) := by decide +kernel
theorem dX9_addGot_24 : decode cX9_addGot 24 = .ok (.getfield 71, 3) := by decide +kernel
theorem dX9_addGot_27 : decode cX9_addGot 27 = .ok (.iload_n 2, 1) := by decide +kernel
theorem dX9_addGot_28 : decode cX9_addGot 28 = .ok (.iastore, 1) := by decide +kernel
theorem dX9_addGot_29 : decode cX9_addGot 29 = .ok (.aload_n 0, 1) := by decide +kernel
theorem dX9_addGot_30 : decode cX9_addGot 30 = .ok (.getfield 46, 3) := by decide +kernel
theorem dX9_addGot_33 : decode cX9_addGot 33 = .ok (.aload_n 0, 1) := by decide +kernel
theorem dX9_addGot_34 : decode cX9_addGot 34 = .ok (.getfield 71, 3) := by decide +kernel
theorem dX9_addGot_37 : decode cX9_addGot 37 = .ok (.iload_n 3, 1) := by decide +kernel
theorem dX9_addGot_38 : decode cX9_addGot 38 = .ok (.iastore, 1) := by decide +kernel
theorem dX9_addGot_39 : decode cX9_addGot 39 = .ok (.aload_n 0, 1) := by decide +kernel
theorem dX9_addGot_40 : decode cX9_addGot 40 = .ok (.dup, 1) := by decide +kernel
theorem dX9_addGot_41 : decode cX9_addGot 41 = .ok (.getfield 71, 3) := by decide +kernel
theorem dX9_addGot_44 : decode cX9_addGot 44 = .ok (.iconst 1, 1) := by decide +kernel
theorem dX9_addGot_45 : decode cX9_addGot 45 = .ok (.iadd, 1) := by decide +kernel
theorem dX9_addGot_46 : decode cX9_addGot 46 = .ok (.putfield 71, 3) := by decide +kernel
theorem dX9_addGot_49 : decode cX9_addGot 49 = .ok (.return_, 1) := by decide +kernel
theorem dX9_wordNamed_0 : decode cX9_wordNamed 0 = .ok (.iconst 0, 1) := by decide +kernel
theorem dX9_wordNamed_1 : decode cX9_wordNamed 1 = .ok (.istore_n 3, 1) := by decide +kernel
theorem dX9_wordNamed_2 : decode cX9_wordNamed 2 = .ok (.iload_n 3, 1) := by decide +kernel
theorem dX9_wordNamed_3 : decode cX9_wordNamed 3 = .ok (.aload_n 0, 1) := by decide +kernel
theorem dX9_wordNamed_4 : decode cX9_wordNamed 4 = .ok (.getfield 59, 3) := by decide +kernel
theorem dX9_wordNamed_7 : decode cX9_wordNamed 7 = .ok (.if_icmp .ge 22, 3) := by decide +kernel
theorem dX9_wordNamed_10 : decode cX9_wordNamed 10 = .ok (.aload_n 0, 1) := by decide +kernel
theorem dX9_wordNamed_11 : decode cX9_wordNamed 11 = .ok (.getfield 9, 3) := by decide +kernel
theorem dX9_wordNamed_14 : decode cX9_wordNamed 14 = .ok (.iload_n 3, 1) := by decide +kernel
theorem dX9_wordNamed_15 : decode cX9_wordNamed 15 = .ok (.laload, 1) := by decide +kernel
theorem dX9_wordNamed_16 : decode cX9_wordNamed 16 = .ok (.lload_n 1, 1) := by decide +kernel
theorem dX9_wordNamed_17 : decode cX9_wordNamed 17 = .ok (.lcmp, 1) := by decide +kernel
theorem dX9_wordNamed_18 : decode cX9_wordNamed 18 = .ok (.ifCond .ne 5, 3) := by decide +kernel
theorem dX9_wordNamed_21 : decode cX9_wordNamed 21 = .ok (.iload_n 3, 1) := by decide +kernel
theorem dX9_wordNamed_22 : decode cX9_wordNamed 22 = .ok (.ireturn, 1) := by decide +kernel
theorem dX9_wordNamed_23 : decode cX9_wordNamed 23 = .ok (.iinc 3 1, 3) := by decide +kernel
theorem dX9_wordNamed_26 : decode cX9_wordNamed 26 = .ok (.goto (-24), 3) := by decide +kernel
theorem dX9_wordNamed_29 : decode cX9_wordNamed 29 = .ok (.iconst (-1), 1) := by decide +kernel
theorem dX9_wordNamed_30 : decode cX9_wordNamed 30 = .ok (.ireturn, 1) := by decide +kernel
theorem dX9_personNamed_0 : decode cX9_personNamed 0 = .ok (.iconst 0, 1) := by decide +kernel
theorem dX9_personNamed_1 : decode cX9_personNamed 1 = .ok (.istore_n 3, 1) := by decide +kernel
theorem dX9_personNamed_2 : decode cX9_personNamed 2 = .ok (.iload_n 3, 1) := by decide +kernel
theorem dX9_personNamed_3 : decode cX9_personNamed 3 = .ok (.aload_n 0, 1) := by decide +kernel
theorem dX9_personNamed_4 : decode cX9_personNamed 4 = .ok (.getfield 62, 3) := by decide +kernel
theorem dX9_personNamed_7 : decode cX9_personNamed 7 = .ok (.if_icmp .ge 22, 3) := by decide +kernel
theorem dX9_personNamed_10 : decode cX9_personNamed 10 = .ok (.aload_n 0, 1) := by decide +kernel
theorem dX9_personNamed_11 : decode cX9_personNamed 11 = .ok (.getfield 22, 3) := by decide +kernel
theorem dX9_personNamed_14 : decode cX9_personNamed 14 = .ok (.iload_n 3, 1) := by decide +kernel
theorem dX9_personNamed_15 : decode cX9_personNamed 15 = .ok (.laload, 1) := by decide +kernel
theorem dX9_personNamed_16 : decode cX9_personNamed 16 = .ok (.lload_n 1, 1) := by decide +kernel
theorem dX9_personNamed_17 : decode cX9_personNamed 17 = .ok (.lcmp, 1) := by decide +kernel
theorem dX9_personNamed_18 : decode cX9_personNamed 18 = .ok (.ifCond .ne 5, 3) := by decide +kernel
theorem dX9_personNamed_21 : decode cX9_personNamed 21 = .ok (.iload_n 3, 1) := by decide +kernel
theorem dX9_personNamed_22 : decode cX9_personNamed 22 = .ok (.ireturn, 1) := by decide +kernel
theorem dX9_personNamed_23 : decode cX9_personNamed 23 = .ok (.iinc 3 1, 3) := by decide +kernel
theorem dX9_personNamed_26 : decode cX9_personNamed 26 = .ok (.goto (-24), 3) := by decide +kernel
theorem dX9_personNamed_29 : decode cX9_personNamed 29 = .ok (.iconst (-1), 1) := by decide +kernel
theorem dX9_personNamed_30 : decode cX9_personNamed 30 = .ok (.ireturn, 1) := by decide +kernel
theorem dX9_isAlike_0 : decode cX9_isAlike 0 = .ok (.iload_n 1, 1) := by decide +kernel
theorem dX9_isAlike_1 : decode cX9_isAlike 1 = .ok (.iload_n 2, 1) := by decide +kernel
theorem dX9_isAlike_2 : decode cX9_isAlike 2 = .ok (.if_icmp .eq 19, 3) := by decide +kernel
theorem dX9_isAlike_5 : decode cX9_isAlike 5 = .ok (.aload_n 0, 1) := by decide +kernel
theorem dX9_isAlike_6 : decode cX9_isAlike 6 = .ok (.getfield 34, 3) := by decide +kernel
theorem dX9_isAlike_9 : decode cX9_isAlike 9 = .ok (.iload_n 1, 1) := by decide +kernel
theorem dX9_isAlike_10 : decode cX9_isAlike 10 = .ok (.bipush 31, 2) := by decide +kernel
theorem dX9_isAlike_12 : decode cX9_isAlike 12 = .ok (.iand, 1) := by decide +kernel
theorem dX9_isAlike_13 : decode cX9_isAlike 13 = .ok (.iaload, 1) := by decide +kernel
theorem dX9_isAlike_14 : decode cX9_isAlike 14 = .ok (.iload_n 2, 1) := by decide +kernel
theorem dX9_isAlike_15 : decode cX9_isAlike 15 = .ok (.invokestatic 80, 3) := by decide +kernel
theorem dX9_isAlike_18 : decode cX9_isAlike 18 = .ok (.ifCond .eq 7, 3) := by decide +kernel
theorem dX9_isAlike_21 : decode cX9_isAlike 21 = .ok (.iconst 1, 1) := by decide +kernel
theorem dX9_isAlike_22 : decode cX9_isAlike 22 = .ok (.goto 4, 3) := by decide +kernel
theorem dX9_isAlike_25 : decode cX9_isAlike 25 = .ok (.iconst 0, 1) := by decide +kernel
theorem dX9_isAlike_26 : decode cX9_isAlike 26 = .ok (.ireturn, 1) := by decide +kernel
theorem dX9_earAt_0 : decode cX9_earAt 0 = .ok (.aload_n 0, 1) := by decide +kernel
theorem dX9_earAt_1 : decode cX9_earAt 1 = .ok (.getfield 37, 3) := by decide +kernel
theorem dX9_earAt_4 : decode cX9_earAt 4 = .ok (.iload_n 1, 1) := by decide +kernel
theorem dX9_earAt_5 : decode cX9_earAt 5 = .ok (.iaload, 1) := by decide +kernel
theorem dX9_earAt_6 : decode cX9_earAt 6 = .ok (.ifCond .le 12, 3) := by decide +kernel
theorem dX9_earAt_9 : decode cX9_earAt 9 = .ok (.aload_n 0, 1) := by decide +kernel
theorem dX9_earAt_10 : decode cX9_earAt 10 = .ok (.getfield 37, 3) := by decide +kernel
theorem dX9_earAt_13 : decode cX9_earAt 13 = .ok (.iload_n 1, 1) := by decide +kernel
theorem dX9_earAt_14 : decode cX9_earAt 14 = .ok (.iaload, 1) := by decide +kernel
theorem dX9_earAt_15 : decode cX9_earAt 15 = .ok (.goto 7, 3) := by decide +kernel
theorem dX9_earAt_18 : decode cX9_earAt 18 = .ok (.aload_n 0, 1) := by decide +kernel
theorem dX9_earAt_19 : decode cX9_earAt 19 = .ok (.getfield 52, 3) := by decide +kernel
theorem dX9_earAt_22 : decode cX9_earAt 22 = .ok (.ireturn, 1) := by decide +kernel
theorem dX9_hoursTold_0 : decode cX9_hoursTold 0 = .ok (.iconst 0, 1) := by decide +kernel
theorem dX9_hoursTold_1 : decode cX9_hoursTold 1 = .ok (.istore_n 1, 1) := by decide +kernel
theorem dX9_hoursTold_2 : decode cX9_hoursTold 2 = .ok (.iconst 0, 1) := by decide +kernel
theorem dX9_hoursTold_3 : decode cX9_hoursTold 3 = .ok (.istore_n 2, 1) := by decide +kernel
theorem dX9_hoursTold_4 : decode cX9_hoursTold 4 = .ok (.iload_n 2, 1) := by decide +kernel
theorem dX9_hoursTold_5 : decode cX9_hoursTold 5 = .ok (.bipush 24, 2) := by decide +kernel
theorem dX9_hoursTold_7 : decode cX9_hoursTold 7 = .ok (.if_icmp .ge 26, 3) := by decide +kernel
theorem dX9_hoursTold_10 : decode cX9_hoursTold 10 = .ok (.iload_n 1, 1) := by decide +kernel
theorem dX9_hoursTold_11 : decode cX9_hoursTold 11 = .ok (.aload_n 0, 1) := by decide +kernel
theorem dX9_hoursTold_12 : decode cX9_hoursTold 12 = .ok (.getfield 37, 3) := by decide +kernel
theorem dX9_hoursTold_15 : decode cX9_hoursTold 15 = .ok (.iload_n 2, 1) := by decide +kernel
theorem dX9_hoursTold_16 : decode cX9_hoursTold 16 = .ok (.iaload, 1) := by decide +kernel
theorem dX9_hoursTold_17 : decode cX9_hoursTold 17 = .ok (.ifCond .le 7, 3) := by decide +kernel
theorem dX9_hoursTold_20 : decode cX9_hoursTold 20 = .ok (.iconst 1, 1) := by decide +kernel
theorem dX9_hoursTold_21 : decode cX9_hoursTold 21 = .ok (.goto 4, 3) := by decide +kernel
theorem dX9_hoursTold_24 : decode cX9_hoursTold 24 = .ok (.iconst 0, 1) := by decide +kernel
theorem dX9_hoursTold_25 : decode cX9_hoursTold 25 = .ok (.iadd, 1) := by decide +kernel
theorem dX9_hoursTold_26 : decode cX9_hoursTold 26 = .ok (.istore_n 1, 1) := by decide +kernel
theorem dX9_hoursTold_27 : decode cX9_hoursTold 27 = .ok (.iinc 2 1, 3) := by decide +kernel
theorem dX9_hoursTold_30 : decode cX9_hoursTold 30 = .ok (.goto (-26), 3) := by decide +kernel
theorem dX9_hoursTold_33 : decode cX9_hoursTold 33 = .ok (.iload_n 1, 1) := by decide +kernel
theorem dX9_hoursTold_34 : decode cX9_hoursTold 34 = .ok (.ireturn, 1) := by decide +kernel
theorem dX9_errandsTold_0 : decode cX9_errandsTold 0 = .ok (.iconst 0, 1) := by decide +kernel
theorem dX9_errandsTold_1 : decode cX9_errandsTold 1 = .ok (.istore_n 1, 1) := by decide +kernel
theorem dX9_errandsTold_2 : decode cX9_errandsTold 2 = .ok (.iconst 0, 1) := by decide +kernel
theorem dX9_errandsTold_3 : decode cX9_errandsTold 3 = .ok (.istore_n 2, 1) := by decide +kernel
theorem dX9_errandsTold_4 : decode cX9_errandsTold 4 = .ok (.iload_n 2, 1) := by decide +kernel
theorem dX9_errandsTold_5 : decode cX9_errandsTold 5 = .ok (.aload_n 0, 1) := by decide +kernel
theorem dX9_errandsTold_6 : decode cX9_errandsTold 6 = .ok (.getfield 62, 3) := by decide +kernel
theorem dX9_errandsTold_9 : decode cX9_errandsTold 9 = .ok (.if_icmp .ge 26, 3) := by decide +kernel
theorem dX9_errandsTold_12 : decode cX9_errandsTold 12 = .ok (.iload_n 1, 1) := by decide +kernel
theorem dX9_errandsTold_13 : decode cX9_errandsTold 13 = .ok (.aload_n 0, 1) := by decide +kernel
theorem dX9_errandsTold_14 : decode cX9_errandsTold 14 = .ok (.getfield 31, 3) := by decide +kernel
theorem dX9_errandsTold_17 : decode cX9_errandsTold 17 = .ok (.iload_n 2, 1) := by decide +kernel
theorem dX9_errandsTold_18 : decode cX9_errandsTold 18 = .ok (.iaload, 1) := by decide +kernel
theorem dX9_errandsTold_19 : decode cX9_errandsTold 19 = .ok (.ifCond .le 7, 3) := by decide +kernel
theorem dX9_errandsTold_22 : decode cX9_errandsTold 22 = .ok (.iconst 1, 1) := by decide +kernel
theorem dX9_errandsTold_23 : decode cX9_errandsTold 23 = .ok (.goto 4, 3) := by decide +kernel
theorem dX9_errandsTold_26 : decode cX9_errandsTold 26 = .ok (.iconst 0, 1) := by decide +kernel
theorem dX9_errandsTold_27 : decode cX9_errandsTold 27 = .ok (.iadd, 1) := by decide +kernel
theorem dX9_errandsTold_28 : decode cX9_errandsTold 28 = .ok (.istore_n 1, 1) := by decide +kernel
theorem dX9_errandsTold_29 : decode cX9_errandsTold 29 = .ok (.iinc 2 1, 3) := by decide +kernel
theorem dX9_errandsTold_32 : decode cX9_errandsTold 32 = .ok (.goto (-28), 3) := by decide +kernel
theorem dX9_errandsTold_35 : decode cX9_errandsTold 35 = .ok (.iload_n 1, 1) := by decide +kernel
theorem dX9_errandsTold_36 : decode cX9_errandsTold 36 = .ok (.ireturn, 1) := by decide +kernel
theorem dX9_lettersOf_0 : decode cX9_lettersOf 0 = .ok (.iconst 0, 1) := by decide +kernel
theorem dX9_lettersOf_1 : decode cX9_lettersOf 1 = .ok (.istore_n 2, 1) := by decide +kernel
theorem dX9_lettersOf_2 : decode cX9_lettersOf 2 = .ok (.iload_n 2, 1) := by decide +kernel
theorem dX9_lettersOf_3 : decode cX9_lettersOf 3 = .ok (.bipush 8, 2) := by decide +kernel
theorem dX9_lettersOf_5 : decode cX9_lettersOf 5 = .ok (.if_icmp .ge 19, 3) := by decide +kernel
theorem dX9_lettersOf_8 : decode cX9_lettersOf 8 = .ok (.lload_n 0, 1) := by decide +kernel
theorem dX9_lettersOf_9 : decode cX9_lettersOf 9 = .ok (.iconst 5, 1) := by decide +kernel
theorem dX9_lettersOf_10 : decode cX9_lettersOf 10 = .ok (.iload_n 2, 1) := by decide +kernel
theorem dX9_lettersOf_11 : decode cX9_lettersOf 11 = .ok (.imul, 1) := by decide +kernel
theorem dX9_lettersOf_12 : decode cX9_lettersOf 12 = .ok (.lushr, 1) := by decide +kernel
theorem dX9_lettersOf_13 : decode cX9_lettersOf 13 = .ok (.lconst 0, 1) := by decide +kernel
theorem dX9_lettersOf_14 : decode cX9_lettersOf 14 = .ok (.lcmp, 1) := by decide +kernel
theorem dX9_lettersOf_15 : decode cX9_lettersOf 15 = .ok (.ifCond .eq 9, 3) := by decide +kernel
theorem dX9_lettersOf_18 : decode cX9_lettersOf 18 = .ok (.iinc 2 1, 3) := by decide +kernel
theorem dX9_lettersOf_21 : decode cX9_lettersOf 21 = .ok (.goto (-19), 3) := by decide +kernel
theorem dX9_lettersOf_24 : decode cX9_lettersOf 24 = .ok (.iload_n 2, 1) := by decide +kernel
theorem dX9_lettersOf_25 : decode cX9_lettersOf 25 = .ok (.ireturn, 1) := by decide +kernel
theorem dX9_common_0 : decode cX9_common 0 = .ok (.iload_n 1, 1) := by decide +kernel
theorem dX9_common_1 : decode cX9_common 1 = .ok (.ifCond .ne 12, 3) := by decide +kernel
theorem dX9_common_4 : decode cX9_common 4 = .ok (.aload_n 0, 1) := by decide +kernel
theorem dX9_common_5 : decode cX9_common 5 = .ok (.getfield 15, 3) := by decide +kernel
theorem dX9_common_8 : decode cX9_common 8 = .ok (.iload_n 2, 1) := by decide +kernel
theorem dX9_common_9 : decode cX9_common 9 = .ok (.laload, 1) := by decide +kernel
theorem dX9_common_10 : decode cX9_common 10 = .ok (.goto 9, 3) := by decide +kernel
theorem dX9_common_13 : decode cX9_common 13 = .ok (.aload_n 0, 1) := by decide +kernel
theorem dX9_common_14 : decode cX9_common 14 = .ok (.getfield 9, 3) := by decide +kernel
theorem dX9_common_17 : decode cX9_common 17 = .ok (.iload_n 2, 1) := by decide +kernel
theorem dX9_common_18 : decode cX9_common 18 = .ok (.laload, 1) := by decide +kernel
theorem dX9_common_19 : decode cX9_common 19 = .ok (.lstore 4, 2) := by decide +kernel
theorem dX9_common_21 : decode cX9_common 21 = .ok (.iload_n 1, 1) := by decide +kernel
theorem dX9_common_22 : decode cX9_common 22 = .ok (.ifCond .ne 12, 3) := by decide +kernel
theorem dX9_common_25 : decode cX9_common 25 = .ok (.aload_n 0, 1) := by decide +kernel
theorem dX9_common_26 : decode cX9_common 26 = .ok (.getfield 15, 3) := by decide +kernel
theorem dX9_common_29 : decode cX9_common 29 = .ok (.iload_n 3, 1) := by decide +kernel
theorem dX9_common_30 : decode cX9_common 30 = .ok (.laload, 1) := by decide +kernel
theorem dX9_common_31 : decode cX9_common 31 = .ok (.goto 9, 3) := by decide +kernel
theorem dX9_common_34 : decode cX9_common 34 = .ok (.aload_n 0, 1) := by decide +kernel
theorem dX9_common_35 : decode cX9_common 35 = .ok (.getfield 9, 3) := by decide +kernel
theorem dX9_common_38 : decode cX9_common 38 = .ok (.iload_n 3, 1) := by decide +kernel
theorem dX9_common_39 : decode cX9_common 39 = .ok (.laload, 1) := by decide +kernel
theorem dX9_common_40 : decode cX9_common 40 = .ok (.lstore 6, 2) := by decide +kernel
theorem dX9_common_42 : decode cX9_common 42 = .ok (.iconst 0, 1) := by decide +kernel
theorem dX9_common_43 : decode cX9_common 43 = .ok (.istore 8, 2) := by decide +kernel
theorem dX9_common_45 : decode cX9_common 45 = .ok (.iload 8, 2) := by decide +kernel
theorem dX9_common_47 : decode cX9_common 47 = .ok (.bipush 8, 2) := by decide +kernel
theorem dX9_common_49 : decode cX9_common 49 = .ok (.if_icmp .ge 79, 3) := by decide +kernel
theorem dX9_common_52 : decode cX9_common 52 = .ok (.lload 4, 2) := by decide +kernel
theorem dX9_common_54 : decode cX9_common 54 = .ok (.lconst 0, 1) := by decide +kernel
theorem dX9_common_55 : decode cX9_common 55 = .ok (.lcmp, 1) := by decide +kernel
theorem dX9_common_56 : decode cX9_common 56 = .ok (.ifCond .eq 72, 3) := by decide +kernel
theorem dX9_common_59 : decode cX9_common 59 = .ok (.lload 6, 2) := by decide +kernel
theorem dX9_common_61 : decode cX9_common 61 = .ok (.lconst 0, 1) := by decide +kernel
theorem dX9_common_62 : decode cX9_common 62 = .ok (.lcmp, 1) := by decide +kernel
theorem dX9_common_63 : decode cX9_common 63 = .ok (.ifCond .eq 65, 3) := by decide +kernel
theorem dX9_common_66 : decode cX9_common 66 = .ok (.lload 4, 2) := by decide +kernel
theorem dX9_common_68 : decode cX9_common 68 = .ok (.ldc2_w 84, 3) := by decide +kernel
theorem dX9_common_71 : decode cX9_common 71 = .ok (.land, 1) := by decide +kernel
theorem dX9_common_72 : decode cX9_common 72 = .ok (.l2i, 1) := by decide +kernel
theorem dX9_common_73 : decode cX9_common 73 = .ok (.istore 9, 2) := by decide +kernel
theorem dX9_common_75 : decode cX9_common 75 = .ok (.lload 6, 2) := by decide +kernel
theorem dX9_common_77 : decode cX9_common 77 = .ok (.ldc2_w 84, 3) := by decide +kernel
theorem dX9_common_80 : decode cX9_common 80 = .ok (.land, 1) := by decide +kernel
theorem dX9_common_81 : decode cX9_common 81 = .ok (.l2i, 1) := by decide +kernel
theorem dX9_common_82 : decode cX9_common 82 = .ok (.istore 10, 2) := by decide +kernel
theorem dX9_common_84 : decode cX9_common 84 = .ok (.iload 9, 2) := by decide +kernel
theorem dX9_common_86 : decode cX9_common 86 = .ok (.iload 10, 2) := by decide +kernel
theorem dX9_common_88 : decode cX9_common 88 = .ok (.if_icmp .eq 22, 3) := by decide +kernel
theorem dX9_common_91 : decode cX9_common 91 = .ok (.iload_n 1, 1) := by decide +kernel
theorem dX9_common_92 : decode cX9_common 92 = .ok (.iconst 1, 1) := by decide +kernel
theorem dX9_common_93 : decode cX9_common 93 = .ok (.if_icmp .eq 14, 3) := by decide +kernel
theorem dX9_common_96 : decode cX9_common 96 = .ok (.aload_n 0, 1) := by decide +kernel
theorem dX9_common_97 : decode cX9_common 97 = .ok (.iload 9, 2) := by decide +kernel
theorem dX9_common_99 : decode cX9_common 99 = .ok (.iload 10, 2) := by decide +kernel
theorem dX9_common_101 : decode cX9_common 101 = .ok (.invokevirtual 86, 3) := by decide +kernel
theorem dX9_common_104 : decode cX9_common 104 = .ok (.ifCond .ne 6, 3) := by decide +kernel
theorem dX9_common_107 : decode cX9_common 107 = .ok (.iload 8, 2) := by decide +kernel
theorem dX9_common_109 : decode cX9_common 109 = .ok (.ireturn, 1) := by decide +kernel
theorem dX9_common_110 : decode cX9_common 110 = .ok (.lload 4, 2) := by decide +kernel
theorem dX9_common_112 : decode cX9_common 112 = .ok (.iconst 5, 1) := by decide +kernel
theorem dX9_common_113 : decode cX9_common 113 = .ok (.lushr, 1) := by decide +kernel
theorem dX9_common_114 : decode cX9_common 114 = .ok (.lstore 4, 2) := by decide +kernel
theorem dX9_common_116 : decode cX9_common 116 = .ok (.lload 6, 2) := by decide +kernel
theorem dX9_common_118 : decode cX9_common 118 = .ok (.iconst 5, 1) := by decide +kernel
theorem dX9_common_119 : decode cX9_common 119 = .ok (.lushr, 1) := by decide +kernel
theorem dX9_common_120 : decode cX9_common 120 = .ok (.lstore 6, 2) := by decide +kernel
theorem dX9_common_122 : decode cX9_common 122 = .ok (.iinc 8 1, 3) := by decide +kernel
theorem dX9_common_125 : decode cX9_common 125 = .ok (.goto (-80), 3) := by decide +kernel
theorem dX9_common_128 : decode cX9_common 128 = .ok (.iload 8, 2) := by decide +kernel
theorem dX9_common_130 : decode cX9_common 130 = .ok (.ireturn, 1) := by decide +kernel
theorem dX9_compareWords_0 : decode cX9_compareWords 0 = .ok (.aload_n 0, 1) := by decide +kernel
theorem dX9_compareWords_1 : decode cX9_compareWords 1 = .ok (.getfield 49, 3) := by decide +kernel
theorem dX9_compareWords_4 : decode cX9_compareWords 4 = .ok (.iconst 0, 1) := by decide +kernel
theorem dX9_compareWords_5 : decode cX9_compareWords 5 = .ok (.invokestatic 74, 3) := by decide +kernel
theorem dX9_compareWords_8 : decode cX9_compareWords 8 = .ok (.iconst 0, 1) := by decide +kernel
theorem dX9_compareWords_9 : decode cX9_compareWords 9 = .ok (.istore_n 1, 1) := by decide +kernel
theorem dX9_compareWords_10 : decode cX9_compareWords 10 = .ok (.iload_n 1, 1) := by decide +kernel
theorem dX9_compareWords_11 : decode cX9_compareWords 11 = .ok (.aload_n 0, 1) := by decide +kernel
theorem dX9_compareWords_12 : decode cX9_compareWords 12 = .ok (.getfield 59, 3) := by decide +kernel
theorem dX9_compareWords_15 : decode cX9_compareWords 15 = .ok (.if_icmp .ge 39, 3) := by decide +kernel
theorem dX9_compareWords_18 : decode cX9_compareWords 18 = .ok (.iconst 0, 1) := by decide +kernel
theorem dX9_compareWords_19 : decode cX9_compareWords 19 = .ok (.istore_n 2, 1) := by decide +kernel
theorem dX9_compareWords_20 : decode cX9_compareWords 20 = .ok (.iload_n 2, 1) := by decide +kernel
theorem dX9_compareWords_21 : decode cX9_compareWords 21 = .ok (.aload_n 0, 1) := by decide +kernel
theorem dX9_compareWords_22 : decode cX9_compareWords 22 = .ok (.getfield 59, 3) := by decide +kernel
theorem dX9_compareWords_25 : decode cX9_compareWords 25 = .ok (.if_icmp .ge 23, 3) := by decide +kernel
theorem dX9_compareWords_28 : decode cX9_compareWords 28 = .ok (.aload_n 0, 1) := by decide +kernel
theorem dX9_compareWords_29 : decode cX9_compareWords 29 = .ok (.iconst 0, 1) := by decide +kernel
theorem dX9_compareWords_30 : decode cX9_compareWords 30 = .ok (.iload_n 1, 1) := by decide +kernel
theorem dX9_compareWords_31 : decode cX9_compareWords 31 = .ok (.iload_n 2, 1) := by decide +kernel
theorem dX9_compareWords_32 : decode cX9_compareWords 32 = .ok (.invokevirtual 89, 3) := by decide +kernel
theorem dX9_compareWords_35 : decode cX9_compareWords 35 = .ok (.aload_n 0, 1) := by decide +kernel
theorem dX9_compareWords_36 : decode cX9_compareWords 36 = .ok (.iconst 1, 1) := by decide +kernel
theorem dX9_compareWords_37 : decode cX9_compareWords 37 = .ok (.iload_n 1, 1) := by decide +kernel
theorem dX9_compareWords_38 : decode cX9_compareWords 38 = .ok (.iload_n 2, 1) := by decide +kernel
theorem dX9_compareWords_39 : decode cX9_compareWords 39 = .ok (.invokevirtual 89, 3) := by decide +kernel
theorem dX9_compareWords_42 : decode cX9_compareWords 42 = .ok (.iinc 2 1, 3) := by decide +kernel
theorem dX9_compareWords_45 : decode cX9_compareWords 45 = .ok (.goto (-25), 3) := by decide +kernel
theorem dX9_compareWords_48 : decode cX9_compareWords 48 = .ok (.iinc 1 1, 3) := by decide +kernel
theorem dX9_compareWords_51 : decode cX9_compareWords 51 = .ok (.goto (-41), 3) := by decide +kernel
theorem dX9_compareWords_54 : decode cX9_compareWords 54 = .ok (.return_, 1) := by decide +kernel
theorem dX9_noteCommon_0 : decode cX9_noteCommon 0 = .ok (.aload_n 0, 1) := by decide +kernel
theorem dX9_noteCommon_1 : decode cX9_noteCommon 1 = .ok (.iload_n 1, 1) := by decide +kernel
theorem dX9_noteCommon_2 : decode cX9_noteCommon 2 = .ok (.iload_n 2, 1) := by decide +kernel
theorem dX9_noteCommon_3 : decode cX9_noteCommon 3 = .ok (.iload_n 3, 1) := by decide +kernel
theorem dX9_noteCommon_4 : decode cX9_noteCommon 4 = .ok (.invokevirtual 93, 3) := by decide +kernel
theorem dX9_noteCommon_7 : decode cX9_noteCommon 7 = .ok (.istore 4, 2) := by decide +kernel
theorem dX9_noteCommon_9 : decode cX9_noteCommon 9 = .ok (.iconst 0, 1) := by decide +kernel
theorem dX9_noteCommon_10 : decode cX9_noteCommon 10 = .ok (.istore 5, 2) := by decide +kernel
theorem dX9_noteCommon_12 : decode cX9_noteCommon 12 = .ok (.iload 5, 2) := by decide +kernel
theorem dX9_noteCommon_14 : decode cX9_noteCommon 14 = .ok (.iload 4, 2) := by decide +kernel
theorem dX9_noteCommon_16 : decode cX9_noteCommon 16 = .ok (.if_icmp .gt 39, 3) := by decide +kernel
theorem dX9_noteCommon_19 : decode cX9_noteCommon 19 = .ok (.iload 5, 2) := by decide +kernel
theorem dX9_noteCommon_21 : decode cX9_noteCommon 21 = .ok (.bipush 7, 2) := by decide +kernel
theorem dX9_noteCommon_23 : decode cX9_noteCommon 23 = .ok (.if_icmp .gt 32, 3) := by decide +kernel
theorem dX9_noteCommon_26 : decode cX9_noteCommon 26 = .ok (.aload_n 0, 1) := by decide +kernel
theorem dX9_noteCommon_27 : decode cX9_noteCommon 27 = .ok (.getfield 49, 3) := by decide +kernel
theorem dX9_noteCommon_30 : decode cX9_noteCommon 30 = .ok (.iload_n 1, 1) := by decide +kernel
theorem dX9_noteCommon_31 : decode cX9_noteCommon 31 = .ok (.bipush 8, 2) := by decide +kernel
theorem dX9_noteCommon_33 : decode cX9_noteCommon 33 = .ok (.imul, 1) := by decide +kernel
theorem dX9_noteCommon_34 : decode cX9_noteCommon 34 = .ok (.iload 5, 2) := by decide +kernel
theorem dX9_noteCommon_36 : decode cX9_noteCommon 36 = .ok (.iadd, 1) := by decide +kernel
theorem dX9_noteCommon_37 : decode cX9_noteCommon 37 = .ok (.bipush 10, 2) := by decide +kernel
theorem dX9_noteCommon_39 : decode cX9_noteCommon 39 = .ok (.imul, 1) := by decide +kernel
theorem dX9_noteCommon_40 : decode cX9_noteCommon 40 = .ok (.iload_n 2, 1) := by decide +kernel
theorem dX9_noteCommon_41 : decode cX9_noteCommon 41 = .ok (.iadd, 1) := by decide +kernel
theorem dX9_noteCommon_42 : decode cX9_noteCommon 42 = .ok (.dup2, 1) := by decide +kernel
theorem dX9_noteCommon_43 : decode cX9_noteCommon 43 = .ok (.iaload, 1) := by decide +kernel
theorem dX9_noteCommon_44 : decode cX9_noteCommon 44 = .ok (.iconst 1, 1) := by decide +kernel
theorem dX9_noteCommon_45 : decode cX9_noteCommon 45 = .ok (.iload_n 3, 1) := by decide +kernel
theorem dX9_noteCommon_46 : decode cX9_noteCommon 46 = .ok (.ishl, 1) := by decide +kernel
theorem dX9_noteCommon_47 : decode cX9_noteCommon 47 = .ok (.ior, 1) := by decide +kernel
theorem dX9_noteCommon_48 : decode cX9_noteCommon 48 = .ok (.iastore, 1) := by decide +kernel
theorem dX9_noteCommon_49 : decode cX9_noteCommon 49 = .ok (.iinc 5 1, 3) := by decide +kernel
theorem dX9_noteCommon_52 : decode cX9_noteCommon 52 = .ok (.goto (-40), 3) := by decide +kernel
theorem dX9_noteCommon_55 : decode cX9_noteCommon 55 = .ok (.return_, 1) := by decide +kernel
theorem dX9_rhymingWords_0 : decode cX9_rhymingWords 0 = .ok (.iload_n 2, 1) := by decide +kernel
theorem dX9_rhymingWords_1 : decode cX9_rhymingWords 1 = .ok (.iconst 2, 1) := by decide +kernel
theorem dX9_rhymingWords_2 : decode cX9_rhymingWords 2 = .ok (.if_icmp .eq 8, 3) := by decide +kernel
theorem dX9_rhymingWords_5 : decode cX9_rhymingWords 5 = .ok (.iload_n 3, 1) := by decide +kernel
theorem dX9_rhymingWords_6 : decode cX9_rhymingWords 6 = .ok (.iconst 2, 1) := by decide +kernel
theorem dX9_rhymingWords_7 : decode cX9_rhymingWords 7 = .ok (.if_icmp .ne 12, 3) := by decide +kernel
theorem dX9_rhymingWords_10 : decode cX9_rhymingWords 10 = .ok (.iconst 1, 1) := by decide +kernel
theorem dX9_rhymingWords_11 : decode cX9_rhymingWords 11 = .ok (.aload_n 0, 1) := by decide +kernel
theorem dX9_rhymingWords_12 : decode cX9_rhymingWords 12 = .ok (.getfield 59, 3) := by decide +kernel
theorem dX9_rhymingWords_15 : decode cX9_rhymingWords 15 = .ok (.ishl, 1) := by decide +kernel
theorem dX9_rhymingWords_16 : decode cX9_rhymingWords 16 = .ok (.iconst 1, 1) := by decide +kernel
theorem dX9_rhymingWords_17 : decode cX9_rhymingWords 17 = .ok (.isub, 1) := by decide +kernel
theorem dX9_rhymingWords_18 : decode cX9_rhymingWords 18 = .ok (.ireturn, 1) := by decide +kernel
theorem dX9_rhymingWords_19 : decode cX9_rhymingWords 19 = .ok (.iload_n 2, 1) := by decide +kernel
theorem dX9_rhymingWords_20 : decode cX9_rhymingWords 20 = .ok (.iconst 1, 1) := by decide +kernel
theorem dX9_rhymingWords_21 : decode cX9_rhymingWords 21 = .ok (.if_icmp .eq 8, 3) := by decide +kernel
theorem dX9_rhymingWords_24 : decode cX9_rhymingWords 24 = .ok (.iload_n 3, 1) := by decide +kernel
theorem dX9_rhymingWords_25 : decode cX9_rhymingWords 25 = .ok (.iconst 1, 1) := by decide +kernel
theorem dX9_rhymingWords_26 : decode cX9_rhymingWords 26 = .ok (.if_icmp .ne 7, 3) := by decide +kernel
theorem dX9_rhymingWords_29 : decode cX9_rhymingWords 29 = .ok (.iconst 1, 1) := by decide +kernel
theorem dX9_rhymingWords_30 : decode cX9_rhymingWords 30 = .ok (.goto 4, 3) := by decide +kernel
theorem dX9_rhymingWords_33 : decode cX9_rhymingWords 33 = .ok (.iconst 0, 1) := by decide +kernel
theorem dX9_rhymingWords_34 : decode cX9_rhymingWords 34 = .ok (.istore 5, 2) := by decide +kernel
theorem dX9_rhymingWords_36 : decode cX9_rhymingWords 36 = .ok (.iload_n 2, 1) := by decide +kernel
theorem dX9_rhymingWords_37 : decode cX9_rhymingWords 37 = .ok (.iconst 3, 1) := by decide +kernel
theorem dX9_rhymingWords_38 : decode cX9_rhymingWords 38 = .ok (.if_icmp .eq 8, 3) := by decide +kernel
theorem dX9_rhymingWords_41 : decode cX9_rhymingWords 41 = .ok (.iload_n 3, 1) := by decide +kernel
theorem dX9_rhymingWords_42 : decode cX9_rhymingWords 42 = .ok (.iconst 3, 1) := by decide +kernel
theorem dX9_rhymingWords_43 : decode cX9_rhymingWords 43 = .ok (.if_icmp .ne 10, 3) := by decide +kernel
theorem dX9_rhymingWords_46 : decode cX9_rhymingWords 46 = .ok (.iload 4, 2) := by decide +kernel
theorem dX9_rhymingWords_48 : decode cX9_rhymingWords 48 = .ok (.iconst 1, 1) := by decide +kernel
theorem dX9_rhymingWords_49 : decode cX9_rhymingWords 49 = .ok (.isub, 1) := by decide +kernel
theorem dX9_rhymingWords_50 : decode cX9_rhymingWords 50 = .ok (.goto 5, 3) := by decide +kernel
theorem dX9_rhymingWords_53 : decode cX9_rhymingWords 53 = .ok (.iload 4, 2) := by decide +kernel
theorem dX9_rhymingWords_55 : decode cX9_rhymingWords 55 = .ok (.istore 6, 2) := by decide +kernel
theorem dX9_rhymingWords_57 : decode cX9_rhymingWords 57 = .ok (.iload 6, 2) := by decide +kernel
theorem dX9_rhymingWords_59 : decode cX9_rhymingWords 59 = .ok (.ifCond .lt 10, 3) := by decide +kernel
theorem dX9_rhymingWords_62 : decode cX9_rhymingWords 62 = .ok (.iload 6, 2) := by decide +kernel
theorem dX9_rhymingWords_64 : decode cX9_rhymingWords 64 = .ok (.bipush 7, 2) := by decide +kernel
theorem dX9_rhymingWords_66 : decode cX9_rhymingWords 66 = .ok (.if_icmp .le 5, 3) := by decide +kernel
theorem dX9_rhymingWords_69 : decode cX9_rhymingWords 69 = .ok (.iconst 0, 1) := by decide +kernel
theorem dX9_rhymingWords_70 : decode cX9_rhymingWords 70 = .ok (.ireturn, 1) := by decide +kernel
theorem dX9_rhymingWords_71 : decode cX9_rhymingWords 71 = .ok (.aload_n 0, 1) := by decide +kernel
theorem dX9_rhymingWords_72 : decode cX9_rhymingWords 72 = .ok (.getfield 49, 3) := by decide +kernel
theorem dX9_rhymingWords_75 : decode cX9_rhymingWords 75 = .ok (.iload 5, 2) := by decide +kernel
theorem dX9_rhymingWords_77 : decode cX9_rhymingWords 77 = .ok (.bipush 8, 2) := by decide +kernel
theorem dX9_rhymingWords_79 : decode cX9_rhymingWords 79 = .ok (.imul, 1) := by decide +kernel
theorem dX9_rhymingWords_80 : decode cX9_rhymingWords 80 = .ok (.iload 6, 2) := by decide +kernel
theorem dX9_rhymingWords_82 : decode cX9_rhymingWords 82 = .ok (.iadd, 1) := by decide +kernel
theorem dX9_rhymingWords_83 : decode cX9_rhymingWords 83 = .ok (.bipush 10, 2) := by decide +kernel
theorem dX9_rhymingWords_85 : decode cX9_rhymingWords 85 = .ok (.imul, 1) := by decide +kernel
theorem dX9_rhymingWords_86 : decode cX9_rhymingWords 86 = .ok (.iload_n 1, 1) := by decide +kernel
theorem dX9_rhymingWords_87 : decode cX9_rhymingWords 87 = .ok (.iadd, 1) := by decide +kernel
theorem dX9_rhymingWords_88 : decode cX9_rhymingWords 88 = .ok (.iaload, 1) := by decide +kernel
theorem dX9_rhymingWords_89 : decode cX9_rhymingWords 89 = .ok (.ireturn, 1) := by decide +kernel
theorem dX9_isFullRhyme_0 : decode cX9_isFullRhyme 0 = .ok (.iconst 0, 1) := by decide +kernel
theorem dX9_isFullRhyme_1 : decode cX9_isFullRhyme 1 = .ok (.istore 6, 2) := by decide +kernel
theorem dX9_isFullRhyme_3 : decode cX9_isFullRhyme 3 = .ok (.iload 6, 2) := by decide +kernel
theorem dX9_isFullRhyme_5 : decode cX9_isFullRhyme 5 = .ok (.aload_n 0, 1) := by decide +kernel
theorem dX9_isFullRhyme_6 : decode cX9_isFullRhyme 6 = .ok (.getfield 59, 3) := by decide +kernel
theorem dX9_isFullRhyme_9 : decode cX9_isFullRhyme 9 = .ok (.if_icmp .ge 36, 3) := by decide +kernel
theorem dX9_isFullRhyme_12 : decode cX9_isFullRhyme 12 = .ok (.iload_n 2, 1) := by decide +kernel
theorem dX9_isFullRhyme_13 : decode cX9_isFullRhyme 13 = .ok (.iload 6, 2) := by decide +kernel
theorem dX9_isFullRhyme_15 : decode cX9_isFullRhyme 15 = .ok (.invokestatic 80, 3) := by decide +kernel
theorem dX9_isFullRhyme_18 : decode cX9_isFullRhyme 18 = .ok (.ifCond .eq 21, 3) := by decide +kernel
theorem dX9_isFullRhyme_21 : decode cX9_isFullRhyme 21 = .ok (.aload_n 0, 1) := by decide +kernel
theorem dX9_isFullRhyme_22 : decode cX9_isFullRhyme 22 = .ok (.iload 6, 2) := by decide +kernel
theorem dX9_isFullRhyme_24 : decode cX9_isFullRhyme 24 = .ok (.iload_n 1, 1) := by decide +kernel
theorem dX9_isFullRhyme_25 : decode cX9_isFullRhyme 25 = .ok (.iload_n 3, 1) := by decide +kernel
theorem dX9_isFullRhyme_26 : decode cX9_isFullRhyme 26 = .ok (.iload 5, 2) := by decide +kernel
theorem dX9_isFullRhyme_28 : decode cX9_isFullRhyme 28 = .ok (.invokevirtual 97, 3) := by decide +kernel
theorem dX9_isFullRhyme_31 : decode cX9_isFullRhyme 31 = .ok (.iload 4, 2) := by decide +kernel
theorem dX9_isFullRhyme_33 : decode cX9_isFullRhyme 33 = .ok (.iand, 1) := by decide +kernel
theorem dX9_isFullRhyme_34 : decode cX9_isFullRhyme 34 = .ok (.ifCond .eq 5, 3) := by decide +kernel
theorem dX9_isFullRhyme_37 : decode cX9_isFullRhyme 37 = .ok (.iconst 1, 1) := by decide +kernel
theorem dX9_isFullRhyme_38 : decode cX9_isFullRhyme 38 = .ok (.ireturn, 1) := by decide +kernel
theorem dX9_isFullRhyme_39 : decode cX9_isFullRhyme 39 = .ok (.iinc 6 1, 3) := by decide +kernel
theorem dX9_isFullRhyme_42 : decode cX9_isFullRhyme 42 = .ok (.goto (-39), 3) := by decide +kernel
theorem dX9_isFullRhyme_45 : decode cX9_isFullRhyme 45 = .ok (.iconst 0, 1) := by decide +kernel
theorem dX9_isFullRhyme_46 : decode cX9_isFullRhyme 46 = .ok (.ireturn, 1) := by decide +kernel
theorem dX9_degree_0 : decode cX9_degree 0 = .ok (.aload_n 0, 1) := by decide +kernel
theorem dX9_degree_1 : decode cX9_degree 1 = .ok (.iload_n 1, 1) := by decide +kernel
theorem dX9_degree_2 : decode cX9_degree 2 = .ok (.iload_n 2, 1) := by decide +kernel
theorem dX9_degree_3 : decode cX9_degree 3 = .ok (.iload_n 3, 1) := by decide +kernel
theorem dX9_degree_4 : decode cX9_degree 4 = .ok (.iload 4, 2) := by decide +kernel
theorem dX9_degree_6 : decode cX9_degree 6 = .ok (.iload 5, 2) := by decide +kernel
theorem dX9_degree_8 : decode cX9_degree 8 = .ok (.invokevirtual 101, 3) := by decide +kernel
theorem dX9_degree_11 : decode cX9_degree 11 = .ok (.ifCond .eq 5, 3) := by decide +kernel
theorem dX9_degree_14 : decode cX9_degree 14 = .ok (.iconst 2, 1) := by decide +kernel
theorem dX9_degree_15 : decode cX9_degree 15 = .ok (.ireturn, 1) := by decide +kernel
theorem dX9_degree_16 : decode cX9_degree 16 = .ok (.iload_n 1, 1) := by decide +kernel
theorem dX9_degree_17 : decode cX9_degree 17 = .ok (.iconst 3, 1) := by decide +kernel
theorem dX9_degree_18 : decode cX9_degree 18 = .ok (.if_icmp .eq 8, 3) := by decide +kernel
theorem dX9_degree_21 : decode cX9_degree 21 = .ok (.iload_n 3, 1) := by decide +kernel
theorem dX9_degree_22 : decode cX9_degree 22 = .ok (.iconst 3, 1) := by decide +kernel
theorem dX9_degree_23 : decode cX9_degree 23 = .ok (.if_icmp .ne 5, 3) := by decide +kernel
theorem dX9_degree_26 : decode cX9_degree 26 = .ok (.iconst 0, 1) := by decide +kernel
theorem dX9_degree_27 : decode cX9_degree 27 = .ok (.ireturn, 1) := by decide +kernel
theorem dX9_degree_28 : decode cX9_degree 28 = .ok (.aload_n 0, 1) := by decide +kernel
theorem dX9_degree_29 : decode cX9_degree 29 = .ok (.iload_n 1, 1) := by decide +kernel
theorem dX9_degree_30 : decode cX9_degree 30 = .ok (.iload_n 2, 1) := by decide +kernel
theorem dX9_degree_31 : decode cX9_degree 31 = .ok (.iload_n 3, 1) := by decide +kernel
theorem dX9_degree_32 : decode cX9_degree 32 = .ok (.iload 4, 2) := by decide +kernel
theorem dX9_degree_34 : decode cX9_degree 34 = .ok (.iload 5, 2) := by decide +kernel
theorem dX9_degree_36 : decode cX9_degree 36 = .ok (.iconst 1, 1) := by decide +kernel
theorem dX9_degree_37 : decode cX9_degree 37 = .ok (.isub, 1) := by decide +kernel
theorem dX9_degree_38 : decode cX9_degree 38 = .ok (.invokevirtual 101, 3) := by decide +kernel
theorem dX9_degree_41 : decode cX9_degree 41 = .ok (.ifCond .eq 7, 3) := by decide +kernel
theorem dX9_degree_44 : decode cX9_degree 44 = .ok (.iconst 1, 1) := by decide +kernel
theorem dX9_degree_45 : decode cX9_degree 45 = .ok (.goto 4, 3) := by decide +kernel
theorem dX9_degree_48 : decode cX9_degree 48 = .ok (.iconst 0, 1) := by decide +kernel
theorem dX9_degree_49 : decode cX9_degree 49 = .ok (.ireturn, 1) := by decide +kernel
theorem dX10_init_0 : decode cX10_init 0 = .ok (.aload_n 0, 1) := by decide +kernel
theorem dX10_init_1 : decode cX10_init 1 = .ok (.invokespecial 1, 3) := by decide +kernel
theorem dX10_init_4 : decode cX10_init 4 = .ok (.aload_n 0, 1) := by decide +kernel
theorem dX10_init_5 : decode cX10_init 5 = .ok (.sipush 900, 3) := by decide +kernel
theorem dX10_init_8 : decode cX10_init 8 = .ok (.newarray .byte, 2) := by decide +kernel
theorem dX10_init_10 : decode cX10_init 10 = .ok (.putfield 9, 3) := by decide +kernel
theorem dX10_init_13 : decode cX10_init 13 = .ok (.aload_n 0, 1) := by decide +kernel
theorem dX10_init_14 : decode cX10_init 14 = .ok (.new 13, 3) := by decide +kernel
theorem dX10_init_17 : decode cX10_init 17 = .ok (.dup, 1) := by decide +kernel
theorem dX10_init_18 : decode cX10_init 18 = .ok (.invokespecial 15, 3) := by decide +kernel
theorem dX10_init_21 : decode cX10_init 21 = .ok (.putfield 16, 3) := by decide +kernel
theorem dX10_init_24 : decode cX10_init 24 = .ok (.aload_n 0, 1) := by decide +kernel
theorem dX10_init_25 : decode cX10_init 25 = .ok (.new 20, 3) := by decide +kernel
theorem dX10_init_28 : decode cX10_init 28 = .ok (.dup, 1) := by decide +kernel
theorem dX10_init_29 : decode cX10_init 29 = .ok (.aload_n 0, 1) := by decide +kernel
theorem dX10_init_30 : decode cX10_init 30 = .ok (.getfield 16, 3) := by decide +kernel
theorem dX10_init_33 : decode cX10_init 33 = .ok (.invokespecial 22, 3) := by decide +kernel
theorem dX10_init_36 : decode cX10_init 36 = .ok (.putfield 25, 3) := by decide +kernel
theorem dX10_init_39 : decode cX10_init 39 = .ok (.aload_n 0, 1) := by decide +kernel
theorem dX10_init_40 : decode cX10_init 40 = .ok (.new 29, 3) := by decide +kernel
theorem dX10_init_43 : decode cX10_init 43 = .ok (.dup, 1) := by decide +kernel
theorem dX10_init_44 : decode cX10_init 44 = .ok (.invokespecial 31, 3) := by decide +kernel
theorem dX10_init_47 : decode cX10_init 47 = .ok (.putfield 32, 3) := by decide +kernel
theorem dX10_init_50 : decode cX10_init 50 = .ok (.aload_n 0, 1) := by decide +kernel
theorem dX10_init_51 : decode cX10_init 51 = .ok (.new 36, 3) := by decide +kernel
theorem dX10_init_54 : decode cX10_init 54 = .ok (.dup, 1) := by decide +kernel
theorem dX10_init_55 : decode cX10_init 55 = .ok (.aload_n 0, 1) := by decide +kernel
theorem dX10_init_56 : decode cX10_init 56 = .ok (.getfield 25, 3) := by decide +kernel
theorem dX10_init_59 : decode cX10_init 59 = .ok (.aload_n 0, 1) := by decide +kernel
theorem dX10_init_60 : decode cX10_init 60 = .ok (.getfield 32, 3) := by decide +kernel
theorem dX10_init_63 : decode cX10_init 63 = .ok (.invokespecial 38, 3) := by decide +kernel
theorem dX10_init_66 : decode cX10_init 66 = .ok (.putfield 41, 3) := by decide +kernel
theorem dX10_init_69 : decode cX10_init 69 = .ok (.aload_n 0, 1) := by decide +kernel
theorem dX10_init_70 : decode cX10_init 70 = .ok (.new 45, 3) := by decide +kernel
theorem dX10_init_73 : decode cX10_init 73 = .ok (.dup, 1) := by decide +kernel
theorem dX10_init_74 : decode cX10_init 74 = .ok (.aload_n 0, 1) := by decide +kernel
theorem dX10_init_75 : decode cX10_init 75 = .ok (.getfield 25, 3) := by decide +kernel
theorem dX10_init_78 : decode cX10_init 78 = .ok (.invokespecial 47, 3) := by decide +kernel
theorem dX10_init_81 : decode cX10_init 81 = .ok (.putfield 50, 3) := by decide +kernel
theorem dX10_init_84 : decode cX10_init 84 = .ok (.aload_n 0, 1) := by decide +kernel
theorem dX10_init_85 : decode cX10_init 85 = .ok (.new 54, 3) := by decide +kernel
theorem dX10_init_88 : decode cX10_init 88 = .ok (.dup, 1) := by decide +kernel
theorem dX10_init_89 : decode cX10_init 89 = .ok (.aload_n 0, 1) := by decide +kernel
theorem dX10_init_90 : decode cX10_init 90 = .ok (.getfield 25, 3) := by decide +kernel
theorem dX10_init_93 : decode cX10_init 93 = .ok (.invokespecial 56, 3) := by decide +kernel
theorem dX10_init_96 : decode cX10_init 96 = .ok (.putfield 57, 3) := by decide +kernel
theorem dX10_init_99 : decode cX10_init 99 = .ok (.aload_n 0, 1) := by decide +kernel
theorem dX10_init_100 : decode cX10_init 100 = .ok (.new 61, 3) := by decide +kernel
theorem dX10_init_103 : decode cX10_init 103 = .ok (.dup, 1) := by decide +kernel
theorem dX10_init_104 : decode cX10_init 104 = .ok (.aload_n 0, 1) := by decide +kernel
theorem dX10_init_105 : decode cX10_init 105 = .ok (.getfield 25, 3) := by decide +kernel
theorem dX10_init_108 : decode cX10_init 108 = .ok (.aload_n 0, 1) := by decide +kernel
theorem dX10_init_109 : decode cX10_init 109 = .ok (.getfield 32, 3) := by decide +kernel
theorem dX10_init_112 : decode cX10_init 112 = .ok (.invokespecial 63, 3) := by decide +kernel
theorem dX10_init_115 : decode cX10_init 115 = .ok (.putfield 64, 3) := by decide +kernel
theorem dX10_init_118 : decode cX10_init 118 = .ok (.aload_n 0, 1) := by decide +kernel
theorem dX10_init_119 : decode cX10_init 119 = .ok (.new 68, 3) := by decide +kernel
theorem dX10_init_122 : decode cX10_init 122 = .ok (.dup, 1) := by decide +kernel
theorem dX10_init_123 : decode cX10_init 123 = .ok (.bipush 16, 2) := by decide +kernel
theorem dX10_init_125 : decode cX10_init 125 = .ok (.invokespecial 70, 3) := by decide +kernel
theorem dX10_init_128 : decode cX10_init 128 = .ok (.putfield 73, 3) := by decide +kernel
theorem dX10_init_131 : decode cX10_init 131 = .ok (.aload_n 0, 1) := by decide +kernel
theorem dX10_init_132 : decode cX10_init 132 = .ok (.new 68, 3) := by decide +kernel
theorem dX10_init_135 : decode cX10_init 135 = .ok (.dup, 1) := by decide +kernel
theorem dX10_init_136 : decode cX10_init 136 = .ok (.iconst 3, 1) := by decide +kernel
theorem dX10_init_137 : decode cX10_init 137 = .ok (.invokespecial 70, 3) := by decide +kernel
theorem dX10_init_140 : decode cX10_init 140 = .ok (.putfield 77, 3) := by decide +kernel
theorem dX10_init_143 : decode cX10_init 143 = .ok (.aload_n 0, 1) := by decide +kernel
theorem dX10_init_144 : decode cX10_init 144 = .ok (.aload_n 0, 1) := by decide +kernel
theorem dX10_init_145 : decode cX10_init 145 = .ok (.getfield 25, 3) := by decide +kernel
theorem dX10_init_148 : decode cX10_init 148 = .ok (.getfield 80, 3) := by decide +kernel
theorem dX10_init_151 : decode cX10_init 151 = .ok (.putfield 84, 3) := by decide +kernel
theorem dX10_init_154 : decode cX10_init 154 = .ok (.aload_n 0, 1) := by decide +kernel
theorem dX10_init_155 : decode cX10_init 155 = .ok (.new 85, 3) := by decide +kernel
theorem dX10_init_158 : decode cX10_init 158 = .ok (.dup, 1) := by decide +kernel
theorem dX10_init_159 : decode cX10_init 159 = .ok (.invokespecial 87, 3) := by decide +kernel
theorem dX10_init_162 : decode cX10_init 162 = .ok (.putfield 88, 3) := by decide +kernel
theorem dX10_init_165 : decode cX10_init 165 = .ok (.aload_n 0, 1) := by decide +kernel
theorem dX10_init_166 : decode cX10_init 166 = .ok (.new 91, 3) := by decide +kernel
theorem dX10_init_169 : decode cX10_init 169 = .ok (.dup, 1) := by decide +kernel
theorem dX10_init_170 : decode cX10_init 170 = .ok (.aload_n 0, 1) := by decide +kernel
theorem dX10_init_171 : decode cX10_init 171 = .ok (.getfield 9, 3) := by decide +kernel
theorem dX10_init_174 : decode cX10_init 174 = .ok (.aload_n 0, 1) := by decide +kernel
theorem dX10_init_175 : decode cX10_init 175 = .ok (.getfield 88, 3) := by decide +kernel
theorem dX10_init_178 : decode cX10_init 178 = .ok (.invokespecial 93, 3) := by decide +kernel
theorem dX10_init_181 : decode cX10_init 181 = .ok (.putfield 96, 3) := by decide +kernel
theorem dX10_init_184 : decode cX10_init 184 = .ok (.aload_n 0, 1) := by decide +kernel
theorem dX10_init_185 : decode cX10_init 185 = .ok (.iconst 0, 1) := by decide +kernel
theorem dX10_init_186 : decode cX10_init 186 = .ok (.putfield 100, 3) := by decide +kernel
theorem dX10_init_189 : decode cX10_init 189 = .ok (.aload_n 0, 1) := by decide +kernel
theorem dX10_init_190 : decode cX10_init 190 = .ok (.iconst 0, 1) := by decide +kernel
theorem dX10_init_191 : decode cX10_init 191 = .ok (.putfield 104, 3) := by decide +kernel
theorem dX10_init_194 : decode cX10_init 194 = .ok (.aload_n 0, 1) := by decide +kernel
theorem dX10_init_195 : decode cX10_init 195 = .ok (.iconst 0, 1) := by decide +kernel
theorem dX10_init_196 : decode cX10_init 196 = .ok (.putfield 107, 3) := by decide +kernel
theorem dX10_init_199 : decode cX10_init 199 = .ok (.aload_n 0, 1) := by decide +kernel
theorem dX10_init_200 : decode cX10_init 200 = .ok (.iconst 0, 1) := by decide +kernel
theorem dX10_init_201 : decode cX10_init 201 = .ok (.putfield 110, 3) := by decide +kernel
theorem dX10_init_204 : decode cX10_init 204 = .ok (.return_, 1) := by decide +kernel
theorem dX10_feed_0 : decode cX10_feed 0 = .ok (.aload_n 0, 1) := by decide +kernel
theorem dX10_feed_1 : decode cX10_feed 1 = .ok (.getfield 100, 3) := by decide +kernel
theorem dX10_feed_4 : decode cX10_feed 4 = .ok (.bipush 20, 2) := by decide +kernel
theorem dX10_feed_6 : decode cX10_feed 6 = .ok (.iadd, 1) := by decide +kernel
theorem dX10_feed_7 : decode cX10_feed 7 = .ok (.sipush 900, 3) := by decide +kernel
theorem dX10_feed_10 : decode cX10_feed 10 = .ok (.if_icmp .le 5, 3) := by decide +kernel
theorem dX10_feed_13 : decode cX10_feed 13 = .ok (.iconst (-1), 1) := by decide +kernel
theorem dX10_feed_14 : decode cX10_feed 14 = .ok (.ireturn, 1) := by decide +kernel
theorem dX10_feed_15 : decode cX10_feed 15 = .ok (.aload_n 0, 1) := by decide +kernel
theorem dX10_feed_16 : decode cX10_feed 16 = .ok (.iload_n 1, 1) := by decide +kernel
theorem dX10_feed_17 : decode cX10_feed 17 = .ok (.invokevirtual 113, 3) := by decide +kernel
theorem dX10_feed_20 : decode cX10_feed 20 = .ok (.aload_n 0, 1) := by decide +kernel
theorem dX10_feed_21 : decode cX10_feed 21 = .ok (.iload_n 2, 1) := by decide +kernel
theorem dX10_feed_22 : decode cX10_feed 22 = .ok (.invokevirtual 113, 3) := by decide +kernel
theorem dX10_feed_25 : decode cX10_feed 25 = .ok (.aload_n 0, 1) := by decide +kernel
theorem dX10_feed_26 : decode cX10_feed 26 = .ok (.iload_n 3, 1) := by decide +kernel
theorem dX10_feed_27 : decode cX10_feed 27 = .ok (.invokevirtual 113, 3) := by decide +kernel
theorem dX10_feed_30 : decode cX10_feed 30 = .ok (.aload_n 0, 1) := by decide +kernel
theorem dX10_feed_31 : decode cX10_feed 31 = .ok (.iload 4, 2) := by decide +kernel
theorem dX10_feed_33 : decode cX10_feed 33 = .ok (.invokevirtual 113, 3) := by decide +kernel
theorem dX10_feed_36 : decode cX10_feed 36 = .ok (.aload_n 0, 1) := by decide +kernel
theorem dX10_feed_37 : decode cX10_feed 37 = .ok (.iload 5, 2) := by decide +kernel
theorem dX10_feed_39 : decode cX10_feed 39 = .ok (.invokevirtual 113, 3) := by decide +kernel
theorem dX10_feed_42 : decode cX10_feed 42 = .ok (.aload_n 0, 1) := by decide +kernel
theorem dX10_feed_43 : decode cX10_feed 43 = .ok (.getfield 100, 3) := by decide +kernel
theorem dX10_feed_46 : decode cX10_feed 46 = .ok (.ireturn, 1) := by decide +kernel
theorem dX10_ferry_0 : decode cX10_ferry 0 = .ok (.aload_n 0, 1) := by decide +kernel
theorem dX10_ferry_1 : decode cX10_ferry 1 = .ok (.iconst 1, 1) := by decide +kernel
theorem dX10_ferry_2 : decode cX10_ferry 2 = .ok (.iload_n 1, 1) := by decide +kernel
theorem dX10_ferry_3 : decode cX10_ferry 3 = .ok (.ifCond .lt 15, 3) := by decide +kernel
theorem dX10_ferry_6 : decode cX10_ferry 6 = .ok (.iload_n 1, 1) := by decide +kernel
theorem dX10_ferry_7 : decode cX10_ferry 7 = .ok (.aload_n 0, 1) := by decide +kernel
theorem dX10_ferry_8 : decode cX10_ferry 8 = .ok (.getfield 100, 3) := by decide +kernel
theorem dX10_ferry_11 : decode cX10_ferry 11 = .ok (.if_icmp .gt 7, 3) := by decide +kernel
theorem dX10_ferry_14 : decode cX10_ferry 14 = .ok (.iconst 1, 1) := by decide +kernel
theorem dX10_ferry_15 : decode cX10_ferry 15 = .ok (.goto 4, 3) := by decide +kernel
theorem dX10_ferry_18 : decode cX10_ferry 18 = .ok (.iconst 0, 1) := by decide +kernel
theorem dX10_ferry_19 : decode cX10_ferry 19 = .ok (.invokevirtual 116, 3) := by decide +kernel
theorem dX10_ferry_22 : decode cX10_ferry 22 = .ok (.ifCond .eq 5, 3) := by decide +kernel
theorem dX10_ferry_25 : decode cX10_ferry 25 = .ok (.iconst (-1), 1) := by decide +kernel
theorem dX10_ferry_26 : decode cX10_ferry 26 = .ok (.ireturn, 1) := by decide +kernel
theorem dX10_ferry_27 : decode cX10_ferry 27 = .ok (.aload_n 0, 1) := by decide +kernel
theorem dX10_ferry_28 : decode cX10_ferry 28 = .ok (.iconst 0, 1) := by decide +kernel
theorem dX10_ferry_29 : decode cX10_ferry 29 = .ok (.putfield 100, 3) := by decide +kernel
theorem dX10_ferry_32 : decode cX10_ferry 32 = .ok (.aload_n 0, 1) := by decide +kernel
theorem dX10_ferry_33 : decode cX10_ferry 33 = .ok (.getfield 96, 3) := by decide +kernel
theorem dX10_ferry_36 : decode cX10_ferry 36 = .ok (.aload_n 0, 1) := by decide +kernel
theorem dX10_ferry_37 : decode cX10_ferry 37 = .ok (.getfield 88, 3) := by decide +kernel
theorem dX10_ferry_40 : decode cX10_ferry 40 = .ok (.iload_n 1, 1) := by decide +kernel
theorem dX10_ferry_41 : decode cX10_ferry 41 = .ok (.invokevirtual 120, 3) := by decide +kernel
theorem dX10_ferry_44 : decode cX10_ferry 44 = .ok (.aload_n 0, 1) := by decide +kernel
theorem dX10_ferry_45 : decode cX10_ferry 45 = .ok (.aload_n 0, 1) := by decide +kernel
theorem dX10_ferry_46 : decode cX10_ferry 46 = .ok (.getfield 96, 3) := by decide +kernel
theorem dX10_ferry_49 : decode cX10_ferry 49 = .ok (.getfield 124, 3) := by decide +kernel
theorem dX10_ferry_52 : decode cX10_ferry 52 = .ok (.putfield 104, 3) := by decide +kernel
theorem dX10_ferry_55 : decode cX10_ferry 55 = .ok (.aload_n 0, 1) := by decide +kernel
theorem dX10_ferry_56 : decode cX10_ferry 56 = .ok (.aload_n 0, 1) := by decide +kernel
theorem dX10_ferry_57 : decode cX10_ferry 57 = .ok (.getfield 96, 3) := by decide +kernel
theorem dX10_ferry_60 : decode cX10_ferry 60 = .ok (.getfield 127, 3) := by decide +kernel
theorem dX10_ferry_63 : decode cX10_ferry 63 = .ok (.putfield 107, 3) := by decide +kernel
theorem dX10_ferry_66 : decode cX10_ferry 66 = .ok (.aload_n 0, 1) := by decide +kernel
theorem dX10_ferry_67 : decode cX10_ferry 67 = .ok (.getfield 104, 3) := by decide +kernel
theorem dX10_ferry_70 : decode cX10_ferry 70 = .ok (.ifCond .eq 9, 3) := by decide +kernel
theorem dX10_ferry_73 : decode cX10_ferry 73 = .ok (.aload_n 0, 1) := by decide +kernel
theorem dX10_ferry_74 : decode cX10_ferry 74 = .ok (.iconst 4, 1) := by decide +kernel
theorem dX10_ferry_75 : decode cX10_ferry 75 = .ok (.invokevirtual 128, 3) := by decide +kernel
theorem dX10_ferry_78 : decode cX10_ferry 78 = .ok (.ireturn, 1) := by decide +kernel
theorem dX10_ferry_79 : decode cX10_ferry 79 = .ok (.aload_n 0, 1) := by decide +kernel
theorem dX10_ferry_80 : decode cX10_ferry 80 = .ok (.getfield 84, 3) := by decide +kernel
theorem dX10_ferry_83 : decode cX10_ferry 83 = .ok (.astore_n 2, 1) := by decide +kernel
theorem dX10_ferry_84 : decode cX10_ferry 84 = .ok (.aload_n 0, 1) := by decide +kernel
theorem dX10_ferry_85 : decode cX10_ferry 85 = .ok (.aload_n 0, 1) := by decide +kernel
theorem dX10_ferry_86 : decode cX10_ferry 86 = .ok (.getfield 88, 3) := by decide +kernel
theorem dX10_ferry_89 : decode cX10_ferry 89 = .ok (.putfield 84, 3) := by decide +kernel
theorem dX10_ferry_92 : decode cX10_ferry 92 = .ok (.aload_n 0, 1) := by decide +kernel
theorem dX10_ferry_93 : decode cX10_ferry 93 = .ok (.aload_n 2, 1) := by decide +kernel
theorem dX10_ferry_94 : decode cX10_ferry 94 = .ok (.putfield 88, 3) := by decide +kernel
theorem dX10_ferry_97 : decode cX10_ferry 97 = .ok (.aload_n 0, 1) := by decide +kernel
theorem dX10_ferry_98 : decode cX10_ferry 98 = .ok (.getfield 84, 3) := by decide +kernel
theorem dX10_ferry_101 : decode cX10_ferry 101 = .ok (.invokevirtual 132, 3) := by decide +kernel
theorem dX10_ferry_104 : decode cX10_ferry 104 = .ok (.aload_n 0, 1) := by decide +kernel
theorem dX10_ferry_105 : decode cX10_ferry 105 = .ok (.getfield 25, 3) := by decide +kernel
theorem dX10_ferry_108 : decode cX10_ferry 108 = .ok (.aload_n 0, 1) := by decide +kernel
theorem dX10_ferry_109 : decode cX10_ferry 109 = .ok (.getfield 84, 3) := by decide +kernel
theorem dX10_ferry_112 : decode cX10_ferry 112 = .ok (.putfield 80, 3) := by decide +kernel
theorem dX10_ferry_115 : decode cX10_ferry 115 = .ok (.aload_n 0, 1) := by decide +kernel
theorem dX10_ferry_116 : decode cX10_ferry 116 = .ok (.getfield 16, 3) := by decide +kernel
theorem dX10_ferry_119 : decode cX10_ferry 119 = .ok (.aload_n 0, 1) := by decide +kernel
theorem dX10_ferry_120 : decode cX10_ferry 120 = .ok (.getfield 84, 3) := by decide +kernel
theorem dX10_ferry_123 : decode cX10_ferry 123 = .ok (.invokevirtual 135, 3) := by decide +kernel
theorem dX10_ferry_126 : decode cX10_ferry 126 = .ok (.aload_n 0, 1) := by decide +kernel
theorem dX10_ferry_127 : decode cX10_ferry 127 = .ok (.getfield 73, 3) := by decide +kernel
theorem dX10_ferry_130 : decode cX10_ferry 130 = .ok (.invokevirtual 139, 3) := by decide +kernel
theorem dX10_ferry_133 : decode cX10_ferry 133 = .ok (.aload_n 0, 1) := by decide +kernel
theorem dX10_ferry_134 : decode cX10_ferry 134 = .ok (.getfield 77, 3) := by decide +kernel
theorem dX10_ferry_137 : decode cX10_ferry 137 = .ok (.invokevirtual 139, 3) := by decide +kernel
theorem dX10_ferry_140 : decode cX10_ferry 140 = .ok (.aload_n 0, 1) := by decide +kernel
theorem dX10_ferry_141 : decode cX10_ferry 141 = .ok (.getfield 84, 3) := by decide +kernel
theorem dX10_ferry_144 : decode cX10_ferry 144 = .ok (.getfield 142, 3) := by decide +kernel
theorem dX10_ferry_147 : decode cX10_ferry 147 = .ok (.ireturn, 1) := by decide +kernel
theorem dX10_fault_0 : decode cX10_fault 0 = .ok (.aload_n 0, 1) := by decide +kernel
theorem dX10_fault_1 : decode cX10_fault 1 = .ok (.getfield 104, 3) := by decide +kernel
theorem dX10_fault_4 : decode cX10_fault 4 = .ok (.ireturn, 1) := by decide +kernel
theorem dX10_where_0 : decode cX10_where 0 = .ok (.aload_n 0, 1) := by decide +kernel
theorem dX10_where_1 : decode cX10_where 1 = .ok (.getfield 110, 3) := by decide +kernel
theorem dX10_where_4 : decode cX10_where 4 = .ok (.iconst 4, 1) := by decide +kernel
theorem dX10_where_5 : decode cX10_where 5 = .ok (.if_icmp .ne 10, 3) := by decide +kernel
theorem dX10_where_8 : decode cX10_where 8 = .ok (.aload_n 0, 1) := by decide +kernel
theorem dX10_where_9 : decode cX10_where 9 = .ok (.getfield 107, 3) := by decide +kernel
theorem dX10_where_12 : decode cX10_where 12 = .ok (.goto 4, 3) := by decide +kernel
theorem dX10_where_15 : decode cX10_where 15 = .ok (.iconst (-1), 1) := by decide +kernel
theorem dX10_where_16 : decode cX10_where 16 = .ok (.ireturn, 1) := by decide +kernel
theorem dX10_word_0 : decode cX10_word 0 = .ok (.aload_n 0, 1) := by decide +kernel
theorem dX10_word_1 : decode cX10_word 1 = .ok (.aload_n 0, 1) := by decide +kernel
theorem dX10_word_2 : decode cX10_word 2 = .ok (.iload_n 1, 1) := by decide +kernel
theorem dX10_word_3 : decode cX10_word 3 = .ok (.invokevirtual 145, 3) := by decide +kernel
theorem dX10_word_6 : decode cX10_word 6 = .ok (.ifCond .eq 16, 3) := by decide +kernel
theorem dX10_word_9 : decode cX10_word 9 = .ok (.iload_n 2, 1) := by decide +kernel
theorem dX10_word_10 : decode cX10_word 10 = .ok (.ifCond .lt 12, 3) := by decide +kernel
theorem dX10_word_13 : decode cX10_word 13 = .ok (.iload_n 2, 1) := by decide +kernel
theorem dX10_word_14 : decode cX10_word 14 = .ok (.iconst 2, 1) := by decide +kernel
theorem dX10_word_15 : decode cX10_word 15 = .ok (.if_icmp .gt 7, 3) := by decide +kernel
theorem dX10_word_18 : decode cX10_word 18 = .ok (.iconst 1, 1) := by decide +kernel
theorem dX10_word_19 : decode cX10_word 19 = .ok (.goto 4, 3) := by decide +kernel
theorem dX10_word_22 : decode cX10_word 22 = .ok (.iconst 0, 1) := by decide +kernel
theorem dX10_word_23 : decode cX10_word 23 = .ok (.iconst 1, 1) := by decide +kernel
theorem dX10_word_24 : decode cX10_word 24 = .ok (.invokevirtual 116, 3) := by decide +kernel
theorem dX10_word_27 : decode cX10_word 27 = .ok (.ifCond .eq 5, 3) := by decide +kernel
theorem dX10_word_30 : decode cX10_word 30 = .ok (.iconst (-1), 1) := by decide +kernel
theorem dX10_word_31 : decode cX10_word 31 = .ok (.ireturn, 1) := by decide +kernel
theorem dX10_word_32 : decode cX10_word 32 = .ok (.iload_n 2, 1) := by decide +kernel
theorem dX10_word_33 : decode cX10_word 33 = .ok (.lookupswitch 50 #[(0, 27), (1, 37)], 27) := by decide +kernel
theorem dX10_word_60 : decode cX10_word 60 = .ok (.aload_n 0, 1) := by decide +kernel
theorem dX10_word_61 : decode cX10_word 61 = .ok (.getfield 84, 3) := by decide +kernel
theorem dX10_word_64 : decode cX10_word 64 = .ok (.getfield 149, 3) := by decide +kernel
theorem dX10_word_67 : decode cX10_word 67 = .ok (.iload_n 1, 1) := by decide +kernel
theorem dX10_word_68 : decode cX10_word 68 = .ok (.iaload, 1) := by decide +kernel
theorem dX10_word_69 : decode cX10_word 69 = .ok (.ireturn, 1) := by decide +kernel
theorem dX10_word_70 : decode cX10_word 70 = .ok (.aload_n 0, 1) := by decide +kernel
theorem dX10_word_71 : decode cX10_word 71 = .ok (.getfield 84, 3) := by decide +kernel
theorem dX10_word_74 : decode cX10_word 74 = .ok (.getfield 153, 3) := by decide +kernel
theorem dX10_word_77 : decode cX10_word 77 = .ok (.iload_n 1, 1) := by decide +kernel
theorem dX10_word_78 : decode cX10_word 78 = .ok (.laload, 1) := by decide +kernel
theorem dX10_word_79 : decode cX10_word 79 = .ok (.invokestatic 157, 3) := by decide +kernel
theorem dX10_word_82 : decode cX10_word 82 = .ok (.ireturn, 1) := by decide +kernel
theorem dX10_word_83 : decode cX10_word 83 = .ok (.aload_n 0, 1) := by decide +kernel
theorem dX10_word_84 : decode cX10_word 84 = .ok (.getfield 16, 3) := by decide +kernel
theorem dX10_word_87 : decode cX10_word 87 = .ok (.iload_n 1, 1) := by decide +kernel
theorem dX10_word_88 : decode cX10_word 88 = .ok (.invokevirtual 161, 3) := by decide +kernel
theorem dX10_word_91 : decode cX10_word 91 = .ok (.ireturn, 1) := by decide +kernel
theorem dX10_like_0 : decode cX10_like 0 = .ok (.aload_n 0, 1) := by decide +kernel
theorem dX10_like_1 : decode cX10_like 1 = .ok (.aload_n 0, 1) := by decide +kernel
theorem dX10_like_2 : decode cX10_like 2 = .ok (.iload_n 1, 1) := by decide +kernel
theorem dX10_like_3 : decode cX10_like 3 = .ok (.invokevirtual 145, 3) := by decide +kernel
theorem dX10_like_6 : decode cX10_like 6 = .ok (.ifCond .eq 15, 3) := by decide +kernel
theorem dX10_like_9 : decode cX10_like 9 = .ok (.aload_n 0, 1) := by decide +kernel
theorem dX10_like_10 : decode cX10_like 10 = .ok (.iload_n 2, 1) := by decide +kernel
theorem dX10_like_11 : decode cX10_like 11 = .ok (.invokevirtual 145, 3) := by decide +kernel
theorem dX10_like_14 : decode cX10_like 14 = .ok (.ifCond .eq 7, 3) := by decide +kernel
theorem dX10_like_17 : decode cX10_like 17 = .ok (.iconst 1, 1) := by decide +kernel
theorem dX10_like_18 : decode cX10_like 18 = .ok (.goto 4, 3) := by decide +kernel
theorem dX10_like_21 : decode cX10_like 21 = .ok (.iconst 0, 1) := by decide +kernel
theorem dX10_like_22 : decode cX10_like 22 = .ok (.iconst 1, 1) := by decide +kernel
theorem dX10_like_23 : decode cX10_like 23 = .ok (.invokevirtual 116, 3) := by decide +kernel
theorem dX10_like_26 : decode cX10_like 26 = .ok (.ifCond .eq 5, 3) := by decide +kernel
theorem dX10_like_29 : decode cX10_like 29 = .ok (.iconst (-1), 1) := by decide +kernel
theorem dX10_like_30 : decode cX10_like 30 = .ok (.ireturn, 1) := by decide +kernel
theorem dX10_like_31 : decode cX10_like 31 = .ok (.aload_n 0, 1) := by decide +kernel
theorem dX10_like_32 : decode cX10_like 32 = .ok (.getfield 84, 3) := by decide +kernel
theorem dX10_like_35 : decode cX10_like 35 = .ok (.iconst 0, 1) := by decide +kernel
theorem dX10_like_36 : decode cX10_like 36 = .ok (.iload_n 1, 1) := by decide +kernel
theorem dX10_like_37 : decode cX10_like 37 = .ok (.iload_n 2, 1) := by decide +kernel
theorem dX10_like_38 : decode cX10_like 38 = .ok (.invokevirtual 164, 3) := by decide +kernel
theorem dX10_like_41 : decode cX10_like 41 = .ok (.ireturn, 1) := by decide +kernel
theorem dX10_eye_0 : decode cX10_eye 0 = .ok (.aload_n 0, 1) := by decide +kernel
theorem dX10_eye_1 : decode cX10_eye 1 = .ok (.aload_n 0, 1) := by decide +kernel
theorem dX10_eye_2 : decode cX10_eye 2 = .ok (.iload_n 1, 1) := by decide +kernel
theorem dX10_eye_3 : decode cX10_eye 3 = .ok (.invokevirtual 145, 3) := by decide +kernel
theorem dX10_eye_6 : decode cX10_eye 6 = .ok (.ifCond .eq 15, 3) := by decide +kernel
theorem dX10_eye_9 : decode cX10_eye 9 = .ok (.aload_n 0, 1) := by decide +kernel
theorem dX10_eye_10 : decode cX10_eye 10 = .ok (.iload_n 2, 1) := by decide +kernel
theorem dX10_eye_11 : decode cX10_eye 11 = .ok (.invokevirtual 145, 3) := by decide +kernel
theorem dX10_eye_14 : decode cX10_eye 14 = .ok (.ifCond .eq 7, 3) := by decide +kernel
theorem dX10_eye_17 : decode cX10_eye 17 = .ok (.iconst 1, 1) := by decide +kernel
theorem dX10_eye_18 : decode cX10_eye 18 = .ok (.goto 4, 3) := by decide +kernel
theorem dX10_eye_21 : decode cX10_eye 21 = .ok (.iconst 0, 1) := by decide +kernel
theorem dX10_eye_22 : decode cX10_eye 22 = .ok (.iconst 1, 1) := by decide +kernel
theorem dX10_eye_23 : decode cX10_eye 23 = .ok (.invokevirtual 116, 3) := by decide +kernel
theorem dX10_eye_26 : decode cX10_eye 26 = .ok (.ifCond .eq 5, 3) := by decide +kernel
theorem dX10_eye_29 : decode cX10_eye 29 = .ok (.iconst (-1), 1) := by decide +kernel
theorem dX10_eye_30 : decode cX10_eye 30 = .ok (.ireturn, 1) := by decide +kernel
theorem dX10_eye_31 : decode cX10_eye 31 = .ok (.aload_n 0, 1) := by decide +kernel
theorem dX10_eye_32 : decode cX10_eye 32 = .ok (.getfield 84, 3) := by decide +kernel
theorem dX10_eye_35 : decode cX10_eye 35 = .ok (.iconst 1, 1) := by decide +kernel
theorem dX10_eye_36 : decode cX10_eye 36 = .ok (.iload_n 1, 1) := by decide +kernel
theorem dX10_eye_37 : decode cX10_eye 37 = .ok (.iload_n 2, 1) := by decide +kernel
theorem dX10_eye_38 : decode cX10_eye 38 = .ok (.invokevirtual 164, 3) := by decide +kernel
theorem dX10_eye_41 : decode cX10_eye 41 = .ok (.ireturn, 1) := by decide +kernel
theorem dX10_person_0 : decode cX10_person 0 = .ok (.aload_n 0, 1) := by decide +kernel
theorem dX10_person_1 : decode cX10_person 1 = .ok (.aload_n 0, 1) := by decide +kernel
theorem dX10_person_2 : decode cX10_person 2 = .ok (.iload_n 1, 1) := by decide +kernel
theorem dX10_person_3 : decode cX10_person 3 = .ok (.invokevirtual 168, 3) := by decide +kernel
theorem dX10_person_6 : decode cX10_person 6 = .ok (.ifCond .eq 16, 3) := by decide +kernel
theorem dX10_person_9 : decode cX10_person 9 = .ok (.iload_n 2, 1) := by decide +kernel
theorem dX10_person_10 : decode cX10_person 10 = .ok (.ifCond .lt 12, 3) := by decide +kernel
theorem dX10_person_13 : decode cX10_person 13 = .ok (.iload_n 2, 1) := by decide +kernel
theorem dX10_person_14 : decode cX10_person 14 = .ok (.iconst 4, 1) := by decide +kernel
theorem dX10_person_15 : decode cX10_person 15 = .ok (.if_icmp .gt 7, 3) := by decide +kernel
theorem dX10_person_18 : decode cX10_person 18 = .ok (.iconst 1, 1) := by decide +kernel
theorem dX10_person_19 : decode cX10_person 19 = .ok (.goto 4, 3) := by decide +kernel
theorem dX10_person_22 : decode cX10_person 22 = .ok (.iconst 0, 1) := by decide +kernel
theorem dX10_person_23 : decode cX10_person 23 = .ok (.iconst 1, 1) := by decide +kernel
theorem dX10_person_24 : decode cX10_person 24 = .ok (.invokevirtual 116, 3) := by decide +kernel
theorem dX10_person_27 : decode cX10_person 27 = .ok (.ifCond .eq 5, 3) := by decide +kernel
theorem dX10_person_30 : decode cX10_person 30 = .ok (.iconst (-1), 1) := by decide +kernel
theorem dX10_person_31 : decode cX10_person 31 = .ok (.ireturn, 1) := by decide +kernel
theorem dX10_person_32 : decode cX10_person 32 = .ok (.iload_n 2, 1) := by decide +kernel
theorem dX10_person_33 : decode cX10_person 33 = .ok (.tableswitch 70 0 3 #[31, 41, 50, 60], 31) := by decide +kernel
theorem dX10_person_64 : decode cX10_person 64 = .ok (.aload_n 0, 1) := by decide +kernel
theorem dX10_person_65 : decode cX10_person 65 = .ok (.getfield 84, 3) := by decide +kernel
theorem dX10_person_68 : decode cX10_person 68 = .ok (.getfield 171, 3) := by decide +kernel
theorem dX10_person_71 : decode cX10_person 71 = .ok (.iload_n 1, 1) := by decide +kernel
theorem dX10_person_72 : decode cX10_person 72 = .ok (.iaload, 1) := by decide +kernel
theorem dX10_person_73 : decode cX10_person 73 = .ok (.ireturn, 1) := by decide +kernel
theorem dX10_person_74 : decode cX10_person 74 = .ok (.aload_n 0, 1) := by decide +kernel
theorem dX10_person_75 : decode cX10_person 75 = .ok (.getfield 16, 3) := by decide +kernel
theorem dX10_person_78 : decode cX10_person 78 = .ok (.iload_n 1, 1) := by decide +kernel
theorem dX10_person_79 : decode cX10_person 79 = .ok (.invokevirtual 174, 3) := by decide +kernel
theorem dX10_person_82 : decode cX10_person 82 = .ok (.ireturn, 1) := by decide +kernel
theorem dX10_person_83 : decode cX10_person 83 = .ok (.aload_n 0, 1) := by decide +kernel
theorem dX10_person_84 : decode cX10_person 84 = .ok (.getfield 16, 3) := by decide +kernel
theorem dX10_person_87 : decode cX10_person 87 = .ok (.getfield 177, 3) := by decide +kernel
theorem dX10_person_90 : decode cX10_person 90 = .ok (.iload_n 1, 1) := by decide +kernel
theorem dX10_person_91 : decode cX10_person 91 = .ok (.iaload, 1) := by decide +kernel
theorem dX10_person_92 : decode cX10_person 92 = .ok (.ireturn, 1) := by decide +kernel
theorem dX10_person_93 : decode cX10_person 93 = .ok (.aload_n 0, 1) := by decide +kernel
theorem dX10_person_94 : decode cX10_person 94 = .ok (.getfield 16, 3) := by decide +kernel
theorem dX10_person_97 : decode cX10_person 97 = .ok (.getfield 180, 3) := by decide +kernel
theorem dX10_person_100 : decode cX10_person 100 = .ok (.iload_n 1, 1) := by decide +kernel
theorem dX10_person_101 : decode cX10_person 101 = .ok (.iaload, 1) := by decide +kernel
theorem dX10_person_102 : decode cX10_person 102 = .ok (.ireturn, 1) := by decide +kernel
theorem dX10_person_103 : decode cX10_person 103 = .ok (.aload_n 0, 1) := by decide +kernel
theorem dX10_person_104 : decode cX10_person 104 = .ok (.getfield 84, 3) := by decide +kernel
theorem dX10_person_107 : decode cX10_person 107 = .ok (.getfield 183, 3) := by decide +kernel
theorem dX10_person_110 : decode cX10_person 110 = .ok (.iload_n 1, 1) := by decide +kernel
theorem dX10_person_111 : decode cX10_person 111 = .ok (.iaload, 1) := by decide +kernel
theorem dX10_person_112 : decode cX10_person 112 = .ok (.ireturn, 1) := by decide +kernel
theorem dX10_ear_0 : decode cX10_ear 0 = .ok (.aload_n 0, 1) := by decide +kernel
theorem dX10_ear_1 : decode cX10_ear 1 = .ok (.aload_n 0, 1) := by decide +kernel
theorem dX10_ear_2 : decode cX10_ear 2 = .ok (.invokevirtual 186, 3) := by decide +kernel
theorem dX10_ear_5 : decode cX10_ear 5 = .ok (.aload_n 0, 1) := by decide +kernel
theorem dX10_ear_6 : decode cX10_ear 6 = .ok (.iload_n 1, 1) := by decide +kernel
theorem dX10_ear_7 : decode cX10_ear 7 = .ok (.invokevirtual 190, 3) := by decide +kernel
theorem dX10_ear_10 : decode cX10_ear 10 = .ok (.invokevirtual 116, 3) := by decide +kernel
theorem dX10_ear_13 : decode cX10_ear 13 = .ok (.ifCond .eq 5, 3) := by decide +kernel
theorem dX10_ear_16 : decode cX10_ear 16 = .ok (.iconst (-1), 1) := by decide +kernel
theorem dX10_ear_17 : decode cX10_ear 17 = .ok (.ireturn, 1) := by decide +kernel
theorem dX10_ear_18 : decode cX10_ear 18 = .ok (.aload_n 0, 1) := by decide +kernel
theorem dX10_ear_19 : decode cX10_ear 19 = .ok (.getfield 84, 3) := by decide +kernel
theorem dX10_ear_22 : decode cX10_ear 22 = .ok (.iload_n 1, 1) := by decide +kernel
theorem dX10_ear_23 : decode cX10_ear 23 = .ok (.invokevirtual 193, 3) := by decide +kernel
theorem dX10_ear_26 : decode cX10_ear 26 = .ok (.ireturn, 1) := by decide +kernel
theorem dX10_rhyme_0 : decode cX10_rhyme 0 = .ok (.aload_n 0, 1) := by decide +kernel
theorem dX10_rhyme_1 : decode cX10_rhyme 1 = .ok (.aload_n 0, 1) := by decide +kernel
theorem dX10_rhyme_2 : decode cX10_rhyme 2 = .ok (.iload_n 1, 1) := by decide +kernel
theorem dX10_rhyme_3 : decode cX10_rhyme 3 = .ok (.iload_n 2, 1) := by decide +kernel
theorem dX10_rhyme_4 : decode cX10_rhyme 4 = .ok (.invokevirtual 196, 3) := by decide +kernel
theorem dX10_rhyme_7 : decode cX10_rhyme 7 = .ok (.aload_n 0, 1) := by decide +kernel
theorem dX10_rhyme_8 : decode cX10_rhyme 8 = .ok (.iload_n 3, 1) := by decide +kernel
theorem dX10_rhyme_9 : decode cX10_rhyme 9 = .ok (.invokevirtual 190, 3) := by decide +kernel
theorem dX10_rhyme_12 : decode cX10_rhyme 12 = .ok (.invokevirtual 116, 3) := by decide +kernel
theorem dX10_rhyme_15 : decode cX10_rhyme 15 = .ok (.ifCond .eq 5, 3) := by decide +kernel
theorem dX10_rhyme_18 : decode cX10_rhyme 18 = .ok (.iconst (-1), 1) := by decide +kernel
theorem dX10_rhyme_19 : decode cX10_rhyme 19 = .ok (.ireturn, 1) := by decide +kernel
theorem dX10_rhyme_20 : decode cX10_rhyme 20 = .ok (.aload_n 0, 1) := by decide +kernel
theorem dX10_rhyme_21 : decode cX10_rhyme 21 = .ok (.getfield 25, 3) := by decide +kernel
theorem dX10_rhyme_24 : decode cX10_rhyme 24 = .ok (.iload_n 1, 1) := by decide +kernel
theorem dX10_rhyme_25 : decode cX10_rhyme 25 = .ok (.iload_n 2, 1) := by decide +kernel
theorem dX10_rhyme_26 : decode cX10_rhyme 26 = .ok (.aload_n 0, 1) := by decide +kernel
theorem dX10_rhyme_27 : decode cX10_rhyme 27 = .ok (.getfield 84, 3) := by decide +kernel
theorem dX10_rhyme_30 : decode cX10_rhyme 30 = .ok (.iload_n 3, 1) := by decide +kernel
theorem dX10_rhyme_31 : decode cX10_rhyme 31 = .ok (.invokevirtual 193, 3) := by decide +kernel
theorem dX10_rhyme_34 : decode cX10_rhyme 34 = .ok (.invokevirtual 200, 3) := by decide +kernel
theorem dX10_rhyme_37 : decode cX10_rhyme 37 = .ok (.ireturn, 1) := by decide +kernel
theorem dX10_with_0 : decode cX10_with 0 = .ok (.aload_n 0, 1) := by decide +kernel
theorem dX10_with_1 : decode cX10_with 1 = .ok (.aload_n 0, 1) := by decide +kernel
theorem dX10_with_2 : decode cX10_with 2 = .ok (.iload_n 1, 1) := by decide +kernel
theorem dX10_with_3 : decode cX10_with 3 = .ok (.invokevirtual 168, 3) := by decide +kernel
theorem dX10_with_6 : decode cX10_with 6 = .ok (.aload_n 0, 1) := by decide +kernel
theorem dX10_with_7 : decode cX10_with 7 = .ok (.iload_n 2, 1) := by decide +kernel
theorem dX10_with_8 : decode cX10_with 8 = .ok (.invokevirtual 190, 3) := by decide +kernel
theorem dX10_with_11 : decode cX10_with 11 = .ok (.invokevirtual 116, 3) := by decide +kernel
theorem dX10_with_14 : decode cX10_with 14 = .ok (.ifCond .eq 5, 3) := by decide +kernel
theorem dX10_with_17 : decode cX10_with 17 = .ok (.iconst (-1), 1) := by decide +kernel
theorem dX10_with_18 : decode cX10_with 18 = .ok (.ireturn, 1) := by decide +kernel
theorem dX10_with_19 : decode cX10_with 19 = .ok (.aload_n 0, 1) := by decide +kernel
theorem dX10_with_20 : decode cX10_with 20 = .ok (.getfield 25, 3) := by decide +kernel
theorem dX10_with_23 : decode cX10_with 23 = .ok (.iload_n 1, 1) := by decide +kernel
theorem dX10_with_24 : decode cX10_with 24 = .ok (.aload_n 0, 1) := by decide +kernel
theorem dX10_with_25 : decode cX10_with 25 = .ok (.getfield 84, 3) := by decide +kernel
theorem dX10_with_28 : decode cX10_with 28 = .ok (.iload_n 2, 1) := by decide +kernel
theorem dX10_with_29 : decode cX10_with 29 = .ok (.invokevirtual 193, 3) := by decide +kernel
theorem dX10_with_32 : decode cX10_with 32 = .ok (.invokevirtual 203, 3) := by decide +kernel
theorem dX10_with_35 : decode cX10_with 35 = .ok (.ireturn, 1) := by decide +kernel
theorem dX10_bestHour_0 : decode cX10_bestHour 0 = .ok (.aload_n 0, 1) := by decide +kernel
theorem dX10_bestHour_1 : decode cX10_bestHour 1 = .ok (.aload_n 0, 1) := by decide +kernel
theorem dX10_bestHour_2 : decode cX10_bestHour 2 = .ok (.iload_n 1, 1) := by decide +kernel
theorem dX10_bestHour_3 : decode cX10_bestHour 3 = .ok (.invokevirtual 168, 3) := by decide +kernel
theorem dX10_bestHour_6 : decode cX10_bestHour 6 = .ok (.iconst 1, 1) := by decide +kernel
theorem dX10_bestHour_7 : decode cX10_bestHour 7 = .ok (.invokevirtual 116, 3) := by decide +kernel
theorem dX10_bestHour_10 : decode cX10_bestHour 10 = .ok (.ifCond .eq 5, 3) := by decide +kernel
theorem dX10_bestHour_13 : decode cX10_bestHour 13 = .ok (.iconst (-1), 1) := by decide +kernel
theorem dX10_bestHour_14 : decode cX10_bestHour 14 = .ok (.ireturn, 1) := by decide +kernel
theorem dX10_bestHour_15 : decode cX10_bestHour 15 = .ok (.aload_n 0, 1) := by decide +kernel
theorem dX10_bestHour_16 : decode cX10_bestHour 16 = .ok (.getfield 25, 3) := by decide +kernel
theorem dX10_bestHour_19 : decode cX10_bestHour 19 = .ok (.iload_n 1, 1) := by decide +kernel
theorem dX10_bestHour_20 : decode cX10_bestHour 20 = .ok (.invokevirtual 207, 3) := by decide +kernel
theorem dX10_bestHour_23 : decode cX10_bestHour 23 = .ok (.ireturn, 1) := by decide +kernel
theorem dX10_classOf_0 : decode cX10_classOf 0 = .ok (.aload_n 0, 1) := by decide +kernel
theorem dX10_classOf_1 : decode cX10_classOf 1 = .ok (.aload_n 0, 1) := by decide +kernel
theorem dX10_classOf_2 : decode cX10_classOf 2 = .ok (.iload_n 1, 1) := by decide +kernel
theorem dX10_classOf_3 : decode cX10_classOf 3 = .ok (.invokevirtual 168, 3) := by decide +kernel
theorem dX10_classOf_6 : decode cX10_classOf 6 = .ok (.aload_n 0, 1) := by decide +kernel
theorem dX10_classOf_7 : decode cX10_classOf 7 = .ok (.iload_n 2, 1) := by decide +kernel
theorem dX10_classOf_8 : decode cX10_classOf 8 = .ok (.invokevirtual 190, 3) := by decide +kernel
theorem dX10_classOf_11 : decode cX10_classOf 11 = .ok (.invokevirtual 116, 3) := by decide +kernel
theorem dX10_classOf_14 : decode cX10_classOf 14 = .ok (.ifCond .eq 5, 3) := by decide +kernel
theorem dX10_classOf_17 : decode cX10_classOf 17 = .ok (.iconst (-1), 1) := by decide +kernel
theorem dX10_classOf_18 : decode cX10_classOf 18 = .ok (.ireturn, 1) := by decide +kernel
theorem dX10_classOf_19 : decode cX10_classOf 19 = .ok (.aload_n 0, 1) := by decide +kernel
theorem dX10_classOf_20 : decode cX10_classOf 20 = .ok (.getfield 25, 3) := by decide +kernel
theorem dX10_classOf_23 : decode cX10_classOf 23 = .ok (.aload_n 0, 1) := by decide +kernel
theorem dX10_classOf_24 : decode cX10_classOf 24 = .ok (.getfield 84, 3) := by decide +kernel
theorem dX10_classOf_27 : decode cX10_classOf 27 = .ok (.iload_n 2, 1) := by decide +kernel
theorem dX10_classOf_28 : decode cX10_classOf 28 = .ok (.invokevirtual 193, 3) := by decide +kernel
theorem dX10_classOf_31 : decode cX10_classOf 31 = .ok (.invokevirtual 210, 3) := by decide +kernel
theorem dX10_classOf_34 : decode cX10_classOf 34 = .ok (.aload_n 0, 1) := by decide +kernel
theorem dX10_classOf_35 : decode cX10_classOf 35 = .ok (.getfield 25, 3) := by decide +kernel
theorem dX10_classOf_38 : decode cX10_classOf 38 = .ok (.iload_n 1, 1) := by decide +kernel
theorem dX10_classOf_39 : decode cX10_classOf 39 = .ok (.invokevirtual 213, 3) := by decide +kernel
theorem dX10_classOf_42 : decode cX10_classOf 42 = .ok (.ireturn, 1) := by decide +kernel
theorem dX10_classes_0 : decode cX10_classes 0 = .ok (.aload_n 0, 1) := by decide +kernel
theorem dX10_classes_1 : decode cX10_classes 1 = .ok (.aload_n 0, 1) := by decide +kernel
theorem dX10_classes_2 : decode cX10_classes 2 = .ok (.invokevirtual 186, 3) := by decide +kernel
theorem dX10_classes_5 : decode cX10_classes 5 = .ok (.aload_n 0, 1) := by decide +kernel
theorem dX10_classes_6 : decode cX10_classes 6 = .ok (.iload_n 1, 1) := by decide +kernel
theorem dX10_classes_7 : decode cX10_classes 7 = .ok (.invokevirtual 190, 3) := by decide +kernel
theorem dX10_classes_10 : decode cX10_classes 10 = .ok (.invokevirtual 116, 3) := by decide +kernel
theorem dX10_classes_13 : decode cX10_classes 13 = .ok (.ifCond .eq 5, 3) := by decide +kernel
theorem dX10_classes_16 : decode cX10_classes 16 = .ok (.iconst (-1), 1) := by decide +kernel
theorem dX10_classes_17 : decode cX10_classes 17 = .ok (.ireturn, 1) := by decide +kernel
theorem dX10_classes_18 : decode cX10_classes 18 = .ok (.aload_n 0, 1) := by decide +kernel
theorem dX10_classes_19 : decode cX10_classes 19 = .ok (.getfield 25, 3) := by decide +kernel
theorem dX10_classes_22 : decode cX10_classes 22 = .ok (.aload_n 0, 1) := by decide +kernel
theorem dX10_classes_23 : decode cX10_classes 23 = .ok (.getfield 84, 3) := by decide +kernel
theorem dX10_classes_26 : decode cX10_classes 26 = .ok (.iload_n 1, 1) := by decide +kernel
theorem dX10_classes_27 : decode cX10_classes 27 = .ok (.invokevirtual 193, 3) := by decide +kernel
theorem dX10_classes_30 : decode cX10_classes 30 = .ok (.invokevirtual 210, 3) := by decide +kernel
theorem dX10_classes_33 : decode cX10_classes 33 = .ok (.aload_n 0, 1) := by decide +kernel
theorem dX10_classes_34 : decode cX10_classes 34 = .ok (.getfield 25, 3) := by decide +kernel
theorem dX10_classes_37 : decode cX10_classes 37 = .ok (.invokevirtual 216, 3) := by decide +kernel
theorem dX10_classes_40 : decode cX10_classes 40 = .ok (.ireturn, 1) := by decide +kernel
theorem dX10_bestName_0 : decode cX10_bestName 0 = .ok (.aload_n 0, 1) := by decide +kernel
theorem dX10_bestName_1 : decode cX10_bestName 1 = .ok (.aload_n 0, 1) := by decide +kernel
theorem dX10_bestName_2 : decode cX10_bestName 2 = .ok (.iload_n 1, 1) := by decide +kernel
theorem dX10_bestName_3 : decode cX10_bestName 3 = .ok (.invokevirtual 168, 3) := by decide +kernel
theorem dX10_bestName_6 : decode cX10_bestName 6 = .ok (.aload_n 0, 1) := by decide +kernel
theorem dX10_bestName_7 : decode cX10_bestName 7 = .ok (.iload_n 2, 1) := by decide +kernel
theorem dX10_bestName_8 : decode cX10_bestName 8 = .ok (.invokevirtual 190, 3) := by decide +kernel
theorem dX10_bestName_11 : decode cX10_bestName 11 = .ok (.invokevirtual 116, 3) := by decide +kernel
theorem dX10_bestName_14 : decode cX10_bestName 14 = .ok (.ifCond .eq 5, 3) := by decide +kernel
theorem dX10_bestName_17 : decode cX10_bestName 17 = .ok (.iconst (-1), 1) := by decide +kernel
theorem dX10_bestName_18 : decode cX10_bestName 18 = .ok (.ireturn, 1) := by decide +kernel
theorem dX10_bestName_19 : decode cX10_bestName 19 = .ok (.aload_n 0, 1) := by decide +kernel
theorem dX10_bestName_20 : decode cX10_bestName 20 = .ok (.getfield 25, 3) := by decide +kernel
theorem dX10_bestName_23 : decode cX10_bestName 23 = .ok (.iload_n 1, 1) := by decide +kernel
theorem dX10_bestName_24 : decode cX10_bestName 24 = .ok (.aload_n 0, 1) := by decide +kernel
theorem dX10_bestName_25 : decode cX10_bestName 25 = .ok (.getfield 84, 3) := by decide +kernel
theorem dX10_bestName_28 : decode cX10_bestName 28 = .ok (.iload_n 2, 1) := by decide +kernel
theorem dX10_bestName_29 : decode cX10_bestName 29 = .ok (.invokevirtual 193, 3) := by decide +kernel
theorem dX10_bestName_32 : decode cX10_bestName 32 = .ok (.invokevirtual 220, 3) := by decide +kernel
theorem dX10_bestName_35 : decode cX10_bestName 35 = .ok (.ireturn, 1) := by decide +kernel
theorem dX10_renamed_0 : decode cX10_renamed 0 = .ok (.aload_n 0, 1) := by decide +kernel
theorem dX10_renamed_1 : decode cX10_renamed 1 = .ok (.aload_n 0, 1) := by decide +kernel
theorem dX10_renamed_2 : decode cX10_renamed 2 = .ok (.iload_n 1, 1) := by decide +kernel
theorem dX10_renamed_3 : decode cX10_renamed 3 = .ok (.invokevirtual 168, 3) := by decide +kernel
theorem dX10_renamed_6 : decode cX10_renamed 6 = .ok (.ifCond .eq 15, 3) := by decide +kernel
theorem dX10_renamed_9 : decode cX10_renamed 9 = .ok (.aload_n 0, 1) := by decide +kernel
theorem dX10_renamed_10 : decode cX10_renamed 10 = .ok (.iload_n 2, 1) := by decide +kernel
theorem dX10_renamed_11 : decode cX10_renamed 11 = .ok (.invokevirtual 145, 3) := by decide +kernel
theorem dX10_renamed_14 : decode cX10_renamed 14 = .ok (.ifCond .eq 7, 3) := by decide +kernel
theorem dX10_renamed_17 : decode cX10_renamed 17 = .ok (.iconst 1, 1) := by decide +kernel
theorem dX10_renamed_18 : decode cX10_renamed 18 = .ok (.goto 4, 3) := by decide +kernel
theorem dX10_renamed_21 : decode cX10_renamed 21 = .ok (.iconst 0, 1) := by decide +kernel
theorem dX10_renamed_22 : decode cX10_renamed 22 = .ok (.aload_n 0, 1) := by decide +kernel
theorem dX10_renamed_23 : decode cX10_renamed 23 = .ok (.iload_n 3, 1) := by decide +kernel
theorem dX10_renamed_24 : decode cX10_renamed 24 = .ok (.invokevirtual 190, 3) := by decide +kernel
theorem dX10_renamed_27 : decode cX10_renamed 27 = .ok (.invokevirtual 116, 3) := by decide +kernel
theorem dX10_renamed_30 : decode cX10_renamed 30 = .ok (.ifCond .eq 5, 3) := by decide +kernel
theorem dX10_renamed_33 : decode cX10_renamed 33 = .ok (.iconst (-1), 1) := by decide +kernel
theorem dX10_renamed_34 : decode cX10_renamed 34 = .ok (.ireturn, 1) := by decide +kernel
theorem dX10_renamed_35 : decode cX10_renamed 35 = .ok (.aload_n 0, 1) := by decide +kernel
theorem dX10_renamed_36 : decode cX10_renamed 36 = .ok (.getfield 25, 3) := by decide +kernel
theorem dX10_renamed_39 : decode cX10_renamed 39 = .ok (.iload_n 1, 1) := by decide +kernel
theorem dX10_renamed_40 : decode cX10_renamed 40 = .ok (.iconst 1, 1) := by decide +kernel
theorem dX10_renamed_41 : decode cX10_renamed 41 = .ok (.iload_n 2, 1) := by decide +kernel
theorem dX10_renamed_42 : decode cX10_renamed 42 = .ok (.ishl, 1) := by decide +kernel
theorem dX10_renamed_43 : decode cX10_renamed 43 = .ok (.iconst 0, 1) := by decide +kernel
theorem dX10_renamed_44 : decode cX10_renamed 44 = .ok (.aload_n 0, 1) := by decide +kernel
theorem dX10_renamed_45 : decode cX10_renamed 45 = .ok (.getfield 84, 3) := by decide +kernel
theorem dX10_renamed_48 : decode cX10_renamed 48 = .ok (.iload_n 3, 1) := by decide +kernel
theorem dX10_renamed_49 : decode cX10_renamed 49 = .ok (.invokevirtual 193, 3) := by decide +kernel
theorem dX10_renamed_52 : decode cX10_renamed 52 = .ok (.invokevirtual 223, 3) := by decide +kernel
theorem dX10_renamed_55 : decode cX10_renamed 55 = .ok (.ireturn, 1) := by decide +kernel
theorem dX10_meets_0 : decode cX10_meets 0 = .ok (.aload_n 0, 1) := by decide +kernel
theorem dX10_meets_1 : decode cX10_meets 1 = .ok (.aload_n 0, 1) := by decide +kernel
theorem dX10_meets_2 : decode cX10_meets 2 = .ok (.iload_n 1, 1) := by decide +kernel
theorem dX10_meets_3 : decode cX10_meets 3 = .ok (.iload_n 2, 1) := by decide +kernel
theorem dX10_meets_4 : decode cX10_meets 4 = .ok (.invokevirtual 196, 3) := by decide +kernel
theorem dX10_meets_7 : decode cX10_meets 7 = .ok (.iconst 1, 1) := by decide +kernel
theorem dX10_meets_8 : decode cX10_meets 8 = .ok (.invokevirtual 116, 3) := by decide +kernel
theorem dX10_meets_11 : decode cX10_meets 11 = .ok (.ifCond .eq 5, 3) := by decide +kernel
theorem dX10_meets_14 : decode cX10_meets 14 = .ok (.iconst (-1), 1) := by decide +kernel
theorem dX10_meets_15 : decode cX10_meets 15 = .ok (.ireturn, 1) := by decide +kernel
theorem dX10_meets_16 : decode cX10_meets 16 = .ok (.aload_n 0, 1) := by decide +kernel
theorem dX10_meets_17 : decode cX10_meets 17 = .ok (.getfield 25, 3) := by decide +kernel
theorem dX10_meets_20 : decode cX10_meets 20 = .ok (.iload_n 1, 1) := by decide +kernel
theorem dX10_meets_21 : decode cX10_meets 21 = .ok (.iload_n 2, 1) := by decide +kernel
theorem dX10_meets_22 : decode cX10_meets 22 = .ok (.invokevirtual 227, 3) := by decide +kernel
theorem dX10_meets_25 : decode cX10_meets 25 = .ok (.ireturn, 1) := by decide +kernel
theorem dX10_often_0 : decode cX10_often 0 = .ok (.aload_n 0, 1) := by decide +kernel
theorem dX10_often_1 : decode cX10_often 1 = .ok (.aload_n 0, 1) := by decide +kernel
theorem dX10_often_2 : decode cX10_often 2 = .ok (.iload_n 1, 1) := by decide +kernel
theorem dX10_often_3 : decode cX10_often 3 = .ok (.iload_n 2, 1) := by decide +kernel
theorem dX10_often_4 : decode cX10_often 4 = .ok (.invokevirtual 196, 3) := by decide +kernel
theorem dX10_often_7 : decode cX10_often 7 = .ok (.iconst 1, 1) := by decide +kernel
theorem dX10_often_8 : decode cX10_often 8 = .ok (.invokevirtual 116, 3) := by decide +kernel
theorem dX10_often_11 : decode cX10_often 11 = .ok (.ifCond .eq 5, 3) := by decide +kernel
theorem dX10_often_14 : decode cX10_often 14 = .ok (.iconst (-1), 1) := by decide +kernel
theorem dX10_often_15 : decode cX10_often 15 = .ok (.ireturn, 1) := by decide +kernel
theorem dX10_often_16 : decode cX10_often 16 = .ok (.aload_n 0, 1) := by decide +kernel
theorem dX10_often_17 : decode cX10_often 17 = .ok (.getfield 25, 3) := by decide +kernel
theorem dX10_often_20 : decode cX10_often 20 = .ok (.iload_n 1, 1) := by decide +kernel
theorem dX10_often_21 : decode cX10_often 21 = .ok (.iload_n 2, 1) := by decide +kernel
theorem dX10_often_22 : decode cX10_often 22 = .ok (.invokevirtual 230, 3) := by decide +kernel
theorem dX10_often_25 : decode cX10_often 25 = .ok (.ireturn, 1) := by decide +kernel
theorem dX10_cheapest_0 : decode cX10_cheapest 0 = .ok (.aload_n 0, 1) := by decide +kernel
theorem dX10_cheapest_1 : decode cX10_cheapest 1 = .ok (.aload_n 0, 1) := by decide +kernel
theorem dX10_cheapest_2 : decode cX10_cheapest 2 = .ok (.iload_n 1, 1) := by decide +kernel
theorem dX10_cheapest_3 : decode cX10_cheapest 3 = .ok (.invokevirtual 168, 3) := by decide +kernel
theorem dX10_cheapest_6 : decode cX10_cheapest 6 = .ok (.aload_n 0, 1) := by decide +kernel
theorem dX10_cheapest_7 : decode cX10_cheapest 7 = .ok (.iload_n 2, 1) := by decide +kernel
theorem dX10_cheapest_8 : decode cX10_cheapest 8 = .ok (.invokevirtual 190, 3) := by decide +kernel
theorem dX10_cheapest_11 : decode cX10_cheapest 11 = .ok (.invokevirtual 116, 3) := by decide +kernel
theorem dX10_cheapest_14 : decode cX10_cheapest 14 = .ok (.ifCond .eq 5, 3) := by decide +kernel
theorem dX10_cheapest_17 : decode cX10_cheapest 17 = .ok (.iconst (-1), 1) := by decide +kernel
theorem dX10_cheapest_18 : decode cX10_cheapest 18 = .ok (.ireturn, 1) := by decide +kernel
theorem dX10_cheapest_19 : decode cX10_cheapest 19 = .ok (.aload_n 0, 1) := by decide +kernel
theorem dX10_cheapest_20 : decode cX10_cheapest 20 = .ok (.getfield 25, 3) := by decide +kernel
theorem dX10_cheapest_23 : decode cX10_cheapest 23 = .ok (.iload_n 1, 1) := by decide +kernel
theorem dX10_cheapest_24 : decode cX10_cheapest 24 = .ok (.aload_n 0, 1) := by decide +kernel
theorem dX10_cheapest_25 : decode cX10_cheapest 25 = .ok (.getfield 84, 3) := by decide +kernel
theorem dX10_cheapest_28 : decode cX10_cheapest 28 = .ok (.iload_n 2, 1) := by decide +kernel
theorem dX10_cheapest_29 : decode cX10_cheapest 29 = .ok (.invokevirtual 193, 3) := by decide +kernel
theorem dX10_cheapest_32 : decode cX10_cheapest 32 = .ok (.invokevirtual 233, 3) := by decide +kernel
theorem dX10_cheapest_35 : decode cX10_cheapest 35 = .ok (.ireturn, 1) := by decide +kernel
theorem dX10_pairs_0 : decode cX10_pairs 0 = .ok (.aload_n 0, 1) := by decide +kernel
theorem dX10_pairs_1 : decode cX10_pairs 1 = .ok (.aload_n 0, 1) := by decide +kernel
theorem dX10_pairs_2 : decode cX10_pairs 2 = .ok (.iload_n 1, 1) := by decide +kernel
theorem dX10_pairs_3 : decode cX10_pairs 3 = .ok (.invokevirtual 236, 3) := by decide +kernel
theorem dX10_pairs_6 : decode cX10_pairs 6 = .ok (.aload_n 0, 1) := by decide +kernel
theorem dX10_pairs_7 : decode cX10_pairs 7 = .ok (.iload_n 2, 1) := by decide +kernel
theorem dX10_pairs_8 : decode cX10_pairs 8 = .ok (.invokevirtual 190, 3) := by decide +kernel
theorem dX10_pairs_11 : decode cX10_pairs 11 = .ok (.invokevirtual 116, 3) := by decide +kernel
theorem dX10_pairs_14 : decode cX10_pairs 14 = .ok (.ifCond .eq 5, 3) := by decide +kernel
theorem dX10_pairs_17 : decode cX10_pairs 17 = .ok (.iconst (-1), 1) := by decide +kernel
theorem dX10_pairs_18 : decode cX10_pairs 18 = .ok (.ireturn, 1) := by decide +kernel
theorem dX10_pairs_19 : decode cX10_pairs 19 = .ok (.aload_n 0, 1) := by decide +kernel
theorem dX10_pairs_20 : decode cX10_pairs 20 = .ok (.getfield 25, 3) := by decide +kernel
theorem dX10_pairs_23 : decode cX10_pairs 23 = .ok (.aload_n 0, 1) := by decide +kernel
theorem dX10_pairs_24 : decode cX10_pairs 24 = .ok (.getfield 84, 3) := by decide +kernel
theorem dX10_pairs_27 : decode cX10_pairs 27 = .ok (.iload_n 2, 1) := by decide +kernel
theorem dX10_pairs_28 : decode cX10_pairs 28 = .ok (.invokevirtual 193, 3) := by decide +kernel
theorem dX10_pairs_31 : decode cX10_pairs 31 = .ok (.invokevirtual 210, 3) := by decide +kernel
theorem dX10_pairs_34 : decode cX10_pairs 34 = .ok (.aload_n 0, 1) := by decide +kernel
theorem dX10_pairs_35 : decode cX10_pairs 35 = .ok (.getfield 32, 3) := by decide +kernel
theorem dX10_pairs_38 : decode cX10_pairs 38 = .ok (.aload_n 0, 1) := by decide +kernel
theorem dX10_pairs_39 : decode cX10_pairs 39 = .ok (.getfield 25, 3) := by decide +kernel
theorem dX10_pairs_42 : decode cX10_pairs 42 = .ok (.getfield 239, 3) := by decide +kernel
theorem dX10_pairs_45 : decode cX10_pairs 45 = .ok (.aload_n 0, 1) := by decide +kernel
theorem dX10_pairs_46 : decode cX10_pairs 46 = .ok (.getfield 16, 3) := by decide +kernel
theorem dX10_pairs_49 : decode cX10_pairs 49 = .ok (.iload_n 1, 1) := by decide +kernel
theorem dX10_pairs_50 : decode cX10_pairs 50 = .ok (.invokevirtual 242, 3) := by decide +kernel
theorem dX10_pairs_53 : decode cX10_pairs 53 = .ok (.invokevirtual 245, 3) := by decide +kernel
theorem dX10_pairs_56 : decode cX10_pairs 56 = .ok (.ireturn, 1) := by decide +kernel
theorem dX10_partner_0 : decode cX10_partner 0 = .ok (.aload_n 0, 1) := by decide +kernel
theorem dX10_partner_1 : decode cX10_partner 1 = .ok (.aload_n 0, 1) := by decide +kernel
theorem dX10_partner_2 : decode cX10_partner 2 = .ok (.iload_n 1, 1) := by decide +kernel
theorem dX10_partner_3 : decode cX10_partner 3 = .ok (.invokevirtual 168, 3) := by decide +kernel
theorem dX10_partner_6 : decode cX10_partner 6 = .ok (.ifCond .eq 15, 3) := by decide +kernel
theorem dX10_partner_9 : decode cX10_partner 9 = .ok (.aload_n 0, 1) := by decide +kernel
theorem dX10_partner_10 : decode cX10_partner 10 = .ok (.iload_n 2, 1) := by decide +kernel
theorem dX10_partner_11 : decode cX10_partner 11 = .ok (.invokevirtual 236, 3) := by decide +kernel
theorem dX10_partner_14 : decode cX10_partner 14 = .ok (.ifCond .eq 7, 3) := by decide +kernel
theorem dX10_partner_17 : decode cX10_partner 17 = .ok (.iconst 1, 1) := by decide +kernel
theorem dX10_partner_18 : decode cX10_partner 18 = .ok (.goto 4, 3) := by decide +kernel
theorem dX10_partner_21 : decode cX10_partner 21 = .ok (.iconst 0, 1) := by decide +kernel
theorem dX10_partner_22 : decode cX10_partner 22 = .ok (.aload_n 0, 1) := by decide +kernel
theorem dX10_partner_23 : decode cX10_partner 23 = .ok (.iload_n 3, 1) := by decide +kernel
theorem dX10_partner_24 : decode cX10_partner 24 = .ok (.invokevirtual 190, 3) := by decide +kernel
theorem dX10_partner_27 : decode cX10_partner 27 = .ok (.invokevirtual 116, 3) := by decide +kernel
theorem dX10_partner_30 : decode cX10_partner 30 = .ok (.ifCond .eq 5, 3) := by decide +kernel
theorem dX10_partner_33 : decode cX10_partner 33 = .ok (.iconst (-1), 1) := by decide +kernel
theorem dX10_partner_34 : decode cX10_partner 34 = .ok (.ireturn, 1) := by decide +kernel
theorem dX10_partner_35 : decode cX10_partner 35 = .ok (.aload_n 0, 1) := by decide +kernel
theorem dX10_partner_36 : decode cX10_partner 36 = .ok (.getfield 25, 3) := by decide +kernel
theorem dX10_partner_39 : decode cX10_partner 39 = .ok (.aload_n 0, 1) := by decide +kernel
theorem dX10_partner_40 : decode cX10_partner 40 = .ok (.getfield 84, 3) := by decide +kernel
theorem dX10_partner_43 : decode cX10_partner 43 = .ok (.iload_n 3, 1) := by decide +kernel
theorem dX10_partner_44 : decode cX10_partner 44 = .ok (.invokevirtual 193, 3) := by decide +kernel
theorem dX10_partner_47 : decode cX10_partner 47 = .ok (.invokevirtual 210, 3) := by decide +kernel
theorem dX10_partner_50 : decode cX10_partner 50 = .ok (.aload_n 0, 1) := by decide +kernel
theorem dX10_partner_51 : decode cX10_partner 51 = .ok (.getfield 32, 3) := by decide +kernel
theorem dX10_partner_54 : decode cX10_partner 54 = .ok (.aload_n 0, 1) := by decide +kernel
theorem dX10_partner_55 : decode cX10_partner 55 = .ok (.getfield 25, 3) := by decide +kernel
theorem dX10_partner_58 : decode cX10_partner 58 = .ok (.getfield 239, 3) := by decide +kernel
theorem dX10_partner_61 : decode cX10_partner 61 = .ok (.aload_n 0, 1) := by decide +kernel
theorem dX10_partner_62 : decode cX10_partner 62 = .ok (.getfield 16, 3) := by decide +kernel
theorem dX10_partner_65 : decode cX10_partner 65 = .ok (.iload_n 2, 1) := by decide +kernel
theorem dX10_partner_66 : decode cX10_partner 66 = .ok (.invokevirtual 242, 3) := by decide +kernel
theorem dX10_partner_69 : decode cX10_partner 69 = .ok (.invokevirtual 249, 3) := by decide +kernel
theorem dX10_partner_72 : decode cX10_partner 72 = .ok (.aload_n 0, 1) := by decide +kernel
theorem dX10_partner_73 : decode cX10_partner 73 = .ok (.getfield 32, 3) := by decide +kernel
theorem dX10_partner_76 : decode cX10_partner 76 = .ok (.getfield 253, 3) := by decide +kernel
theorem dX10_partner_79 : decode cX10_partner 79 = .ok (.iload_n 1, 1) := by decide +kernel
theorem dX10_partner_80 : decode cX10_partner 80 = .ok (.iaload, 1) := by decide +kernel
theorem dX10_partner_81 : decode cX10_partner 81 = .ok (.ireturn, 1) := by decide +kernel
