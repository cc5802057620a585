theorem dX10_alone_0 : decode cX10_alone 0 = .ok (.aload_n 0, 1) := by decide +kernel
theorem dX10_alone_1 : decode cX10_alone 1 = .ok (.aload_n 0, 1) := by decide +kernel
theorem dX10_alone_2 : decode cX10_alone 2 = .ok (.iload_n 1, 1) := by decide +kernel
theorem dX10_alone_3 : decode cX10_alone 3 = .ok (.invokevirtual 236, 3) := by decide +kernel
theorem dX10_alone_6 : decode cX10_alone 6 = .ok (.aload_n 0, 1) := by decide +kernel
theorem dX10_alone_7 : decode cX10_alone 7 = .ok (.iload_n 2, 1) := by decide +kernel
theorem dX10_alone_8 : decode cX10_alone 8 = .ok (.invokevirtual 190, 3) := by decide +kernel
theorem dX10_alone_11 : decode cX10_alone 11 = .ok (.invokevirtual 116, 3) := by decide +kernel
theorem dX10_alone_14 : decode cX10_alone 14 = .ok (.ifCond .eq 5, 3) := by decide +kernel
theorem dX10_alone_17 : decode cX10_alone 17 = .ok (.iconst (-1), 1) := by decide +kernel
theorem dX10_alone_18 : decode cX10_alone 18 = .ok (.ireturn, 1) := by decide +kernel
theorem dX10_alone_19 : decode cX10_alone 19 = .ok (.aload_n 0, 1) := by decide +kernel
theorem dX10_alone_20 : decode cX10_alone 20 = .ok (.getfield 25, 3) := by decide +kernel
theorem dX10_alone_23 : decode cX10_alone 23 = .ok (.aload_n 0, 1) := by decide +kernel
theorem dX10_alone_24 : decode cX10_alone 24 = .ok (.getfield 16, 3) := by decide +kernel
theorem dX10_alone_27 : decode cX10_alone 27 = .ok (.iload_n 1, 1) := by decide +kernel
theorem dX10_alone_28 : decode cX10_alone 28 = .ok (.invokevirtual 242, 3) := by decide +kernel
theorem dX10_alone_31 : decode cX10_alone 31 = .ok (.aload_n 0, 1) := by decide +kernel
theorem dX10_alone_32 : decode cX10_alone 32 = .ok (.getfield 84, 3) := by decide +kernel
theorem dX10_alone_35 : decode cX10_alone 35 = .ok (.iload_n 2, 1) := by decide +kernel
theorem dX10_alone_36 : decode cX10_alone 36 = .ok (.invokevirtual 193, 3) := by decide +kernel
theorem dX10_alone_39 : decode cX10_alone 39 = .ok (.invokevirtual 256, 3) := by decide +kernel
theorem dX10_alone_42 : decode cX10_alone 42 = .ok (.ireturn, 1) := by decide +kernel
theorem dX10_kept_0 : decode cX10_kept 0 = .ok (.aload_n 0, 1) := by decide +kernel
theorem dX10_kept_1 : decode cX10_kept 1 = .ok (.aload_n 0, 1) := by decide +kernel
theorem dX10_kept_2 : decode cX10_kept 2 = .ok (.invokevirtual 186, 3) := by decide +kernel
theorem dX10_kept_5 : decode cX10_kept 5 = .ok (.aload_n 0, 1) := by decide +kernel
theorem dX10_kept_6 : decode cX10_kept 6 = .ok (.iload_n 1, 1) := by decide +kernel
theorem dX10_kept_7 : decode cX10_kept 7 = .ok (.invokevirtual 190, 3) := by decide +kernel
theorem dX10_kept_10 : decode cX10_kept 10 = .ok (.invokevirtual 116, 3) := by decide +kernel
theorem dX10_kept_13 : decode cX10_kept 13 = .ok (.ifCond .eq 5, 3) := by decide +kernel
theorem dX10_kept_16 : decode cX10_kept 16 = .ok (.iconst (-1), 1) := by decide +kernel
theorem dX10_kept_17 : decode cX10_kept 17 = .ok (.ireturn, 1) := by decide +kernel
theorem dX10_kept_18 : decode cX10_kept 18 = .ok (.aload_n 0, 1) := by decide +kernel
theorem dX10_kept_19 : decode cX10_kept 19 = .ok (.getfield 25, 3) := by decide +kernel
theorem dX10_kept_22 : decode cX10_kept 22 = .ok (.aload_n 0, 1) := by decide +kernel
theorem dX10_kept_23 : decode cX10_kept 23 = .ok (.getfield 84, 3) := by decide +kernel
theorem dX10_kept_26 : decode cX10_kept 26 = .ok (.iload_n 1, 1) := by decide +kernel
theorem dX10_kept_27 : decode cX10_kept 27 = .ok (.invokevirtual 193, 3) := by decide +kernel
theorem dX10_kept_30 : decode cX10_kept 30 = .ok (.invokevirtual 210, 3) := by decide +kernel
theorem dX10_kept_33 : decode cX10_kept 33 = .ok (.aload_n 0, 1) := by decide +kernel
theorem dX10_kept_34 : decode cX10_kept 34 = .ok (.getfield 32, 3) := by decide +kernel
theorem dX10_kept_37 : decode cX10_kept 37 = .ok (.aload_n 0, 1) := by decide +kernel
theorem dX10_kept_38 : decode cX10_kept 38 = .ok (.getfield 25, 3) := by decide +kernel
theorem dX10_kept_41 : decode cX10_kept 41 = .ok (.getfield 239, 3) := by decide +kernel
theorem dX10_kept_44 : decode cX10_kept 44 = .ok (.aload_n 0, 1) := by decide +kernel
theorem dX10_kept_45 : decode cX10_kept 45 = .ok (.getfield 16, 3) := by decide +kernel
theorem dX10_kept_48 : decode cX10_kept 48 = .ok (.iconst 0, 1) := by decide +kernel
theorem dX10_kept_49 : decode cX10_kept 49 = .ok (.invokevirtual 242, 3) := by decide +kernel
theorem dX10_kept_52 : decode cX10_kept 52 = .ok (.aload_n 0, 1) := by decide +kernel
theorem dX10_kept_53 : decode cX10_kept 53 = .ok (.getfield 84, 3) := by decide +kernel
theorem dX10_kept_56 : decode cX10_kept 56 = .ok (.invokevirtual 259, 3) := by decide +kernel
theorem dX10_kept_59 : decode cX10_kept 59 = .ok (.ireturn, 1) := by decide +kernel
theorem dX10_judge_0 : decode cX10_judge 0 = .ok (.aload_n 0, 1) := by decide +kernel
theorem dX10_judge_1 : decode cX10_judge 1 = .ok (.aload_n 0, 1) := by decide +kernel
theorem dX10_judge_2 : decode cX10_judge 2 = .ok (.invokevirtual 186, 3) := by decide +kernel
theorem dX10_judge_5 : decode cX10_judge 5 = .ok (.iconst 1, 1) := by decide +kernel
theorem dX10_judge_6 : decode cX10_judge 6 = .ok (.invokevirtual 116, 3) := by decide +kernel
theorem dX10_judge_9 : decode cX10_judge 9 = .ok (.ifCond .eq 5, 3) := by decide +kernel
theorem dX10_judge_12 : decode cX10_judge 12 = .ok (.iconst (-1), 1) := by decide +kernel
theorem dX10_judge_13 : decode cX10_judge 13 = .ok (.ireturn, 1) := by decide +kernel
theorem dX10_judge_14 : decode cX10_judge 14 = .ok (.aload_n 0, 1) := by decide +kernel
theorem dX10_judge_15 : decode cX10_judge 15 = .ok (.getfield 50, 3) := by decide +kernel
theorem dX10_judge_18 : decode cX10_judge 18 = .ok (.aload_n 0, 1) := by decide +kernel
theorem dX10_judge_19 : decode cX10_judge 19 = .ok (.getfield 84, 3) := by decide +kernel
theorem dX10_judge_22 : decode cX10_judge 22 = .ok (.getfield 263, 3) := by decide +kernel
theorem dX10_judge_25 : decode cX10_judge 25 = .ok (.invokevirtual 266, 3) := by decide +kernel
theorem dX10_judge_28 : decode cX10_judge 28 = .ok (.ireturn, 1) := by decide +kernel
theorem dX10_coins_0 : decode cX10_coins 0 = .ok (.aload_n 0, 1) := by decide +kernel
theorem dX10_coins_1 : decode cX10_coins 1 = .ok (.aload_n 0, 1) := by decide +kernel
theorem dX10_coins_2 : decode cX10_coins 2 = .ok (.iload_n 1, 1) := by decide +kernel
theorem dX10_coins_3 : decode cX10_coins 3 = .ok (.invokevirtual 236, 3) := by decide +kernel
theorem dX10_coins_6 : decode cX10_coins 6 = .ok (.aload_n 0, 1) := by decide +kernel
theorem dX10_coins_7 : decode cX10_coins 7 = .ok (.iload_n 2, 1) := by decide +kernel
theorem dX10_coins_8 : decode cX10_coins 8 = .ok (.invokevirtual 190, 3) := by decide +kernel
theorem dX10_coins_11 : decode cX10_coins 11 = .ok (.invokevirtual 116, 3) := by decide +kernel
theorem dX10_coins_14 : decode cX10_coins 14 = .ok (.ifCond .eq 5, 3) := by decide +kernel
theorem dX10_coins_17 : decode cX10_coins 17 = .ok (.iconst (-1), 1) := by decide +kernel
theorem dX10_coins_18 : decode cX10_coins 18 = .ok (.ireturn, 1) := by decide +kernel
theorem dX10_coins_19 : decode cX10_coins 19 = .ok (.aload_n 0, 1) := by decide +kernel
theorem dX10_coins_20 : decode cX10_coins 20 = .ok (.getfield 41, 3) := by decide +kernel
theorem dX10_coins_23 : decode cX10_coins 23 = .ok (.aload_n 0, 1) := by decide +kernel
theorem dX10_coins_24 : decode cX10_coins 24 = .ok (.getfield 16, 3) := by decide +kernel
theorem dX10_coins_27 : decode cX10_coins 27 = .ok (.iload_n 1, 1) := by decide +kernel
theorem dX10_coins_28 : decode cX10_coins 28 = .ok (.invokevirtual 242, 3) := by decide +kernel
theorem dX10_coins_31 : decode cX10_coins 31 = .ok (.aload_n 0, 1) := by decide +kernel
theorem dX10_coins_32 : decode cX10_coins 32 = .ok (.getfield 84, 3) := by decide +kernel
theorem dX10_coins_35 : decode cX10_coins 35 = .ok (.iload_n 2, 1) := by decide +kernel
theorem dX10_coins_36 : decode cX10_coins 36 = .ok (.invokevirtual 193, 3) := by decide +kernel
theorem dX10_coins_39 : decode cX10_coins 39 = .ok (.invokevirtual 269, 3) := by decide +kernel
theorem dX10_coins_42 : decode cX10_coins 42 = .ok (.ireturn, 1) := by decide +kernel
theorem dX10_keep_0 : decode cX10_keep 0 = .ok (.aload_n 0, 1) := by decide +kernel
theorem dX10_keep_1 : decode cX10_keep 1 = .ok (.aload_n 0, 1) := by decide +kernel
theorem dX10_keep_2 : decode cX10_keep 2 = .ok (.iload_n 1, 1) := by decide +kernel
theorem dX10_keep_3 : decode cX10_keep 3 = .ok (.invokevirtual 236, 3) := by decide +kernel
theorem dX10_keep_6 : decode cX10_keep 6 = .ok (.aload_n 0, 1) := by decide +kernel
theorem dX10_keep_7 : decode cX10_keep 7 = .ok (.iload_n 2, 1) := by decide +kernel
theorem dX10_keep_8 : decode cX10_keep 8 = .ok (.invokevirtual 190, 3) := by decide +kernel
theorem dX10_keep_11 : decode cX10_keep 11 = .ok (.invokevirtual 116, 3) := by decide +kernel
theorem dX10_keep_14 : decode cX10_keep 14 = .ok (.ifCond .eq 5, 3) := by decide +kernel
theorem dX10_keep_17 : decode cX10_keep 17 = .ok (.iconst (-1), 1) := by decide +kernel
theorem dX10_keep_18 : decode cX10_keep 18 = .ok (.ireturn, 1) := by decide +kernel
theorem dX10_keep_19 : decode cX10_keep 19 = .ok (.aload_n 0, 1) := by decide +kernel
theorem dX10_keep_20 : decode cX10_keep 20 = .ok (.getfield 41, 3) := by decide +kernel
theorem dX10_keep_23 : decode cX10_keep 23 = .ok (.aload_n 0, 1) := by decide +kernel
theorem dX10_keep_24 : decode cX10_keep 24 = .ok (.getfield 16, 3) := by decide +kernel
theorem dX10_keep_27 : decode cX10_keep 27 = .ok (.iload_n 1, 1) := by decide +kernel
theorem dX10_keep_28 : decode cX10_keep 28 = .ok (.invokevirtual 242, 3) := by decide +kernel
theorem dX10_keep_31 : decode cX10_keep 31 = .ok (.aload_n 0, 1) := by decide +kernel
theorem dX10_keep_32 : decode cX10_keep 32 = .ok (.getfield 84, 3) := by decide +kernel
theorem dX10_keep_35 : decode cX10_keep 35 = .ok (.iload_n 2, 1) := by decide +kernel
theorem dX10_keep_36 : decode cX10_keep 36 = .ok (.invokevirtual 193, 3) := by decide +kernel
theorem dX10_keep_39 : decode cX10_keep 39 = .ok (.invokevirtual 272, 3) := by decide +kernel
theorem dX10_keep_42 : decode cX10_keep 42 = .ok (.aload_n 0, 1) := by decide +kernel
theorem dX10_keep_43 : decode cX10_keep 43 = .ok (.getfield 41, 3) := by decide +kernel
theorem dX10_keep_46 : decode cX10_keep 46 = .ok (.iconst 0, 1) := by decide +kernel
theorem dX10_keep_47 : decode cX10_keep 47 = .ok (.invokevirtual 276, 3) := by decide +kernel
theorem dX10_keep_50 : decode cX10_keep 50 = .ok (.ireturn, 1) := by decide +kernel
theorem dX10_refrain_0 : decode cX10_refrain 0 = .ok (.aload_n 0, 1) := by decide +kernel
theorem dX10_refrain_1 : decode cX10_refrain 1 = .ok (.aload_n 0, 1) := by decide +kernel
theorem dX10_refrain_2 : decode cX10_refrain 2 = .ok (.iload_n 1, 1) := by decide +kernel
theorem dX10_refrain_3 : decode cX10_refrain 3 = .ok (.invokevirtual 236, 3) := by decide +kernel
theorem dX10_refrain_6 : decode cX10_refrain 6 = .ok (.aload_n 0, 1) := by decide +kernel
theorem dX10_refrain_7 : decode cX10_refrain 7 = .ok (.iload_n 2, 1) := by decide +kernel
theorem dX10_refrain_8 : decode cX10_refrain 8 = .ok (.invokevirtual 190, 3) := by decide +kernel
theorem dX10_refrain_11 : decode cX10_refrain 11 = .ok (.invokevirtual 116, 3) := by decide +kernel
theorem dX10_refrain_14 : decode cX10_refrain 14 = .ok (.ifCond .eq 5, 3) := by decide +kernel
theorem dX10_refrain_17 : decode cX10_refrain 17 = .ok (.iconst (-1), 1) := by decide +kernel
theorem dX10_refrain_18 : decode cX10_refrain 18 = .ok (.ireturn, 1) := by decide +kernel
theorem dX10_refrain_19 : decode cX10_refrain 19 = .ok (.aload_n 0, 1) := by decide +kernel
theorem dX10_refrain_20 : decode cX10_refrain 20 = .ok (.getfield 41, 3) := by decide +kernel
theorem dX10_refrain_23 : decode cX10_refrain 23 = .ok (.aload_n 0, 1) := by decide +kernel
theorem dX10_refrain_24 : decode cX10_refrain 24 = .ok (.getfield 16, 3) := by decide +kernel
theorem dX10_refrain_27 : decode cX10_refrain 27 = .ok (.iload_n 1, 1) := by decide +kernel
theorem dX10_refrain_28 : decode cX10_refrain 28 = .ok (.invokevirtual 242, 3) := by decide +kernel
theorem dX10_refrain_31 : decode cX10_refrain 31 = .ok (.aload_n 0, 1) := by decide +kernel
theorem dX10_refrain_32 : decode cX10_refrain 32 = .ok (.getfield 84, 3) := by decide +kernel
theorem dX10_refrain_35 : decode cX10_refrain 35 = .ok (.iload_n 2, 1) := by decide +kernel
theorem dX10_refrain_36 : decode cX10_refrain 36 = .ok (.invokevirtual 193, 3) := by decide +kernel
theorem dX10_refrain_39 : decode cX10_refrain 39 = .ok (.invokevirtual 280, 3) := by decide +kernel
theorem dX10_refrain_42 : decode cX10_refrain 42 = .ok (.aload_n 0, 1) := by decide +kernel
theorem dX10_refrain_43 : decode cX10_refrain 43 = .ok (.getfield 41, 3) := by decide +kernel
theorem dX10_refrain_46 : decode cX10_refrain 46 = .ok (.iconst 1, 1) := by decide +kernel
theorem dX10_refrain_47 : decode cX10_refrain 47 = .ok (.invokevirtual 276, 3) := by decide +kernel
theorem dX10_refrain_50 : decode cX10_refrain 50 = .ok (.ireturn, 1) := by decide +kernel
theorem dX10_heard_0 : decode cX10_heard 0 = .ok (.aload_n 0, 1) := by decide +kernel
theorem dX10_heard_1 : decode cX10_heard 1 = .ok (.aload_n 0, 1) := by decide +kernel
theorem dX10_heard_2 : decode cX10_heard 2 = .ok (.invokevirtual 186, 3) := by decide +kernel
theorem dX10_heard_5 : decode cX10_heard 5 = .ok (.iconst 1, 1) := by decide +kernel
theorem dX10_heard_6 : decode cX10_heard 6 = .ok (.invokevirtual 116, 3) := by decide +kernel
theorem dX10_heard_9 : decode cX10_heard 9 = .ok (.ifCond .eq 5, 3) := by decide +kernel
theorem dX10_heard_12 : decode cX10_heard 12 = .ok (.iconst (-1), 1) := by decide +kernel
theorem dX10_heard_13 : decode cX10_heard 13 = .ok (.ireturn, 1) := by decide +kernel
theorem dX10_heard_14 : decode cX10_heard 14 = .ok (.aload_n 0, 1) := by decide +kernel
theorem dX10_heard_15 : decode cX10_heard 15 = .ok (.getfield 50, 3) := by decide +kernel
theorem dX10_heard_18 : decode cX10_heard 18 = .ok (.invokevirtual 283, 3) := by decide +kernel
theorem dX10_heard_21 : decode cX10_heard 21 = .ok (.invokestatic 286, 3) := by decide +kernel
theorem dX10_heard_24 : decode cX10_heard 24 = .ok (.ireturn, 1) := by decide +kernel
theorem dX10_heardEar_0 : decode cX10_heardEar 0 = .ok (.aload_n 0, 1) := by decide +kernel
theorem dX10_heardEar_1 : decode cX10_heardEar 1 = .ok (.aload_n 0, 1) := by decide +kernel
theorem dX10_heardEar_2 : decode cX10_heardEar 2 = .ok (.invokevirtual 186, 3) := by decide +kernel
theorem dX10_heardEar_5 : decode cX10_heardEar 5 = .ok (.iconst 1, 1) := by decide +kernel
theorem dX10_heardEar_6 : decode cX10_heardEar 6 = .ok (.invokevirtual 116, 3) := by decide +kernel
theorem dX10_heardEar_9 : decode cX10_heardEar 9 = .ok (.ifCond .eq 5, 3) := by decide +kernel
theorem dX10_heardEar_12 : decode cX10_heardEar 12 = .ok (.iconst (-1), 1) := by decide +kernel
theorem dX10_heardEar_13 : decode cX10_heardEar 13 = .ok (.ireturn, 1) := by decide +kernel
theorem dX10_heardEar_14 : decode cX10_heardEar 14 = .ok (.aload_n 0, 1) := by decide +kernel
theorem dX10_heardEar_15 : decode cX10_heardEar 15 = .ok (.getfield 50, 3) := by decide +kernel
theorem dX10_heardEar_18 : decode cX10_heardEar 18 = .ok (.aload_n 0, 1) := by decide +kernel
theorem dX10_heardEar_19 : decode cX10_heardEar 19 = .ok (.getfield 50, 3) := by decide +kernel
theorem dX10_heardEar_22 : decode cX10_heardEar 22 = .ok (.invokevirtual 283, 3) := by decide +kernel
theorem dX10_heardEar_25 : decode cX10_heardEar 25 = .ok (.iload_n 1, 1) := by decide +kernel
theorem dX10_heardEar_26 : decode cX10_heardEar 26 = .ok (.invokevirtual 291, 3) := by decide +kernel
theorem dX10_heardEar_29 : decode cX10_heardEar 29 = .ok (.ireturn, 1) := by decide +kernel
theorem dX10_ask_0 : decode cX10_ask 0 = .ok (.aload_n 0, 1) := by decide +kernel
theorem dX10_ask_1 : decode cX10_ask 1 = .ok (.aload_n 0, 1) := by decide +kernel
theorem dX10_ask_2 : decode cX10_ask 2 = .ok (.invokevirtual 186, 3) := by decide +kernel
theorem dX10_ask_5 : decode cX10_ask 5 = .ok (.iconst 1, 1) := by decide +kernel
theorem dX10_ask_6 : decode cX10_ask 6 = .ok (.invokevirtual 116, 3) := by decide +kernel
theorem dX10_ask_9 : decode cX10_ask 9 = .ok (.ifCond .eq 5, 3) := by decide +kernel
theorem dX10_ask_12 : decode cX10_ask 12 = .ok (.iconst (-1), 1) := by decide +kernel
theorem dX10_ask_13 : decode cX10_ask 13 = .ok (.ireturn, 1) := by decide +kernel
theorem dX10_ask_14 : decode cX10_ask 14 = .ok (.aload_n 0, 1) := by decide +kernel
theorem dX10_ask_15 : decode cX10_ask 15 = .ok (.getfield 50, 3) := by decide +kernel
theorem dX10_ask_18 : decode cX10_ask 18 = .ok (.aload_n 0, 1) := by decide +kernel
theorem dX10_ask_19 : decode cX10_ask 19 = .ok (.getfield 50, 3) := by decide +kernel
theorem dX10_ask_22 : decode cX10_ask 22 = .ok (.invokevirtual 283, 3) := by decide +kernel
theorem dX10_ask_25 : decode cX10_ask 25 = .ok (.invokevirtual 295, 3) := by decide +kernel
theorem dX10_ask_28 : decode cX10_ask 28 = .ok (.aload_n 0, 1) := by decide +kernel
theorem dX10_ask_29 : decode cX10_ask 29 = .ok (.getfield 50, 3) := by decide +kernel
theorem dX10_ask_32 : decode cX10_ask 32 = .ok (.getfield 298, 3) := by decide +kernel
theorem dX10_ask_35 : decode cX10_ask 35 = .ok (.ireturn, 1) := by decide +kernel
theorem dX10_askLeaves_0 : decode cX10_askLeaves 0 = .ok (.aload_n 0, 1) := by decide +kernel
theorem dX10_askLeaves_1 : decode cX10_askLeaves 1 = .ok (.aload_n 0, 1) := by decide +kernel
theorem dX10_askLeaves_2 : decode cX10_askLeaves 2 = .ok (.invokevirtual 186, 3) := by decide +kernel
theorem dX10_askLeaves_5 : decode cX10_askLeaves 5 = .ok (.iconst 1, 1) := by decide +kernel
theorem dX10_askLeaves_6 : decode cX10_askLeaves 6 = .ok (.invokevirtual 116, 3) := by decide +kernel
theorem dX10_askLeaves_9 : decode cX10_askLeaves 9 = .ok (.ifCond .eq 5, 3) := by decide +kernel
theorem dX10_askLeaves_12 : decode cX10_askLeaves 12 = .ok (.iconst (-1), 1) := by decide +kernel
theorem dX10_askLeaves_13 : decode cX10_askLeaves 13 = .ok (.ireturn, 1) := by decide +kernel
theorem dX10_askLeaves_14 : decode cX10_askLeaves 14 = .ok (.aload_n 0, 1) := by decide +kernel
theorem dX10_askLeaves_15 : decode cX10_askLeaves 15 = .ok (.getfield 50, 3) := by decide +kernel
theorem dX10_askLeaves_18 : decode cX10_askLeaves 18 = .ok (.aload_n 0, 1) := by decide +kernel
theorem dX10_askLeaves_19 : decode cX10_askLeaves 19 = .ok (.getfield 50, 3) := by decide +kernel
theorem dX10_askLeaves_22 : decode cX10_askLeaves 22 = .ok (.invokevirtual 283, 3) := by decide +kernel
theorem dX10_askLeaves_25 : decode cX10_askLeaves 25 = .ok (.invokevirtual 295, 3) := by decide +kernel
theorem dX10_askLeaves_28 : decode cX10_askLeaves 28 = .ok (.aload_n 0, 1) := by decide +kernel
theorem dX10_askLeaves_29 : decode cX10_askLeaves 29 = .ok (.getfield 50, 3) := by decide +kernel
theorem dX10_askLeaves_32 : decode cX10_askLeaves 32 = .ok (.getfield 301, 3) := by decide +kernel
theorem dX10_askLeaves_35 : decode cX10_askLeaves 35 = .ok (.ireturn, 1) := by decide +kernel
theorem dX10_sells_0 : decode cX10_sells 0 = .ok (.aload_n 0, 1) := by decide +kernel
theorem dX10_sells_1 : decode cX10_sells 1 = .ok (.aload_n 0, 1) := by decide +kernel
theorem dX10_sells_2 : decode cX10_sells 2 = .ok (.iload_n 1, 1) := by decide +kernel
theorem dX10_sells_3 : decode cX10_sells 3 = .ok (.iload_n 3, 1) := by decide +kernel
theorem dX10_sells_4 : decode cX10_sells 4 = .ok (.invokevirtual 304, 3) := by decide +kernel
theorem dX10_sells_7 : decode cX10_sells 7 = .ok (.aload_n 0, 1) := by decide +kernel
theorem dX10_sells_8 : decode cX10_sells 8 = .ok (.iload_n 2, 1) := by decide +kernel
theorem dX10_sells_9 : decode cX10_sells 9 = .ok (.invokevirtual 307, 3) := by decide +kernel
theorem dX10_sells_12 : decode cX10_sells 12 = .ok (.ifCond .eq 25, 3) := by decide +kernel
theorem dX10_sells_15 : decode cX10_sells 15 = .ok (.aload_n 0, 1) := by decide +kernel
theorem dX10_sells_16 : decode cX10_sells 16 = .ok (.iload 4, 2) := by decide +kernel
theorem dX10_sells_18 : decode cX10_sells 18 = .ok (.invokevirtual 307, 3) := by decide +kernel
theorem dX10_sells_21 : decode cX10_sells 21 = .ok (.ifCond .eq 16, 3) := by decide +kernel
theorem dX10_sells_24 : decode cX10_sells 24 = .ok (.aload_n 0, 1) := by decide +kernel
theorem dX10_sells_25 : decode cX10_sells 25 = .ok (.iload 5, 2) := by decide +kernel
theorem dX10_sells_27 : decode cX10_sells 27 = .ok (.invokevirtual 190, 3) := by decide +kernel
theorem dX10_sells_30 : decode cX10_sells 30 = .ok (.ifCond .eq 7, 3) := by decide +kernel
theorem dX10_sells_33 : decode cX10_sells 33 = .ok (.iconst 1, 1) := by decide +kernel
theorem dX10_sells_34 : decode cX10_sells 34 = .ok (.goto 4, 3) := by decide +kernel
theorem dX10_sells_37 : decode cX10_sells 37 = .ok (.iconst 0, 1) := by decide +kernel
theorem dX10_sells_38 : decode cX10_sells 38 = .ok (.invokevirtual 116, 3) := by decide +kernel
theorem dX10_sells_41 : decode cX10_sells 41 = .ok (.ifCond .eq 5, 3) := by decide +kernel
theorem dX10_sells_44 : decode cX10_sells 44 = .ok (.iconst (-1), 1) := by decide +kernel
theorem dX10_sells_45 : decode cX10_sells 45 = .ok (.ireturn, 1) := by decide +kernel
theorem dX10_sells_46 : decode cX10_sells 46 = .ok (.aload_n 0, 1) := by decide +kernel
theorem dX10_sells_47 : decode cX10_sells 47 = .ok (.getfield 57, 3) := by decide +kernel
theorem dX10_sells_50 : decode cX10_sells 50 = .ok (.iload_n 1, 1) := by decide +kernel
theorem dX10_sells_51 : decode cX10_sells 51 = .ok (.iload_n 3, 1) := by decide +kernel
theorem dX10_sells_52 : decode cX10_sells 52 = .ok (.aload_n 0, 1) := by decide +kernel
theorem dX10_sells_53 : decode cX10_sells 53 = .ok (.getfield 84, 3) := by decide +kernel
theorem dX10_sells_56 : decode cX10_sells 56 = .ok (.iload 5, 2) := by decide +kernel
theorem dX10_sells_58 : decode cX10_sells 58 = .ok (.invokevirtual 193, 3) := by decide +kernel
theorem dX10_sells_61 : decode cX10_sells 61 = .ok (.invokevirtual 310, 3) := by decide +kernel
theorem dX10_sells_64 : decode cX10_sells 64 = .ok (.iload 6, 2) := by decide +kernel
theorem dX10_sells_66 : decode cX10_sells 66 = .ok (.ifCond .eq 16, 3) := by decide +kernel
theorem dX10_sells_69 : decode cX10_sells 69 = .ok (.aload_n 0, 1) := by decide +kernel
theorem dX10_sells_70 : decode cX10_sells 70 = .ok (.getfield 57, 3) := by decide +kernel
theorem dX10_sells_73 : decode cX10_sells 73 = .ok (.iload_n 2, 1) := by decide +kernel
theorem dX10_sells_74 : decode cX10_sells 74 = .ok (.iload 4, 2) := by decide +kernel
theorem dX10_sells_76 : decode cX10_sells 76 = .ok (.invokevirtual 314, 3) := by decide +kernel
theorem dX10_sells_79 : decode cX10_sells 79 = .ok (.goto 13, 3) := by decide +kernel
theorem dX10_sells_82 : decode cX10_sells 82 = .ok (.aload_n 0, 1) := by decide +kernel
theorem dX10_sells_83 : decode cX10_sells 83 = .ok (.getfield 57, 3) := by decide +kernel
theorem dX10_sells_86 : decode cX10_sells 86 = .ok (.iload_n 2, 1) := by decide +kernel
theorem dX10_sells_87 : decode cX10_sells 87 = .ok (.iload 4, 2) := by decide +kernel
theorem dX10_sells_89 : decode cX10_sells 89 = .ok (.invokevirtual 317, 3) := by decide +kernel
theorem dX10_sells_92 : decode cX10_sells 92 = .ok (.ireturn, 1) := by decide +kernel
theorem dX10_rests_0 : decode cX10_rests 0 = .ok (.aload_n 0, 1) := by decide +kernel
theorem dX10_rests_1 : decode cX10_rests 1 = .ok (.aload_n 0, 1) := by decide +kernel
theorem dX10_rests_2 : decode cX10_rests 2 = .ok (.iload_n 1, 1) := by decide +kernel
theorem dX10_rests_3 : decode cX10_rests 3 = .ok (.iload_n 2, 1) := by decide +kernel
theorem dX10_rests_4 : decode cX10_rests 4 = .ok (.invokevirtual 304, 3) := by decide +kernel
theorem dX10_rests_7 : decode cX10_rests 7 = .ok (.aload_n 0, 1) := by decide +kernel
theorem dX10_rests_8 : decode cX10_rests 8 = .ok (.iload_n 3, 1) := by decide +kernel
theorem dX10_rests_9 : decode cX10_rests 9 = .ok (.invokevirtual 190, 3) := by decide +kernel
theorem dX10_rests_12 : decode cX10_rests 12 = .ok (.invokevirtual 116, 3) := by decide +kernel
theorem dX10_rests_15 : decode cX10_rests 15 = .ok (.ifCond .eq 5, 3) := by decide +kernel
theorem dX10_rests_18 : decode cX10_rests 18 = .ok (.iconst (-1), 1) := by decide +kernel
theorem dX10_rests_19 : decode cX10_rests 19 = .ok (.ireturn, 1) := by decide +kernel
theorem dX10_rests_20 : decode cX10_rests 20 = .ok (.aload_n 0, 1) := by decide +kernel
theorem dX10_rests_21 : decode cX10_rests 21 = .ok (.getfield 57, 3) := by decide +kernel
theorem dX10_rests_24 : decode cX10_rests 24 = .ok (.iload_n 1, 1) := by decide +kernel
theorem dX10_rests_25 : decode cX10_rests 25 = .ok (.iload_n 2, 1) := by decide +kernel
theorem dX10_rests_26 : decode cX10_rests 26 = .ok (.aload_n 0, 1) := by decide +kernel
theorem dX10_rests_27 : decode cX10_rests 27 = .ok (.getfield 84, 3) := by decide +kernel
theorem dX10_rests_30 : decode cX10_rests 30 = .ok (.iload_n 3, 1) := by decide +kernel
theorem dX10_rests_31 : decode cX10_rests 31 = .ok (.invokevirtual 193, 3) := by decide +kernel
theorem dX10_rests_34 : decode cX10_rests 34 = .ok (.invokevirtual 310, 3) := by decide +kernel
theorem dX10_rests_37 : decode cX10_rests 37 = .ok (.aload_n 0, 1) := by decide +kernel
theorem dX10_rests_38 : decode cX10_rests 38 = .ok (.getfield 57, 3) := by decide +kernel
theorem dX10_rests_41 : decode cX10_rests 41 = .ok (.invokevirtual 320, 3) := by decide +kernel
theorem dX10_rests_44 : decode cX10_rests 44 = .ok (.ireturn, 1) := by decide +kernel
theorem dX10_rest_0 : decode cX10_rest 0 = .ok (.aload_n 0, 1) := by decide +kernel
theorem dX10_rest_1 : decode cX10_rest 1 = .ok (.aload_n 0, 1) := by decide +kernel
theorem dX10_rest_2 : decode cX10_rest 2 = .ok (.iload_n 1, 1) := by decide +kernel
theorem dX10_rest_3 : decode cX10_rest 3 = .ok (.iload_n 2, 1) := by decide +kernel
theorem dX10_rest_4 : decode cX10_rest 4 = .ok (.invokevirtual 304, 3) := by decide +kernel
theorem dX10_rest_7 : decode cX10_rest 7 = .ok (.aload_n 0, 1) := by decide +kernel
theorem dX10_rest_8 : decode cX10_rest 8 = .ok (.iload_n 3, 1) := by decide +kernel
theorem dX10_rest_9 : decode cX10_rest 9 = .ok (.invokevirtual 190, 3) := by decide +kernel
theorem dX10_rest_12 : decode cX10_rest 12 = .ok (.invokevirtual 116, 3) := by decide +kernel
theorem dX10_rest_15 : decode cX10_rest 15 = .ok (.ifCond .eq 5, 3) := by decide +kernel
theorem dX10_rest_18 : decode cX10_rest 18 = .ok (.iconst (-1), 1) := by decide +kernel
theorem dX10_rest_19 : decode cX10_rest 19 = .ok (.ireturn, 1) := by decide +kernel
theorem dX10_rest_20 : decode cX10_rest 20 = .ok (.aload_n 0, 1) := by decide +kernel
theorem dX10_rest_21 : decode cX10_rest 21 = .ok (.getfield 57, 3) := by decide +kernel
theorem dX10_rest_24 : decode cX10_rest 24 = .ok (.iload_n 1, 1) := by decide +kernel
theorem dX10_rest_25 : decode cX10_rest 25 = .ok (.iload_n 2, 1) := by decide +kernel
theorem dX10_rest_26 : decode cX10_rest 26 = .ok (.aload_n 0, 1) := by decide +kernel
theorem dX10_rest_27 : decode cX10_rest 27 = .ok (.getfield 84, 3) := by decide +kernel
theorem dX10_rest_30 : decode cX10_rest 30 = .ok (.iload_n 3, 1) := by decide +kernel
theorem dX10_rest_31 : decode cX10_rest 31 = .ok (.invokevirtual 193, 3) := by decide +kernel
theorem dX10_rest_34 : decode cX10_rest 34 = .ok (.invokevirtual 310, 3) := by decide +kernel
theorem dX10_rest_37 : decode cX10_rest 37 = .ok (.aload_n 0, 1) := by decide +kernel
theorem dX10_rest_38 : decode cX10_rest 38 = .ok (.getfield 57, 3) := by decide +kernel
theorem dX10_rest_41 : decode cX10_rest 41 = .ok (.invokevirtual 323, 3) := by decide +kernel
theorem dX10_rest_44 : decode cX10_rest 44 = .ok (.ireturn, 1) := by decide +kernel
theorem dX10_day_0 : decode cX10_day 0 = .ok (.aload_n 0, 1) := by decide +kernel
theorem dX10_day_1 : decode cX10_day 1 = .ok (.aload_n 0, 1) := by decide +kernel
theorem dX10_day_2 : decode cX10_day 2 = .ok (.invokevirtual 186, 3) := by decide +kernel
theorem dX10_day_5 : decode cX10_day 5 = .ok (.aload_n 0, 1) := by decide +kernel
theorem dX10_day_6 : decode cX10_day 6 = .ok (.iload_n 1, 1) := by decide +kernel
theorem dX10_day_7 : decode cX10_day 7 = .ok (.iload_n 2, 1) := by decide +kernel
theorem dX10_day_8 : decode cX10_day 8 = .ok (.invokevirtual 326, 3) := by decide +kernel
theorem dX10_day_11 : decode cX10_day 11 = .ok (.invokevirtual 116, 3) := by decide +kernel
theorem dX10_day_14 : decode cX10_day 14 = .ok (.ifCond .eq 5, 3) := by decide +kernel
theorem dX10_day_17 : decode cX10_day 17 = .ok (.iconst (-1), 1) := by decide +kernel
theorem dX10_day_18 : decode cX10_day 18 = .ok (.ireturn, 1) := by decide +kernel
theorem dX10_day_19 : decode cX10_day 19 = .ok (.aload_n 0, 1) := by decide +kernel
theorem dX10_day_20 : decode cX10_day 20 = .ok (.getfield 64, 3) := by decide +kernel
theorem dX10_day_23 : decode cX10_day 23 = .ok (.iload_n 1, 1) := by decide +kernel
theorem dX10_day_24 : decode cX10_day 24 = .ok (.iload_n 2, 1) := by decide +kernel
theorem dX10_day_25 : decode cX10_day 25 = .ok (.invokevirtual 329, 3) := by decide +kernel
theorem dX10_day_28 : decode cX10_day 28 = .ok (.ireturn, 1) := by decide +kernel
theorem dX10_crossedIn_0 : decode cX10_crossedIn 0 = .ok (.aload_n 0, 1) := by decide +kernel
theorem dX10_crossedIn_1 : decode cX10_crossedIn 1 = .ok (.aload_n 0, 1) := by decide +kernel
theorem dX10_crossedIn_2 : decode cX10_crossedIn 2 = .ok (.iload_n 1, 1) := by decide +kernel
theorem dX10_crossedIn_3 : decode cX10_crossedIn 3 = .ok (.invokevirtual 168, 3) := by decide +kernel
theorem dX10_crossedIn_6 : decode cX10_crossedIn 6 = .ok (.aload_n 0, 1) := by decide +kernel
theorem dX10_crossedIn_7 : decode cX10_crossedIn 7 = .ok (.iload_n 2, 1) := by decide +kernel
theorem dX10_crossedIn_8 : decode cX10_crossedIn 8 = .ok (.iload_n 3, 1) := by decide +kernel
theorem dX10_crossedIn_9 : decode cX10_crossedIn 9 = .ok (.invokevirtual 326, 3) := by decide +kernel
theorem dX10_crossedIn_12 : decode cX10_crossedIn 12 = .ok (.invokevirtual 116, 3) := by decide +kernel
theorem dX10_crossedIn_15 : decode cX10_crossedIn 15 = .ok (.ifCond .eq 5, 3) := by decide +kernel
theorem dX10_crossedIn_18 : decode cX10_crossedIn 18 = .ok (.iconst (-1), 1) := by decide +kernel
theorem dX10_crossedIn_19 : decode cX10_crossedIn 19 = .ok (.ireturn, 1) := by decide +kernel
theorem dX10_crossedIn_20 : decode cX10_crossedIn 20 = .ok (.aload_n 0, 1) := by decide +kernel
theorem dX10_crossedIn_21 : decode cX10_crossedIn 21 = .ok (.getfield 64, 3) := by decide +kernel
theorem dX10_crossedIn_24 : decode cX10_crossedIn 24 = .ok (.iload_n 2, 1) := by decide +kernel
theorem dX10_crossedIn_25 : decode cX10_crossedIn 25 = .ok (.iload_n 3, 1) := by decide +kernel
theorem dX10_crossedIn_26 : decode cX10_crossedIn 26 = .ok (.invokevirtual 329, 3) := by decide +kernel
theorem dX10_crossedIn_29 : decode cX10_crossedIn 29 = .ok (.pop, 1) := by decide +kernel
theorem dX10_crossedIn_30 : decode cX10_crossedIn 30 = .ok (.aload_n 0, 1) := by decide +kernel
theorem dX10_crossedIn_31 : decode cX10_crossedIn 31 = .ok (.getfield 64, 3) := by decide +kernel
theorem dX10_crossedIn_34 : decode cX10_crossedIn 34 = .ok (.getfield 332, 3) := by decide +kernel
theorem dX10_crossedIn_37 : decode cX10_crossedIn 37 = .ok (.iload_n 1, 1) := by decide +kernel
theorem dX10_crossedIn_38 : decode cX10_crossedIn 38 = .ok (.iaload, 1) := by decide +kernel
theorem dX10_crossedIn_39 : decode cX10_crossedIn 39 = .ok (.ireturn, 1) := by decide +kernel
theorem dX10_cross_0 : decode cX10_cross 0 = .ok (.aload_n 0, 1) := by decide +kernel
theorem dX10_cross_1 : decode cX10_cross 1 = .ok (.aload_n 0, 1) := by decide +kernel
theorem dX10_cross_2 : decode cX10_cross 2 = .ok (.iload_n 1, 1) := by decide +kernel
theorem dX10_cross_3 : decode cX10_cross 3 = .ok (.iload_n 2, 1) := by decide +kernel
theorem dX10_cross_4 : decode cX10_cross 4 = .ok (.invokevirtual 196, 3) := by decide +kernel
theorem dX10_cross_7 : decode cX10_cross 7 = .ok (.iconst 1, 1) := by decide +kernel
theorem dX10_cross_8 : decode cX10_cross 8 = .ok (.invokevirtual 116, 3) := by decide +kernel
theorem dX10_cross_11 : decode cX10_cross 11 = .ok (.ifCond .eq 5, 3) := by decide +kernel
theorem dX10_cross_14 : decode cX10_cross 14 = .ok (.iconst (-1), 1) := by decide +kernel
theorem dX10_cross_15 : decode cX10_cross 15 = .ok (.ireturn, 1) := by decide +kernel
theorem dX10_cross_16 : decode cX10_cross 16 = .ok (.aload_n 0, 1) := by decide +kernel
theorem dX10_cross_17 : decode cX10_cross 17 = .ok (.getfield 25, 3) := by decide +kernel
theorem dX10_cross_20 : decode cX10_cross 20 = .ok (.iload_n 1, 1) := by decide +kernel
theorem dX10_cross_21 : decode cX10_cross 21 = .ok (.iload_n 2, 1) := by decide +kernel
theorem dX10_cross_22 : decode cX10_cross 22 = .ok (.aload_n 0, 1) := by decide +kernel
theorem dX10_cross_23 : decode cX10_cross 23 = .ok (.getfield 84, 3) := by decide +kernel
theorem dX10_cross_26 : decode cX10_cross 26 = .ok (.aload_n 0, 1) := by decide +kernel
theorem dX10_cross_27 : decode cX10_cross 27 = .ok (.getfield 16, 3) := by decide +kernel
theorem dX10_cross_30 : decode cX10_cross 30 = .ok (.getfield 335, 3) := by decide +kernel
theorem dX10_cross_33 : decode cX10_cross 33 = .ok (.invokevirtual 193, 3) := by decide +kernel
theorem dX10_cross_36 : decode cX10_cross 36 = .ok (.invokevirtual 200, 3) := by decide +kernel
theorem dX10_cross_39 : decode cX10_cross 39 = .ok (.istore_n 3, 1) := by decide +kernel
theorem dX10_cross_40 : decode cX10_cross 40 = .ok (.aload_n 0, 1) := by decide +kernel
theorem dX10_cross_41 : decode cX10_cross 41 = .ok (.getfield 16, 3) := by decide +kernel
theorem dX10_cross_44 : decode cX10_cross 44 = .ok (.iload_n 1, 1) := by decide +kernel
theorem dX10_cross_45 : decode cX10_cross 45 = .ok (.invokevirtual 174, 3) := by decide +kernel
theorem dX10_cross_48 : decode cX10_cross 48 = .ok (.aload_n 0, 1) := by decide +kernel
theorem dX10_cross_49 : decode cX10_cross 49 = .ok (.getfield 16, 3) := by decide +kernel
theorem dX10_cross_52 : decode cX10_cross 52 = .ok (.iload_n 2, 1) := by decide +kernel
theorem dX10_cross_53 : decode cX10_cross 53 = .ok (.invokevirtual 174, 3) := by decide +kernel
theorem dX10_cross_56 : decode cX10_cross 56 = .ok (.if_icmp .ne 7, 3) := by decide +kernel
theorem dX10_cross_59 : decode cX10_cross 59 = .ok (.iload_n 3, 1) := by decide +kernel
theorem dX10_cross_60 : decode cX10_cross 60 = .ok (.ifCond .ne 9, 3) := by decide +kernel
theorem dX10_cross_63 : decode cX10_cross 63 = .ok (.aload_n 0, 1) := by decide +kernel
theorem dX10_cross_64 : decode cX10_cross 64 = .ok (.iconst 5, 1) := by decide +kernel
theorem dX10_cross_65 : decode cX10_cross 65 = .ok (.invokevirtual 128, 3) := by decide +kernel
theorem dX10_cross_68 : decode cX10_cross 68 = .ok (.ireturn, 1) := by decide +kernel
theorem dX10_cross_69 : decode cX10_cross 69 = .ok (.aload_n 0, 1) := by decide +kernel
theorem dX10_cross_70 : decode cX10_cross 70 = .ok (.getfield 73, 3) := by decide +kernel
theorem dX10_cross_73 : decode cX10_cross 73 = .ok (.aload_n 0, 1) := by decide +kernel
theorem dX10_cross_74 : decode cX10_cross 74 = .ok (.getfield 16, 3) := by decide +kernel
theorem dX10_cross_77 : decode cX10_cross 77 = .ok (.invokevirtual 338, 3) := by decide +kernel
theorem dX10_cross_80 : decode cX10_cross 80 = .ok (.aload_n 0, 1) := by decide +kernel
theorem dX10_cross_81 : decode cX10_cross 81 = .ok (.getfield 16, 3) := by decide +kernel
theorem dX10_cross_84 : decode cX10_cross 84 = .ok (.iload_n 1, 1) := by decide +kernel
theorem dX10_cross_85 : decode cX10_cross 85 = .ok (.invokevirtual 341, 3) := by decide +kernel
theorem dX10_cross_88 : decode cX10_cross 88 = .ok (.aload_n 0, 1) := by decide +kernel
theorem dX10_cross_89 : decode cX10_cross 89 = .ok (.getfield 16, 3) := by decide +kernel
theorem dX10_cross_92 : decode cX10_cross 92 = .ok (.iload_n 2, 1) := by decide +kernel
theorem dX10_cross_93 : decode cX10_cross 93 = .ok (.invokevirtual 341, 3) := by decide +kernel
theorem dX10_cross_96 : decode cX10_cross 96 = .ok (.iload_n 3, 1) := by decide +kernel
theorem dX10_cross_97 : decode cX10_cross 97 = .ok (.iconst 1, 1) := by decide +kernel
theorem dX10_cross_98 : decode cX10_cross 98 = .ok (.if_icmp .ne 29, 3) := by decide +kernel
theorem dX10_cross_101 : decode cX10_cross 101 = .ok (.aload_n 0, 1) := by decide +kernel
theorem dX10_cross_102 : decode cX10_cross 102 = .ok (.getfield 16, 3) := by decide +kernel
theorem dX10_cross_105 : decode cX10_cross 105 = .ok (.getfield 180, 3) := by decide +kernel
theorem dX10_cross_108 : decode cX10_cross 108 = .ok (.iload_n 1, 1) := by decide +kernel
theorem dX10_cross_109 : decode cX10_cross 109 = .ok (.dup2, 1) := by decide +kernel
theorem dX10_cross_110 : decode cX10_cross 110 = .ok (.iaload, 1) := by decide +kernel
theorem dX10_cross_111 : decode cX10_cross 111 = .ok (.iconst 1, 1) := by decide +kernel
theorem dX10_cross_112 : decode cX10_cross 112 = .ok (.iadd, 1) := by decide +kernel
theorem dX10_cross_113 : decode cX10_cross 113 = .ok (.iastore, 1) := by decide +kernel
theorem dX10_cross_114 : decode cX10_cross 114 = .ok (.aload_n 0, 1) := by decide +kernel
theorem dX10_cross_115 : decode cX10_cross 115 = .ok (.getfield 16, 3) := by decide +kernel
theorem dX10_cross_118 : decode cX10_cross 118 = .ok (.getfield 180, 3) := by decide +kernel
theorem dX10_cross_121 : decode cX10_cross 121 = .ok (.iload_n 2, 1) := by decide +kernel
theorem dX10_cross_122 : decode cX10_cross 122 = .ok (.dup2, 1) := by decide +kernel
theorem dX10_cross_123 : decode cX10_cross 123 = .ok (.iaload, 1) := by decide +kernel
theorem dX10_cross_124 : decode cX10_cross 124 = .ok (.iconst 1, 1) := by decide +kernel
theorem dX10_cross_125 : decode cX10_cross 125 = .ok (.iadd, 1) := by decide +kernel
theorem dX10_cross_126 : decode cX10_cross 126 = .ok (.iastore, 1) := by decide +kernel
theorem dX10_cross_127 : decode cX10_cross 127 = .ok (.iload_n 3, 1) := by decide +kernel
theorem dX10_cross_128 : decode cX10_cross 128 = .ok (.ireturn, 1) := by decide +kernel
theorem dX10_buy_0 : decode cX10_buy 0 = .ok (.aload_n 0, 1) := by decide +kernel
theorem dX10_buy_1 : decode cX10_buy 1 = .ok (.aload_n 0, 1) := by decide +kernel
theorem dX10_buy_2 : decode cX10_buy 2 = .ok (.iload_n 1, 1) := by decide +kernel
theorem dX10_buy_3 : decode cX10_buy 3 = .ok (.invokevirtual 168, 3) := by decide +kernel
theorem dX10_buy_6 : decode cX10_buy 6 = .ok (.ifCond .eq 15, 3) := by decide +kernel
theorem dX10_buy_9 : decode cX10_buy 9 = .ok (.aload_n 0, 1) := by decide +kernel
theorem dX10_buy_10 : decode cX10_buy 10 = .ok (.iload_n 2, 1) := by decide +kernel
theorem dX10_buy_11 : decode cX10_buy 11 = .ok (.invokevirtual 145, 3) := by decide +kernel
theorem dX10_buy_14 : decode cX10_buy 14 = .ok (.ifCond .eq 7, 3) := by decide +kernel
theorem dX10_buy_17 : decode cX10_buy 17 = .ok (.iconst 1, 1) := by decide +kernel
theorem dX10_buy_18 : decode cX10_buy 18 = .ok (.goto 4, 3) := by decide +kernel
theorem dX10_buy_21 : decode cX10_buy 21 = .ok (.iconst 0, 1) := by decide +kernel
theorem dX10_buy_22 : decode cX10_buy 22 = .ok (.iconst 1, 1) := by decide +kernel
theorem dX10_buy_23 : decode cX10_buy 23 = .ok (.invokevirtual 116, 3) := by decide +kernel
theorem dX10_buy_26 : decode cX10_buy 26 = .ok (.ifCond .eq 5, 3) := by decide +kernel
theorem dX10_buy_29 : decode cX10_buy 29 = .ok (.iconst (-1), 1) := by decide +kernel
theorem dX10_buy_30 : decode cX10_buy 30 = .ok (.ireturn, 1) := by decide +kernel
theorem dX10_buy_31 : decode cX10_buy 31 = .ok (.aload_n 0, 1) := by decide +kernel
theorem dX10_buy_32 : decode cX10_buy 32 = .ok (.getfield 16, 3) := by decide +kernel
theorem dX10_buy_35 : decode cX10_buy 35 = .ok (.iload_n 1, 1) := by decide +kernel
theorem dX10_buy_36 : decode cX10_buy 36 = .ok (.iload_n 2, 1) := by decide +kernel
theorem dX10_buy_37 : decode cX10_buy 37 = .ok (.invokevirtual 344, 3) := by decide +kernel
theorem dX10_buy_40 : decode cX10_buy 40 = .ok (.ifCond .eq 9, 3) := by decide +kernel
theorem dX10_buy_43 : decode cX10_buy 43 = .ok (.aload_n 0, 1) := by decide +kernel
theorem dX10_buy_44 : decode cX10_buy 44 = .ok (.iconst 5, 1) := by decide +kernel
theorem dX10_buy_45 : decode cX10_buy 45 = .ok (.invokevirtual 128, 3) := by decide +kernel
theorem dX10_buy_48 : decode cX10_buy 48 = .ok (.ireturn, 1) := by decide +kernel
theorem dX10_buy_49 : decode cX10_buy 49 = .ok (.aload_n 0, 1) := by decide +kernel
theorem dX10_buy_50 : decode cX10_buy 50 = .ok (.getfield 73, 3) := by decide +kernel
theorem dX10_buy_53 : decode cX10_buy 53 = .ok (.aload_n 0, 1) := by decide +kernel
theorem dX10_buy_54 : decode cX10_buy 54 = .ok (.getfield 16, 3) := by decide +kernel
theorem dX10_buy_57 : decode cX10_buy 57 = .ok (.invokevirtual 338, 3) := by decide +kernel
theorem dX10_buy_60 : decode cX10_buy 60 = .ok (.aload_n 0, 1) := by decide +kernel
theorem dX10_buy_61 : decode cX10_buy 61 = .ok (.getfield 16, 3) := by decide +kernel
theorem dX10_buy_64 : decode cX10_buy 64 = .ok (.getfield 177, 3) := by decide +kernel
theorem dX10_buy_67 : decode cX10_buy 67 = .ok (.iload_n 1, 1) := by decide +kernel
theorem dX10_buy_68 : decode cX10_buy 68 = .ok (.dup2, 1) := by decide +kernel
theorem dX10_buy_69 : decode cX10_buy 69 = .ok (.iaload, 1) := by decide +kernel
theorem dX10_buy_70 : decode cX10_buy 70 = .ok (.iconst 1, 1) := by decide +kernel
theorem dX10_buy_71 : decode cX10_buy 71 = .ok (.iload_n 2, 1) := by decide +kernel
theorem dX10_buy_72 : decode cX10_buy 72 = .ok (.ishl, 1) := by decide +kernel
theorem dX10_buy_73 : decode cX10_buy 73 = .ok (.ior, 1) := by decide +kernel
theorem dX10_buy_74 : decode cX10_buy 74 = .ok (.iastore, 1) := by decide +kernel
theorem dX10_buy_75 : decode cX10_buy 75 = .ok (.aload_n 0, 1) := by decide +kernel
theorem dX10_buy_76 : decode cX10_buy 76 = .ok (.getfield 16, 3) := by decide +kernel
theorem dX10_buy_79 : decode cX10_buy 79 = .ok (.dup, 1) := by decide +kernel
theorem dX10_buy_80 : decode cX10_buy 80 = .ok (.getfield 347, 3) := by decide +kernel
theorem dX10_buy_83 : decode cX10_buy 83 = .ok (.aload_n 0, 1) := by decide +kernel
theorem dX10_buy_84 : decode cX10_buy 84 = .ok (.getfield 84, 3) := by decide +kernel
theorem dX10_buy_87 : decode cX10_buy 87 = .ok (.getfield 149, 3) := by decide +kernel
theorem dX10_buy_90 : decode cX10_buy 90 = .ok (.iload_n 2, 1) := by decide +kernel
theorem dX10_buy_91 : decode cX10_buy 91 = .ok (.iaload, 1) := by decide +kernel
theorem dX10_buy_92 : decode cX10_buy 92 = .ok (.iadd, 1) := by decide +kernel
theorem dX10_buy_93 : decode cX10_buy 93 = .ok (.putfield 347, 3) := by decide +kernel
theorem dX10_buy_96 : decode cX10_buy 96 = .ok (.aload_n 0, 1) := by decide +kernel
theorem dX10_buy_97 : decode cX10_buy 97 = .ok (.getfield 16, 3) := by decide +kernel
theorem dX10_buy_100 : decode cX10_buy 100 = .ok (.getfield 347, 3) := by decide +kernel
theorem dX10_buy_103 : decode cX10_buy 103 = .ok (.ireturn, 1) := by decide +kernel
theorem dX10_hours_0 : decode cX10_hours 0 = .ok (.aload_n 0, 1) := by decide +kernel
theorem dX10_hours_1 : decode cX10_hours 1 = .ok (.aload_n 0, 1) := by decide +kernel
theorem dX10_hours_2 : decode cX10_hours 2 = .ok (.invokevirtual 186, 3) := by decide +kernel
theorem dX10_hours_5 : decode cX10_hours 5 = .ok (.iload_n 1, 1) := by decide +kernel
theorem dX10_hours_6 : decode cX10_hours 6 = .ok (.iconst 1, 1) := by decide +kernel
theorem dX10_hours_7 : decode cX10_hours 7 = .ok (.if_icmp .lt 13, 3) := by decide +kernel
theorem dX10_hours_10 : decode cX10_hours 10 = .ok (.iload_n 1, 1) := by decide +kernel
theorem dX10_hours_11 : decode cX10_hours 11 = .ok (.bipush 24, 2) := by decide +kernel
theorem dX10_hours_13 : decode cX10_hours 13 = .ok (.if_icmp .ge 7, 3) := by decide +kernel
theorem dX10_hours_16 : decode cX10_hours 16 = .ok (.iconst 1, 1) := by decide +kernel
theorem dX10_hours_17 : decode cX10_hours 17 = .ok (.goto 4, 3) := by decide +kernel
theorem dX10_hours_20 : decode cX10_hours 20 = .ok (.iconst 0, 1) := by decide +kernel
theorem dX10_hours_21 : decode cX10_hours 21 = .ok (.invokevirtual 116, 3) := by decide +kernel
theorem dX10_hours_24 : decode cX10_hours 24 = .ok (.ifCond .eq 5, 3) := by decide +kernel
theorem dX10_hours_27 : decode cX10_hours 27 = .ok (.iconst (-1), 1) := by decide +kernel
theorem dX10_hours_28 : decode cX10_hours 28 = .ok (.ireturn, 1) := by decide +kernel
theorem dX10_hours_29 : decode cX10_hours 29 = .ok (.aload_n 0, 1) := by decide +kernel
theorem dX10_hours_30 : decode cX10_hours 30 = .ok (.getfield 73, 3) := by decide +kernel
theorem dX10_hours_33 : decode cX10_hours 33 = .ok (.aload_n 0, 1) := by decide +kernel
theorem dX10_hours_34 : decode cX10_hours 34 = .ok (.getfield 16, 3) := by decide +kernel
theorem dX10_hours_37 : decode cX10_hours 37 = .ok (.invokevirtual 338, 3) := by decide +kernel
theorem dX10_hours_40 : decode cX10_hours 40 = .ok (.aload_n 0, 1) := by decide +kernel
theorem dX10_hours_41 : decode cX10_hours 41 = .ok (.getfield 16, 3) := by decide +kernel
theorem dX10_hours_44 : decode cX10_hours 44 = .ok (.aload_n 0, 1) := by decide +kernel
theorem dX10_hours_45 : decode cX10_hours 45 = .ok (.getfield 16, 3) := by decide +kernel
theorem dX10_hours_48 : decode cX10_hours 48 = .ok (.getfield 335, 3) := by decide +kernel
theorem dX10_hours_51 : decode cX10_hours 51 = .ok (.iload_n 1, 1) := by decide +kernel
theorem dX10_hours_52 : decode cX10_hours 52 = .ok (.iadd, 1) := by decide +kernel
theorem dX10_hours_53 : decode cX10_hours 53 = .ok (.bipush 24, 2) := by decide +kernel
theorem dX10_hours_55 : decode cX10_hours 55 = .ok (.irem, 1) := by decide +kernel
theorem dX10_hours_56 : decode cX10_hours 56 = .ok (.putfield 335, 3) := by decide +kernel
theorem dX10_hours_59 : decode cX10_hours 59 = .ok (.aload_n 0, 1) := by decide +kernel
theorem dX10_hours_60 : decode cX10_hours 60 = .ok (.getfield 16, 3) := by decide +kernel
theorem dX10_hours_63 : decode cX10_hours 63 = .ok (.getfield 335, 3) := by decide +kernel
theorem dX10_hours_66 : decode cX10_hours 66 = .ok (.ireturn, 1) := by decide +kernel
theorem dX10_undo_0 : decode cX10_undo 0 = .ok (.aload_n 0, 1) := by decide +kernel
theorem dX10_undo_1 : decode cX10_undo 1 = .ok (.aload_n 0, 1) := by decide +kernel
theorem dX10_undo_2 : decode cX10_undo 2 = .ok (.getfield 73, 3) := by decide +kernel
theorem dX10_undo_5 : decode cX10_undo 5 = .ok (.getfield 350, 3) := by decide +kernel
theorem dX10_undo_8 : decode cX10_undo 8 = .ok (.ifCond .ne 8, 3) := by decide +kernel
theorem dX10_undo_11 : decode cX10_undo 11 = .ok (.bipush 6, 2) := by decide +kernel
theorem dX10_undo_13 : decode cX10_undo 13 = .ok (.goto 4, 3) := by decide +kernel
theorem dX10_undo_16 : decode cX10_undo 16 = .ok (.iconst 0, 1) := by decide +kernel
theorem dX10_undo_17 : decode cX10_undo 17 = .ok (.putfield 110, 3) := by decide +kernel
theorem dX10_undo_20 : decode cX10_undo 20 = .ok (.aload_n 0, 1) := by decide +kernel
theorem dX10_undo_21 : decode cX10_undo 21 = .ok (.getfield 73, 3) := by decide +kernel
theorem dX10_undo_24 : decode cX10_undo 24 = .ok (.getfield 350, 3) := by decide +kernel
theorem dX10_undo_27 : decode cX10_undo 27 = .ok (.ifCond .ne 5, 3) := by decide +kernel
theorem dX10_undo_30 : decode cX10_undo 30 = .ok (.iconst 0, 1) := by decide +kernel
theorem dX10_undo_31 : decode cX10_undo 31 = .ok (.ireturn, 1) := by decide +kernel
theorem dX10_undo_32 : decode cX10_undo 32 = .ok (.aload_n 0, 1) := by decide +kernel
theorem dX10_undo_33 : decode cX10_undo 33 = .ok (.getfield 73, 3) := by decide +kernel
theorem dX10_undo_36 : decode cX10_undo 36 = .ok (.aload_n 0, 1) := by decide +kernel
theorem dX10_undo_37 : decode cX10_undo 37 = .ok (.getfield 16, 3) := by decide +kernel
theorem dX10_undo_40 : decode cX10_undo 40 = .ok (.invokevirtual 353, 3) := by decide +kernel
theorem dX10_undo_43 : decode cX10_undo 43 = .ok (.iconst 1, 1) := by decide +kernel
theorem dX10_undo_44 : decode cX10_undo 44 = .ok (.ireturn, 1) := by decide +kernel
theorem dX10_image_0 : decode cX10_image 0 = .ok (.aload_n 0, 1) := by decide +kernel
theorem dX10_image_1 : decode cX10_image 1 = .ok (.aload_n 0, 1) := by decide +kernel
theorem dX10_image_2 : decode cX10_image 2 = .ok (.invokevirtual 186, 3) := by decide +kernel
theorem dX10_image_5 : decode cX10_image 5 = .ok (.iconst 1, 1) := by decide +kernel
theorem dX10_image_6 : decode cX10_image 6 = .ok (.invokevirtual 116, 3) := by decide +kernel
theorem dX10_image_9 : decode cX10_image 9 = .ok (.ifCond .eq 5, 3) := by decide +kernel
theorem dX10_image_12 : decode cX10_image 12 = .ok (.iconst (-1), 1) := by decide +kernel
theorem dX10_image_13 : decode cX10_image 13 = .ok (.ireturn, 1) := by decide +kernel
theorem dX10_image_14 : decode cX10_image 14 = .ok (.aload_n 0, 1) := by decide +kernel
theorem dX10_image_15 : decode cX10_image 15 = .ok (.getfield 77, 3) := by decide +kernel
theorem dX10_image_18 : decode cX10_image 18 = .ok (.getfield 350, 3) := by decide +kernel
theorem dX10_image_21 : decode cX10_image 21 = .ok (.iconst 3, 1) := by decide +kernel
theorem dX10_image_22 : decode cX10_image 22 = .ok (.if_icmp .lt 9, 3) := by decide +kernel
theorem dX10_image_25 : decode cX10_image 25 = .ok (.aload_n 0, 1) := by decide +kernel
theorem dX10_image_26 : decode cX10_image 26 = .ok (.iconst 3, 1) := by decide +kernel
theorem dX10_image_27 : decode cX10_image 27 = .ok (.invokevirtual 128, 3) := by decide +kernel
theorem dX10_image_30 : decode cX10_image 30 = .ok (.ireturn, 1) := by decide +kernel
theorem dX10_image_31 : decode cX10_image 31 = .ok (.aload_n 0, 1) := by decide +kernel
theorem dX10_image_32 : decode cX10_image 32 = .ok (.getfield 77, 3) := by decide +kernel
theorem dX10_image_35 : decode cX10_image 35 = .ok (.aload_n 0, 1) := by decide +kernel
theorem dX10_image_36 : decode cX10_image 36 = .ok (.getfield 16, 3) := by decide +kernel
theorem dX10_image_39 : decode cX10_image 39 = .ok (.invokevirtual 338, 3) := by decide +kernel
theorem dX10_image_42 : decode cX10_image 42 = .ok (.aload_n 0, 1) := by decide +kernel
theorem dX10_image_43 : decode cX10_image 43 = .ok (.getfield 77, 3) := by decide +kernel
theorem dX10_image_46 : decode cX10_image 46 = .ok (.getfield 350, 3) := by decide +kernel
theorem dX10_image_49 : decode cX10_image 49 = .ok (.iconst 1, 1) := by decide +kernel
theorem dX10_image_50 : decode cX10_image 50 = .ok (.isub, 1) := by decide +kernel
theorem dX10_image_51 : decode cX10_image 51 = .ok (.ireturn, 1) := by decide +kernel
theorem dX10_back_0 : decode cX10_back 0 = .ok (.aload_n 0, 1) := by decide +kernel
theorem dX10_back_1 : decode cX10_back 1 = .ok (.iload_n 1, 1) := by decide +kernel
theorem dX10_back_2 : decode cX10_back 2 = .ok (.ifCond .lt 18, 3) := by decide +kernel
theorem dX10_back_5 : decode cX10_back 5 = .ok (.iload_n 1, 1) := by decide +kernel
theorem dX10_back_6 : decode cX10_back 6 = .ok (.aload_n 0, 1) := by decide +kernel
theorem dX10_back_7 : decode cX10_back 7 = .ok (.getfield 77, 3) := by decide +kernel
theorem dX10_back_10 : decode cX10_back 10 = .ok (.getfield 350, 3) := by decide +kernel
theorem dX10_back_13 : decode cX10_back 13 = .ok (.if_icmp .ge 7, 3) := by decide +kernel
theorem dX10_back_16 : decode cX10_back 16 = .ok (.iconst 1, 1) := by decide +kernel
theorem dX10_back_17 : decode cX10_back 17 = .ok (.goto 4, 3) := by decide +kernel
theorem dX10_back_20 : decode cX10_back 20 = .ok (.iconst 0, 1) := by decide +kernel
theorem dX10_back_21 : decode cX10_back 21 = .ok (.iconst 1, 1) := by decide +kernel
theorem dX10_back_22 : decode cX10_back 22 = .ok (.invokevirtual 116, 3) := by decide +kernel
theorem dX10_back_25 : decode cX10_back 25 = .ok (.ifCond .eq 5, 3) := by decide +kernel
theorem dX10_back_28 : decode cX10_back 28 = .ok (.iconst 0, 1) := by decide +kernel
theorem dX10_back_29 : decode cX10_back 29 = .ok (.ireturn, 1) := by decide +kernel
theorem dX10_back_30 : decode cX10_back 30 = .ok (.aload_n 0, 1) := by decide +kernel
theorem dX10_back_31 : decode cX10_back 31 = .ok (.getfield 77, 3) := by decide +kernel
theorem dX10_back_34 : decode cX10_back 34 = .ok (.iload_n 1, 1) := by decide +kernel
theorem dX10_back_35 : decode cX10_back 35 = .ok (.aload_n 0, 1) := by decide +kernel
theorem dX10_back_36 : decode cX10_back 36 = .ok (.getfield 16, 3) := by decide +kernel
theorem dX10_back_39 : decode cX10_back 39 = .ok (.invokevirtual 356, 3) := by decide +kernel
theorem dX10_back_42 : decode cX10_back 42 = .ok (.aload_n 0, 1) := by decide +kernel
theorem dX10_back_43 : decode cX10_back 43 = .ok (.getfield 73, 3) := by decide +kernel
theorem dX10_back_46 : decode cX10_back 46 = .ok (.invokevirtual 139, 3) := by decide +kernel
theorem dX10_back_49 : decode cX10_back 49 = .ok (.iconst 1, 1) := by decide +kernel
theorem dX10_back_50 : decode cX10_back 50 = .ok (.ireturn, 1) := by decide +kernel
theorem dX10_led_0 : decode cX10_led 0 = .ok (.iconst 0, 1) := by decide +kernel
theorem dX10_led_1 : decode cX10_led 1 = .ok (.istore_n 2, 1) := by decide +kernel
theorem dX10_led_2 : decode cX10_led 2 = .ok (.iconst 0, 1) := by decide +kernel
theorem dX10_led_3 : decode cX10_led 3 = .ok (.istore_n 3, 1) := by decide +kernel
theorem dX10_led_4 : decode cX10_led 4 = .ok (.iload_n 3, 1) := by decide +kernel
theorem dX10_led_5 : decode cX10_led 5 = .ok (.aload_n 0, 1) := by decide +kernel
theorem dX10_led_6 : decode cX10_led 6 = .ok (.getfield 84, 3) := by decide +kernel
theorem dX10_led_9 : decode cX10_led 9 = .ok (.getfield 142, 3) := by decide +kernel
theorem dX10_led_12 : decode cX10_led 12 = .ok (.if_icmp .ge 31, 3) := by decide +kernel
theorem dX10_led_15 : decode cX10_led 15 = .ok (.aload_n 0, 1) := by decide +kernel
theorem dX10_led_16 : decode cX10_led 16 = .ok (.getfield 16, 3) := by decide +kernel
theorem dX10_led_19 : decode cX10_led 19 = .ok (.getfield 180, 3) := by decide +kernel
theorem dX10_led_22 : decode cX10_led 22 = .ok (.iload_n 3, 1) := by decide +kernel
theorem dX10_led_23 : decode cX10_led 23 = .ok (.iaload, 1) := by decide +kernel
theorem dX10_led_24 : decode cX10_led 24 = .ok (.ifCond .le 13, 3) := by decide +kernel
theorem dX10_led_27 : decode cX10_led 27 = .ok (.iload_n 2, 1) := by decide +kernel
theorem dX10_led_28 : decode cX10_led 28 = .ok (.iload_n 1, 1) := by decide +kernel
theorem dX10_led_29 : decode cX10_led 29 = .ok (.if_icmp .ne 5, 3) := by decide +kernel
theorem dX10_led_32 : decode cX10_led 32 = .ok (.iload_n 3, 1) := by decide +kernel
theorem dX10_led_33 : decode cX10_led 33 = .ok (.ireturn, 1) := by decide +kernel
theorem dX10_led_34 : decode cX10_led 34 = .ok (.iinc 2 1, 3) := by decide +kernel
theorem dX10_led_37 : decode cX10_led 37 = .ok (.iinc 3 1, 3) := by decide +kernel
theorem dX10_led_40 : decode cX10_led 40 = .ok (.goto (-36), 3) := by decide +kernel
theorem dX10_led_43 : decode cX10_led 43 = .ok (.new 360, 3) := by decide +kernel
theorem dX10_led_46 : decode cX10_led 46 = .ok (.dup, 1) := by decide +kernel
theorem dX10_led_47 : decode cX10_led 47 = .ok (.invokespecial 362, 3) := by decide +kernel
theorem dX10_led_50 : decode cX10_led 50 = .ok (.athrow, 1) := by decide +kernel
theorem dX10_size_0 : decode cX10_size 0 = .ok (.iload_n 1, 1) := by decide +kernel
theorem dX10_size_1 : decode cX10_size 1 = .ok (.tableswitch 168 0 12 #[67, 75, 83, 91, 99, 107, 115, 123, 131, 139, 147, 155, 163], 67) := by decide +kernel
theorem dX10_size_68 : decode cX10_size 68 = .ok (.aload_n 0, 1) := by decide +kernel
theorem dX10_size_69 : decode cX10_size 69 = .ok (.getfield 84, 3) := by decide +kernel
theorem dX10_size_72 : decode cX10_size 72 = .ok (.getfield 263, 3) := by decide +kernel
theorem dX10_size_75 : decode cX10_size 75 = .ok (.ireturn, 1) := by decide +kernel
theorem dX10_size_76 : decode cX10_size 76 = .ok (.aload_n 0, 1) := by decide +kernel
theorem dX10_size_77 : decode cX10_size 77 = .ok (.getfield 84, 3) := by decide +kernel
theorem dX10_size_80 : decode cX10_size 80 = .ok (.getfield 363, 3) := by decide +kernel
theorem dX10_size_83 : decode cX10_size 83 = .ok (.ireturn, 1) := by decide +kernel
theorem dX10_size_84 : decode cX10_size 84 = .ok (.aload_n 0, 1) := by decide +kernel
theorem dX10_size_85 : decode cX10_size 85 = .ok (.getfield 84, 3) := by decide +kernel
theorem dX10_size_88 : decode cX10_size 88 = .ok (.getfield 366, 3) := by decide +kernel
theorem dX10_size_91 : decode cX10_size 91 = .ok (.ireturn, 1) := by decide +kernel
theorem dX10_size_92 : decode cX10_size 92 = .ok (.aload_n 0, 1) := by decide +kernel
theorem dX10_size_93 : decode cX10_size 93 = .ok (.getfield 84, 3) := by decide +kernel
theorem dX10_size_96 : decode cX10_size 96 = .ok (.getfield 142, 3) := by decide +kernel
theorem dX10_size_99 : decode cX10_size 99 = .ok (.ireturn, 1) := by decide +kernel
theorem dX10_size_100 : decode cX10_size 100 = .ok (.aload_n 0, 1) := by decide +kernel
theorem dX10_size_101 : decode cX10_size 101 = .ok (.getfield 84, 3) := by decide +kernel
theorem dX10_size_104 : decode cX10_size 104 = .ok (.getfield 369, 3) := by decide +kernel
theorem dX10_size_107 : decode cX10_size 107 = .ok (.ireturn, 1) := by decide +kernel
theorem dX10_size_108 : decode cX10_size 108 = .ok (.aload_n 0, 1) := by decide +kernel
theorem dX10_size_109 : decode cX10_size 109 = .ok (.getfield 84, 3) := by decide +kernel
theorem dX10_size_112 : decode cX10_size 112 = .ok (.invokevirtual 372, 3) := by decide +kernel
theorem dX10_size_115 : decode cX10_size 115 = .ok (.ireturn, 1) := by decide +kernel
theorem dX10_size_116 : decode cX10_size 116 = .ok (.aload_n 0, 1) := by decide +kernel
theorem dX10_size_117 : decode cX10_size 117 = .ok (.getfield 84, 3) := by decide +kernel
theorem dX10_size_120 : decode cX10_size 120 = .ok (.invokevirtual 375, 3) := by decide +kernel
theorem dX10_size_123 : decode cX10_size 123 = .ok (.ireturn, 1) := by decide +kernel
theorem dX10_size_124 : decode cX10_size 124 = .ok (.aload_n 0, 1) := by decide +kernel
theorem dX10_size_125 : decode cX10_size 125 = .ok (.getfield 84, 3) := by decide +kernel
theorem dX10_size_128 : decode cX10_size 128 = .ok (.getfield 378, 3) := by decide +kernel
theorem dX10_size_131 : decode cX10_size 131 = .ok (.ireturn, 1) := by decide +kernel
theorem dX10_size_132 : decode cX10_size 132 = .ok (.aload_n 0, 1) := by decide +kernel
theorem dX10_size_133 : decode cX10_size 133 = .ok (.getfield 16, 3) := by decide +kernel
theorem dX10_size_136 : decode cX10_size 136 = .ok (.getfield 335, 3) := by decide +kernel
theorem dX10_size_139 : decode cX10_size 139 = .ok (.ireturn, 1) := by decide +kernel
theorem dX10_size_140 : decode cX10_size 140 = .ok (.aload_n 0, 1) := by decide +kernel
theorem dX10_size_141 : decode cX10_size 141 = .ok (.getfield 16, 3) := by decide +kernel
theorem dX10_size_144 : decode cX10_size 144 = .ok (.getfield 347, 3) := by decide +kernel
theorem dX10_size_147 : decode cX10_size 147 = .ok (.ireturn, 1) := by decide +kernel
theorem dX10_size_148 : decode cX10_size 148 = .ok (.aload_n 0, 1) := by decide +kernel
theorem dX10_size_149 : decode cX10_size 149 = .ok (.getfield 73, 3) := by decide +kernel
theorem dX10_size_152 : decode cX10_size 152 = .ok (.getfield 350, 3) := by decide +kernel
theorem dX10_size_155 : decode cX10_size 155 = .ok (.ireturn, 1) := by decide +kernel
theorem dX10_size_156 : decode cX10_size 156 = .ok (.aload_n 0, 1) := by decide +kernel
theorem dX10_size_157 : decode cX10_size 157 = .ok (.getfield 77, 3) := by decide +kernel
theorem dX10_size_160 : decode cX10_size 160 = .ok (.getfield 350, 3) := by decide +kernel
theorem dX10_size_163 : decode cX10_size 163 = .ok (.ireturn, 1) := by decide +kernel
theorem dX10_size_164 : decode cX10_size 164 = .ok (.aload_n 0, 1) := by decide +kernel
theorem dX10_size_165 : decode cX10_size 165 = .ok (.getfield 100, 3) := by decide +kernel
theorem dX10_size_168 : decode cX10_size 168 = .ok (.ireturn, 1) := by decide +kernel
theorem dX10_size_169 : decode cX10_size 169 = .ok (.iconst (-1), 1) := by decide +kernel
theorem dX10_size_170 : decode cX10_size 170 = .ok (.ireturn, 1) := by decide +kernel
theorem dX10_trouble_0 : decode cX10_trouble 0 = .ok (.aload_n 0, 1) := by decide +kernel
theorem dX10_trouble_1 : decode cX10_trouble 1 = .ok (.getfield 110, 3) := by decide +kernel
theorem dX10_trouble_4 : decode cX10_trouble 4 = .ok (.ireturn, 1) := by decide +kernel
theorem dX10_refused_0 : decode cX10_refused 0 = .ok (.aload_n 0, 1) := by decide +kernel
theorem dX10_refused_1 : decode cX10_refused 1 = .ok (.iload_n 1, 1) := by decide +kernel
theorem dX10_refused_2 : decode cX10_refused 2 = .ok (.ifCond .ne 7, 3) := by decide +kernel
theorem dX10_refused_5 : decode cX10_refused 5 = .ok (.iconst 1, 1) := by decide +kernel
theorem dX10_refused_6 : decode cX10_refused 6 = .ok (.goto 12, 3) := by decide +kernel
theorem dX10_refused_9 : decode cX10_refused 9 = .ok (.iload_n 2, 1) := by decide +kernel
theorem dX10_refused_10 : decode cX10_refused 10 = .ok (.ifCond .ne 7, 3) := by decide +kernel
theorem dX10_refused_13 : decode cX10_refused 13 = .ok (.iconst 2, 1) := by decide +kernel
theorem dX10_refused_14 : decode cX10_refused 14 = .ok (.goto 4, 3) := by decide +kernel
theorem dX10_refused_17 : decode cX10_refused 17 = .ok (.iconst 0, 1) := by decide +kernel
theorem dX10_refused_18 : decode cX10_refused 18 = .ok (.putfield 110, 3) := by decide +kernel
theorem dX10_refused_21 : decode cX10_refused 21 = .ok (.aload_n 0, 1) := by decide +kernel
theorem dX10_refused_22 : decode cX10_refused 22 = .ok (.getfield 110, 3) := by decide +kernel
theorem dX10_refused_25 : decode cX10_refused 25 = .ok (.ifCond .eq 7, 3) := by decide +kernel
theorem dX10_refused_28 : decode cX10_refused 28 = .ok (.iconst 1, 1) := by decide +kernel
theorem dX10_refused_29 : decode cX10_refused 29 = .ok (.goto 4, 3) := by decide +kernel
theorem dX10_refused_32 : decode cX10_refused 32 = .ok (.iconst 0, 1) := by decide +kernel
theorem dX10_refused_33 : decode cX10_refused 33 = .ok (.ireturn, 1) := by decide +kernel
theorem dX10_refuse_0 : decode cX10_refuse 0 = .ok (.aload_n 0, 1) := by decide +kernel
theorem dX10_refuse_1 : decode cX10_refuse 1 = .ok (.iload_n 1, 1) := by decide +kernel
theorem dX10_refuse_2 : decode cX10_refuse 2 = .ok (.putfield 110, 3) := by decide +kernel
theorem dX10_refuse_5 : decode cX10_refuse 5 = .ok (.iconst (-1), 1) := by decide +kernel
theorem dX10_refuse_6 : decode cX10_refuse 6 = .ok (.ireturn, 1) := by decide +kernel
theorem dX10_hasFerry_0 : decode cX10_hasFerry 0 = .ok (.aload_n 0, 1) := by decide +kernel
theorem dX10_hasFerry_1 : decode cX10_hasFerry 1 = .ok (.getfield 84, 3) := by decide +kernel
theorem dX10_hasFerry_4 : decode cX10_hasFerry 4 = .ok (.getfield 142, 3) := by decide +kernel
theorem dX10_hasFerry_7 : decode cX10_hasFerry 7 = .ok (.ifCond .le 7, 3) := by decide +kernel
theorem dX10_hasFerry_10 : decode cX10_hasFerry 10 = .ok (.iconst 1, 1) := by decide +kernel
theorem dX10_hasFerry_11 : decode cX10_hasFerry 11 = .ok (.goto 4, 3) := by decide +kernel
theorem dX10_hasFerry_14 : decode cX10_hasFerry 14 = .ok (.iconst 0, 1) := by decide +kernel
theorem dX10_hasFerry_15 : decode cX10_hasFerry 15 = .ok (.ireturn, 1) := by decide +kernel
theorem dX10_isWord_0 : decode cX10_isWord 0 = .ok (.iload_n 1, 1) := by decide +kernel
theorem dX10_isWord_1 : decode cX10_isWord 1 = .ok (.ifCond .lt 18, 3) := by decide +kernel
theorem dX10_isWord_4 : decode cX10_isWord 4 = .ok (.iload_n 1, 1) := by decide +kernel
theorem dX10_isWord_5 : decode cX10_isWord 5 = .ok (.aload_n 0, 1) := by decide +kernel
theorem dX10_isWord_6 : decode cX10_isWord 6 = .ok (.getfield 84, 3) := by decide +kernel
theorem dX10_isWord_9 : decode cX10_isWord 9 = .ok (.getfield 366, 3) := by decide +kernel
theorem dX10_isWord_12 : decode cX10_isWord 12 = .ok (.if_icmp .ge 7, 3) := by decide +kernel
theorem dX10_isWord_15 : decode cX10_isWord 15 = .ok (.iconst 1, 1) := by decide +kernel
theorem dX10_isWord_16 : decode cX10_isWord 16 = .ok (.goto 4, 3) := by decide +kernel
theorem dX10_isWord_19 : decode cX10_isWord 19 = .ok (.iconst 0, 1) := by decide +kernel
theorem dX10_isWord_20 : decode cX10_isWord 20 = .ok (.ireturn, 1) := by decide +kernel
theorem dX10_isTwoWords_0 : decode cX10_isTwoWords 0 = .ok (.aload_n 0, 1) := by decide +kernel
theorem dX10_isTwoWords_1 : decode cX10_isTwoWords 1 = .ok (.iload_n 1, 1) := by decide +kernel
theorem dX10_isTwoWords_2 : decode cX10_isTwoWords 2 = .ok (.invokevirtual 145, 3) := by decide +kernel
theorem dX10_isTwoWords_5 : decode cX10_isTwoWords 5 = .ok (.ifCond .eq 20, 3) := by decide +kernel
theorem dX10_isTwoWords_8 : decode cX10_isTwoWords 8 = .ok (.aload_n 0, 1) := by decide +kernel
theorem dX10_isTwoWords_9 : decode cX10_isTwoWords 9 = .ok (.iload_n 2, 1) := by decide +kernel
theorem dX10_isTwoWords_10 : decode cX10_isTwoWords 10 = .ok (.invokevirtual 145, 3) := by decide +kernel
theorem dX10_isTwoWords_13 : decode cX10_isTwoWords 13 = .ok (.ifCond .eq 12, 3) := by decide +kernel
theorem dX10_isTwoWords_16 : decode cX10_isTwoWords 16 = .ok (.iload_n 1, 1) := by decide +kernel
theorem dX10_isTwoWords_17 : decode cX10_isTwoWords 17 = .ok (.iload_n 2, 1) := by decide +kernel
theorem dX10_isTwoWords_18 : decode cX10_isTwoWords 18 = .ok (.if_icmp .eq 7, 3) := by decide +kernel
theorem dX10_isTwoWords_21 : decode cX10_isTwoWords 21 = .ok (.iconst 1, 1) := by decide +kernel
theorem dX10_isTwoWords_22 : decode cX10_isTwoWords 22 = .ok (.goto 4, 3) := by decide +kernel
theorem dX10_isTwoWords_25 : decode cX10_isTwoWords 25 = .ok (.iconst 0, 1) := by decide +kernel
theorem dX10_isTwoWords_26 : decode cX10_isTwoWords 26 = .ok (.ireturn, 1) := by decide +kernel
theorem dX10_isPerson_0 : decode cX10_isPerson 0 = .ok (.iload_n 1, 1) := by decide +kernel
theorem dX10_isPerson_1 : decode cX10_isPerson 1 = .ok (.ifCond .lt 18, 3) := by decide +kernel
theorem dX10_isPerson_4 : decode cX10_isPerson 4 = .ok (.iload_n 1, 1) := by decide +kernel
theorem dX10_isPerson_5 : decode cX10_isPerson 5 = .ok (.aload_n 0, 1) := by decide +kernel
theorem dX10_isPerson_6 : decode cX10_isPerson 6 = .ok (.getfield 84, 3) := by decide +kernel
theorem dX10_isPerson_9 : decode cX10_isPerson 9 = .ok (.getfield 142, 3) := by decide +kernel
theorem dX10_isPerson_12 : decode cX10_isPerson 12 = .ok (.if_icmp .ge 7, 3) := by decide +kernel
theorem dX10_isPerson_15 : decode cX10_isPerson 15 = .ok (.iconst 1, 1) := by decide +kernel
theorem dX10_isPerson_16 : decode cX10_isPerson 16 = .ok (.goto 4, 3) := by decide +kernel
theorem dX10_isPerson_19 : decode cX10_isPerson 19 = .ok (.iconst 0, 1) := by decide +kernel
theorem dX10_isPerson_20 : decode cX10_isPerson 20 = .ok (.ireturn, 1) := by decide +kernel
theorem dX10_isPair_0 : decode cX10_isPair 0 = .ok (.aload_n 0, 1) := by decide +kernel
theorem dX10_isPair_1 : decode cX10_isPair 1 = .ok (.iload_n 1, 1) := by decide +kernel
theorem dX10_isPair_2 : decode cX10_isPair 2 = .ok (.invokevirtual 168, 3) := by decide +kernel
theorem dX10_isPair_5 : decode cX10_isPair 5 = .ok (.ifCond .eq 20, 3) := by decide +kernel
theorem dX10_isPair_8 : decode cX10_isPair 8 = .ok (.aload_n 0, 1) := by decide +kernel
theorem dX10_isPair_9 : decode cX10_isPair 9 = .ok (.iload_n 2, 1) := by decide +kernel
theorem dX10_isPair_10 : decode cX10_isPair 10 = .ok (.invokevirtual 168, 3) := by decide +kernel
theorem dX10_isPair_13 : decode cX10_isPair 13 = .ok (.ifCond .eq 12, 3) := by decide +kernel
theorem dX10_isPair_16 : decode cX10_isPair 16 = .ok (.iload_n 1, 1) := by decide +kernel
theorem dX10_isPair_17 : decode cX10_isPair 17 = .ok (.iload_n 2, 1) := by decide +kernel
theorem dX10_isPair_18 : decode cX10_isPair 18 = .ok (.if_icmp .eq 7, 3) := by decide +kernel
theorem dX10_isPair_21 : decode cX10_isPair 21 = .ok (.iconst 1, 1) := by decide +kernel
theorem dX10_isPair_22 : decode cX10_isPair 22 = .ok (.goto 4, 3) := by decide +kernel
theorem dX10_isPair_25 : decode cX10_isPair 25 = .ok (.iconst 0, 1) := by decide +kernel
theorem dX10_isPair_26 : decode cX10_isPair 26 = .ok (.ireturn, 1) := by decide +kernel
theorem dX10_isBank_0 : decode cX10_isBank 0 = .ok (.aload_n 0, 1) := by decide +kernel
theorem dX10_isBank_1 : decode cX10_isBank 1 = .ok (.invokevirtual 186, 3) := by decide +kernel
theorem dX10_isBank_4 : decode cX10_isBank 4 = .ok (.ifCond .eq 16, 3) := by decide +kernel
theorem dX10_isBank_7 : decode cX10_isBank 7 = .ok (.iload_n 1, 1) := by decide +kernel
theorem dX10_isBank_8 : decode cX10_isBank 8 = .ok (.ifCond .eq 8, 3) := by decide +kernel
theorem dX10_isBank_11 : decode cX10_isBank 11 = .ok (.iload_n 1, 1) := by decide +kernel
theorem dX10_isBank_12 : decode cX10_isBank 12 = .ok (.iconst 1, 1) := by decide +kernel
theorem dX10_isBank_13 : decode cX10_isBank 13 = .ok (.if_icmp .ne 7, 3) := by decide +kernel
theorem dX10_isBank_16 : decode cX10_isBank 16 = .ok (.iconst 1, 1) := by decide +kernel
theorem dX10_isBank_17 : decode cX10_isBank 17 = .ok (.goto 4, 3) := by decide +kernel
theorem dX10_isBank_20 : decode cX10_isBank 20 = .ok (.iconst 0, 1) := by decide +kernel
theorem dX10_isBank_21 : decode cX10_isBank 21 = .ok (.ireturn, 1) := by decide +kernel
theorem dX10_isHour_0 : decode cX10_isHour 0 = .ok (.iload_n 1, 1) := by decide +kernel
theorem dX10_isHour_1 : decode cX10_isHour 1 = .ok (.ifCond .lt 13, 3) := by decide +kernel
theorem dX10_isHour_4 : decode cX10_isHour 4 = .ok (.iload_n 1, 1) := by decide +kernel
theorem dX10_isHour_5 : decode cX10_isHour 5 = .ok (.bipush 24, 2) := by decide +kernel
theorem dX10_isHour_7 : decode cX10_isHour 7 = .ok (.if_icmp .ge 7, 3) := by decide +kernel
theorem dX10_isHour_10 : decode cX10_isHour 10 = .ok (.iconst 1, 1) := by decide +kernel
theorem dX10_isHour_11 : decode cX10_isHour 11 = .ok (.goto 4, 3) := by decide +kernel
theorem dX10_isHour_14 : decode cX10_isHour 14 = .ok (.iconst 0, 1) := by decide +kernel
theorem dX10_isHour_15 : decode cX10_isHour 15 = .ok (.ireturn, 1) := by decide +kernel
theorem dX10_isPrice_0 : decode cX10_isPrice 0 = .ok (.iload_n 1, 1) := by decide +kernel
theorem dX10_isPrice_1 : decode cX10_isPrice 1 = .ok (.ifCond .lt 13, 3) := by decide +kernel
theorem dX10_isPrice_4 : decode cX10_isPrice 4 = .ok (.iload_n 1, 1) := by decide +kernel
theorem dX10_isPrice_5 : decode cX10_isPrice 5 = .ok (.bipush 10, 2) := by decide +kernel
theorem dX10_isPrice_7 : decode cX10_isPrice 7 = .ok (.if_icmp .ge 7, 3) := by decide +kernel
theorem dX10_isPrice_10 : decode cX10_isPrice 10 = .ok (.iconst 1, 1) := by decide +kernel
theorem dX10_isPrice_11 : decode cX10_isPrice 11 = .ok (.goto 4, 3) := by decide +kernel
theorem dX10_isPrice_14 : decode cX10_isPrice 14 = .ok (.iconst 0, 1) := by decide +kernel
theorem dX10_isPrice_15 : decode cX10_isPrice 15 = .ok (.ireturn, 1) := by decide +kernel
theorem dX10_isDay_0 : decode cX10_isDay 0 = .ok (.iload_n 1, 1) := by decide +kernel
theorem dX10_isDay_1 : decode cX10_isDay 1 = .ok (.ifCond .lt 24, 3) := by decide +kernel
theorem dX10_isDay_4 : decode cX10_isDay 4 = .ok (.iload_n 1, 1) := by decide +kernel
theorem dX10_isDay_5 : decode cX10_isDay 5 = .ok (.ldc_w 381, 3) := by decide +kernel
theorem dX10_isDay_8 : decode cX10_isDay 8 = .ok (.if_icmp .ge 17, 3) := by decide +kernel
theorem dX10_isDay_11 : decode cX10_isDay 11 = .ok (.iload_n 2, 1) := by decide +kernel
theorem dX10_isDay_12 : decode cX10_isDay 12 = .ok (.ifCond .lt 13, 3) := by decide +kernel
theorem dX10_isDay_15 : decode cX10_isDay 15 = .ok (.iload_n 2, 1) := by decide +kernel
theorem dX10_isDay_16 : decode cX10_isDay 16 = .ok (.bipush 24, 2) := by decide +kernel
theorem dX10_isDay_18 : decode cX10_isDay 18 = .ok (.if_icmp .gt 7, 3) := by decide +kernel
theorem dX10_isDay_21 : decode cX10_isDay 21 = .ok (.iconst 1, 1) := by decide +kernel
theorem dX10_isDay_22 : decode cX10_isDay 22 = .ok (.goto 4, 3) := by decide +kernel
theorem dX10_isDay_25 : decode cX10_isDay 25 = .ok (.iconst 0, 1) := by decide +kernel
theorem dX10_isDay_26 : decode cX10_isDay 26 = .ok (.ireturn, 1) := by decide +kernel
theorem dX10_append_0 : decode cX10_append 0 = .ok (.bipush 24, 2) := by decide +kernel
theorem dX10_append_2 : decode cX10_append 2 = .ok (.istore_n 2, 1) := by decide +kernel
theorem dX10_append_3 : decode cX10_append 3 = .ok (.iload_n 2, 1) := by decide +kernel
theorem dX10_append_4 : decode cX10_append 4 = .ok (.ifCond .lt 42, 3) := by decide +kernel
theorem dX10_append_7 : decode cX10_append 7 = .ok (.aload_n 0, 1) := by decide +kernel
theorem dX10_append_8 : decode cX10_append 8 = .ok (.getfield 100, 3) := by decide +kernel
theorem dX10_append_11 : decode cX10_append 11 = .ok (.sipush 900, 3) := by decide +kernel
theorem dX10_append_14 : decode cX10_append 14 = .ok (.if_icmp .ge 26, 3) := by decide +kernel
theorem dX10_append_17 : decode cX10_append 17 = .ok (.aload_n 0, 1) := by decide +kernel
theorem dX10_append_18 : decode cX10_append 18 = .ok (.getfield 9, 3) := by decide +kernel
theorem dX10_append_21 : decode cX10_append 21 = .ok (.aload_n 0, 1) := by decide +kernel
theorem dX10_append_22 : decode cX10_append 22 = .ok (.getfield 100, 3) := by decide +kernel
theorem dX10_append_25 : decode cX10_append 25 = .ok (.iload_n 1, 1) := by decide +kernel
theorem dX10_append_26 : decode cX10_append 26 = .ok (.iload_n 2, 1) := by decide +kernel
theorem dX10_append_27 : decode cX10_append 27 = .ok (.ishr, 1) := by decide +kernel
theorem dX10_append_28 : decode cX10_append 28 = .ok (.i2b, 1) := by decide +kernel
theorem dX10_append_29 : decode cX10_append 29 = .ok (.bastore, 1) := by decide +kernel
theorem dX10_append_30 : decode cX10_append 30 = .ok (.aload_n 0, 1) := by decide +kernel
theorem dX10_append_31 : decode cX10_append 31 = .ok (.dup, 1) := by decide +kernel
theorem dX10_append_32 : decode cX10_append 32 = .ok (.getfield 100, 3) := by decide +kernel
theorem dX10_append_35 : decode cX10_append 35 = .ok (.iconst 1, 1) := by decide +kernel
theorem dX10_append_36 : decode cX10_append 36 = .ok (.iadd, 1) := by decide +kernel
theorem dX10_append_37 : decode cX10_append 37 = .ok (.putfield 100, 3) := by decide +kernel
theorem dX10_append_40 : decode cX10_append 40 = .ok (.iinc 2 (-8), 3) := by decide +kernel
theorem dX10_append_43 : decode cX10_append 43 = .ok (.goto (-40), 3) := by decide +kernel
theorem dX10_append_46 : decode cX10_append 46 = .ok (.return_, 1) := by decide +kernel
theorem dX10_holds_0 : decode cX10_holds 0 = .ok (.iload_n 0, 1) := by decide +kernel
theorem dX10_holds_1 : decode cX10_holds 1 = .ok (.iload_n 1, 1) := by decide +kernel
theorem dX10_holds_2 : decode cX10_holds 2 = .ok (.ishr, 1) := by decide +kernel
theorem dX10_holds_3 : decode cX10_holds 3 = .ok (.iconst 1, 1) := by decide +kernel
theorem dX10_holds_4 : decode cX10_holds 4 = .ok (.iand, 1) := by decide +kernel
theorem dX10_holds_5 : decode cX10_holds 5 = .ok (.iconst 1, 1) := by decide +kernel
theorem dX10_holds_6 : decode cX10_holds 6 = .ok (.if_icmp .ne 7, 3) := by decide +kernel
theorem dX10_holds_9 : decode cX10_holds 9 = .ok (.iconst 1, 1) := by decide +kernel
theorem dX10_holds_10 : decode cX10_holds 10 = .ok (.goto 4, 3) := by decide +kernel
theorem dX10_holds_13 : decode cX10_holds 13 = .ok (.iconst 0, 1) := by decide +kernel
theorem dX10_holds_14 : decode cX10_holds 14 = .ok (.ireturn, 1) := by decide +kernel
theorem dX11_init_0 : decode cX11_init 0 = .ok (.aload_n 0, 1) := by decide +kernel
theorem dX11_init_1 : decode cX11_init 1 = .ok (.invokespecial 1, 3) := by decide +kernel
theorem dX11_init_4 : decode cX11_init 4 = .ok (.aload_n 0, 1) := by decide +kernel
theorem dX11_init_5 : decode cX11_init 5 = .ok (.sipush 900, 3) := by decide +kernel
theorem dX11_init_8 : decode cX11_init 8 = .ok (.newarray .int, 2) := by decide +kernel
theorem dX11_init_10 : decode cX11_init 10 = .ok (.putfield 7, 3) := by decide +kernel
theorem dX11_init_13 : decode cX11_init 13 = .ok (.aload_n 0, 1) := by decide +kernel
theorem dX11_init_14 : decode cX11_init 14 = .ok (.iconst (-1), 1) := by decide +kernel
theorem dX11_init_15 : decode cX11_init 15 = .ok (.putfield 13, 3) := by decide +kernel
theorem dX11_init_18 : decode cX11_init 18 = .ok (.aload_n 0, 1) := by decide +kernel
theorem dX11_init_19 : decode cX11_init 19 = .ok (.bipush 8, 2) := by decide +kernel
theorem dX11_init_21 : decode cX11_init 21 = .ok (.newarray .int, 2) := by decide +kernel
theorem dX11_init_23 : decode cX11_init 23 = .ok (.putfield 17, 3) := by decide +kernel
theorem dX11_init_26 : decode cX11_init 26 = .ok (.aload_n 0, 1) := by decide +kernel
theorem dX11_init_27 : decode cX11_init 27 = .ok (.sipush 333, 3) := by decide +kernel
theorem dX11_init_30 : decode cX11_init 30 = .ok (.newarray .int, 2) := by decide +kernel
theorem dX11_init_32 : decode cX11_init 32 = .ok (.putfield 20, 3) := by decide +kernel
theorem dX11_init_35 : decode cX11_init 35 = .ok (.aload_n 0, 1) := by decide +kernel
theorem dX11_init_36 : decode cX11_init 36 = .ok (.sipush 333, 3) := by decide +kernel
theorem dX11_init_39 : decode cX11_init 39 = .ok (.newarray .int, 2) := by decide +kernel
theorem dX11_init_41 : decode cX11_init 41 = .ok (.putfield 23, 3) := by decide +kernel
theorem dX11_init_44 : decode cX11_init 44 = .ok (.aload_n 0, 1) := by decide +kernel
theorem dX11_init_45 : decode cX11_init 45 = .ok (.bipush 26, 2) := by decide +kernel
theorem dX11_init_47 : decode cX11_init 47 = .ok (.newarray .int, 2) := by decide +kernel
theorem dX11_init_49 : decode cX11_init 49 = .ok (.putfield 26, 3) := by decide +kernel
theorem dX11_init_52 : decode cX11_init 52 = .ok (.aload_n 0, 1) := by decide +kernel
theorem dX11_init_53 : decode cX11_init 53 = .ok (.sipush 416, 3) := by decide +kernel
theorem dX11_init_56 : decode cX11_init 56 = .ok (.newarray .int, 2) := by decide +kernel
theorem dX11_init_58 : decode cX11_init 58 = .ok (.putfield 29, 3) := by decide +kernel
theorem dX11_init_61 : decode cX11_init 61 = .ok (.aload_n 0, 1) := by decide +kernel
theorem dX11_init_62 : decode cX11_init 62 = .ok (.bipush 78, 2) := by decide +kernel
theorem dX11_init_64 : decode cX11_init 64 = .ok (.newarray .int, 2) := by decide +kernel
theorem dX11_init_66 : decode cX11_init 66 = .ok (.putfield 32, 3) := by decide +kernel
theorem dX11_init_69 : decode cX11_init 69 = .ok (.aload_n 0, 1) := by decide +kernel
theorem dX11_init_70 : decode cX11_init 70 = .ok (.bipush 8, 2) := by decide +kernel
theorem dX11_init_72 : decode cX11_init 72 = .ok (.newarray .int, 2) := by decide +kernel
theorem dX11_init_74 : decode cX11_init 74 = .ok (.putfield 35, 3) := by decide +kernel
theorem dX11_init_77 : decode cX11_init 77 = .ok (.aload_n 0, 1) := by decide +kernel
theorem dX11_init_78 : decode cX11_init 78 = .ok (.bipush 8, 2) := by decide +kernel
theorem dX11_init_80 : decode cX11_init 80 = .ok (.newarray .int, 2) := by decide +kernel
theorem dX11_init_82 : decode cX11_init 82 = .ok (.putfield 38, 3) := by decide +kernel
theorem dX11_init_85 : decode cX11_init 85 = .ok (.aload_n 0, 1) := by decide +kernel
theorem dX11_init_86 : decode cX11_init 86 = .ok (.bipush 8, 2) := by decide +kernel
theorem dX11_init_88 : decode cX11_init 88 = .ok (.newarray .int, 2) := by decide +kernel
theorem dX11_init_90 : decode cX11_init 90 = .ok (.putfield 41, 3) := by decide +kernel
theorem dX11_init_93 : decode cX11_init 93 = .ok (.aload_n 0, 1) := by decide +kernel
theorem dX11_init_94 : decode cX11_init 94 = .ok (.iconst 5, 1) := by decide +kernel
theorem dX11_init_95 : decode cX11_init 95 = .ok (.newarray .int, 2) := by decide +kernel
theorem dX11_init_97 : decode cX11_init 97 = .ok (.putfield 44, 3) := by decide +kernel
theorem dX11_init_100 : decode cX11_init 100 = .ok (.aload_n 0, 1) := by decide +kernel
theorem dX11_init_101 : decode cX11_init 101 = .ok (.bipush 64, 2) := by decide +kernel
theorem dX11_init_103 : decode cX11_init 103 = .ok (.newarray .int, 2) := by decide +kernel
theorem dX11_init_105 : decode cX11_init 105 = .ok (.putfield 47, 3) := by decide +kernel
theorem dX11_init_108 : decode cX11_init 108 = .ok (.aload_n 0, 1) := by decide +kernel
theorem dX11_init_109 : decode cX11_init 109 = .ok (.bipush 10, 2) := by decide +kernel
theorem dX11_init_111 : decode cX11_init 111 = .ok (.newarray .int, 2) := by decide +kernel
theorem dX11_init_113 : decode cX11_init 113 = .ok (.putfield 50, 3) := by decide +kernel
theorem dX11_init_116 : decode cX11_init 116 = .ok (.aload_n 0, 1) := by decide +kernel
theorem dX11_init_117 : decode cX11_init 117 = .ok (.bipush 8, 2) := by decide +kernel
theorem dX11_init_119 : decode cX11_init 119 = .ok (.newarray .int, 2) := by decide +kernel
theorem dX11_init_121 : decode cX11_init 121 = .ok (.putfield 53, 3) := by decide +kernel
theorem dX11_init_124 : decode cX11_init 124 = .ok (.return_, 1) := by decide +kernel
theorem dX11_thrown_0 : decode cX11_thrown 0 = .ok (.aload_n 0, 1) := by decide +kernel
theorem dX11_thrown_1 : decode cX11_thrown 1 = .ok (.getfield 56, 3) := by decide +kernel
theorem dX11_thrown_4 : decode cX11_thrown 4 = .ok (.ireturn, 1) := by decide +kernel
theorem dX11_good_0 : decode cX11_good 0 = .ok (.aload_n 0, 1) := by decide +kernel
theorem dX11_good_1 : decode cX11_good 1 = .ok (.iconst 0, 1) := by decide +kernel
theorem dX11_good_2 : decode cX11_good 2 = .ok (.putfield 56, 3) := by decide +kernel
theorem dX11_good_5 : decode cX11_good 5 = .ok (.aload_n 0, 1) := by decide +kernel
theorem dX11_good_6 : decode cX11_good 6 = .ok (.iconst 0, 1) := by decide +kernel
theorem dX11_good_7 : decode cX11_good 7 = .ok (.putfield 59, 3) := by decide +kernel
theorem dX11_good_10 : decode cX11_good 10 = .ok (.return_, 1) := by decide +kernel
theorem dX11_no_0 : decode cX11_no 0 = .ok (.aload_n 0, 1) := by decide +kernel
theorem dX11_no_1 : decode cX11_no 1 = .ok (.iload_n 1, 1) := by decide +kernel
theorem dX11_no_2 : decode cX11_no 2 = .ok (.putfield 59, 3) := by decide +kernel
theorem dX11_no_5 : decode cX11_no 5 = .ok (.iconst (-1), 1) := by decide +kernel
theorem dX11_no_6 : decode cX11_no 6 = .ok (.ireturn, 1) := by decide +kernel
theorem dX11_isNot_0 : decode cX11_isNot 0 = .ok (.aload_n 0, 1) := by decide +kernel
theorem dX11_isNot_1 : decode cX11_isNot 1 = .ok (.iload_n 1, 1) := by decide +kernel
theorem dX11_isNot_2 : decode cX11_isNot 2 = .ok (.putfield 59, 3) := by decide +kernel
theorem dX11_isNot_5 : decode cX11_isNot 5 = .ok (.iconst 0, 1) := by decide +kernel
theorem dX11_isNot_6 : decode cX11_isNot 6 = .ok (.ireturn, 1) := by decide +kernel
theorem dX11_in_0 : decode cX11_in 0 = .ok (.iload_n 0, 1) := by decide +kernel
theorem dX11_in_1 : decode cX11_in 1 = .ok (.iload_n 1, 1) := by decide +kernel
theorem dX11_in_2 : decode cX11_in 2 = .ok (.if_icmp .lt 12, 3) := by decide +kernel
theorem dX11_in_5 : decode cX11_in 5 = .ok (.iload_n 0, 1) := by decide +kernel
theorem dX11_in_6 : decode cX11_in 6 = .ok (.iload_n 2, 1) := by decide +kernel
theorem dX11_in_7 : decode cX11_in 7 = .ok (.if_icmp .gt 7, 3) := by decide +kernel
theorem dX11_in_10 : decode cX11_in 10 = .ok (.iconst 1, 1) := by decide +kernel
theorem dX11_in_11 : decode cX11_in 11 = .ok (.goto 4, 3) := by decide +kernel
theorem dX11_in_14 : decode cX11_in 14 = .ok (.iconst 0, 1) := by decide +kernel
theorem dX11_in_15 : decode cX11_in 15 = .ok (.ireturn, 1) := by decide +kernel
theorem dX11_hasBit_0 : decode cX11_hasBit 0 = .ok (.iload_n 0, 1) := by decide +kernel
theorem dX11_hasBit_1 : decode cX11_hasBit 1 = .ok (.iload_n 1, 1) := by decide +kernel
theorem dX11_hasBit_2 : decode cX11_hasBit 2 = .ok (.ishr, 1) := by decide +kernel
theorem dX11_hasBit_3 : decode cX11_hasBit 3 = .ok (.iconst 1, 1) := by decide +kernel
theorem dX11_hasBit_4 : decode cX11_hasBit 4 = .ok (.iand, 1) := by decide +kernel
theorem dX11_hasBit_5 : decode cX11_hasBit 5 = .ok (.iconst 1, 1) := by decide +kernel
theorem dX11_hasBit_6 : decode cX11_hasBit 6 = .ok (.if_icmp .ne 7, 3) := by decide +kernel
theorem dX11_hasBit_9 : decode cX11_hasBit 9 = .ok (.iconst 1, 1) := by decide +kernel
theorem dX11_hasBit_10 : decode cX11_hasBit 10 = .ok (.goto 4, 3) := by decide +kernel
theorem dX11_hasBit_13 : decode cX11_hasBit 13 = .ok (.iconst 0, 1) := by decide +kernel
theorem dX11_hasBit_14 : decode cX11_hasBit 14 = .ok (.ireturn, 1) := by decide +kernel
theorem dX11_ones_0 : decode cX11_ones 0 = .ok (.iconst 0, 1) := by decide +kernel
theorem dX11_ones_1 : decode cX11_ones 1 = .ok (.istore_n 1, 1) := by decide +kernel
theorem dX11_ones_2 : decode cX11_ones 2 = .ok (.iconst 0, 1) := by decide +kernel
theorem dX11_ones_3 : decode cX11_ones 3 = .ok (.istore_n 2, 1) := by decide +kernel
theorem dX11_ones_4 : decode cX11_ones 4 = .ok (.iload_n 2, 1) := by decide +kernel
theorem dX11_ones_5 : decode cX11_ones 5 = .ok (.bipush 10, 2) := by decide +kernel
theorem dX11_ones_7 : decode cX11_ones 7 = .ok (.if_icmp .ge 17, 3) := by decide +kernel
theorem dX11_ones_10 : decode cX11_ones 10 = .ok (.iload_n 1, 1) := by decide +kernel
theorem dX11_ones_11 : decode cX11_ones 11 = .ok (.iload_n 0, 1) := by decide +kernel
theorem dX11_ones_12 : decode cX11_ones 12 = .ok (.iload_n 2, 1) := by decide +kernel
theorem dX11_ones_13 : decode cX11_ones 13 = .ok (.ishr, 1) := by decide +kernel
theorem dX11_ones_14 : decode cX11_ones 14 = .ok (.iconst 1, 1) := by decide +kernel
theorem dX11_ones_15 : decode cX11_ones 15 = .ok (.iand, 1) := by decide +kernel
theorem dX11_ones_16 : decode cX11_ones 16 = .ok (.iadd, 1) := by decide +kernel
theorem dX11_ones_17 : decode cX11_ones 17 = .ok (.istore_n 1, 1) := by decide +kernel
theorem dX11_ones_18 : decode cX11_ones 18 = .ok (.iinc 2 1, 3) := by decide +kernel
theorem dX11_ones_21 : decode cX11_ones 21 = .ok (.goto (-17), 3) := by decide +kernel
theorem dX11_ones_24 : decode cX11_ones 24 = .ok (.iload_n 1, 1) := by decide +kernel
theorem dX11_ones_25 : decode cX11_ones 25 = .ok (.ireturn, 1) := by decide +kernel
theorem dX11_copy_0 : decode cX11_copy 0 = .ok (.iconst 0, 1) := by decide +kernel
theorem dX11_copy_1 : decode cX11_copy 1 = .ok (.istore 5, 2) := by decide +kernel
theorem dX11_copy_3 : decode cX11_copy 3 = .ok (.iload 5, 2) := by decide +kernel
theorem dX11_copy_5 : decode cX11_copy 5 = .ok (.iload 4, 2) := by decide +kernel
theorem dX11_copy_7 : decode cX11_copy 7 = .ok (.if_icmp .ge 21, 3) := by decide +kernel
theorem dX11_copy_10 : decode cX11_copy 10 = .ok (.aload_n 2, 1) := by decide +kernel
theorem dX11_copy_11 : decode cX11_copy 11 = .ok (.iload_n 3, 1) := by decide +kernel
theorem dX11_copy_12 : decode cX11_copy 12 = .ok (.iload 5, 2) := by decide +kernel
theorem dX11_copy_14 : decode cX11_copy 14 = .ok (.iadd, 1) := by decide +kernel
theorem dX11_copy_15 : decode cX11_copy 15 = .ok (.aload_n 0, 1) := by decide +kernel
theorem dX11_copy_16 : decode cX11_copy 16 = .ok (.iload_n 1, 1) := by decide +kernel
theorem dX11_copy_17 : decode cX11_copy 17 = .ok (.iload 5, 2) := by decide +kernel
theorem dX11_copy_19 : decode cX11_copy 19 = .ok (.iadd, 1) := by decide +kernel
theorem dX11_copy_20 : decode cX11_copy 20 = .ok (.iaload, 1) := by decide +kernel
theorem dX11_copy_21 : decode cX11_copy 21 = .ok (.iastore, 1) := by decide +kernel
theorem dX11_copy_22 : decode cX11_copy 22 = .ok (.iinc 5 1, 3) := by decide +kernel
theorem dX11_copy_25 : decode cX11_copy 25 = .ok (.goto (-22), 3) := by decide +kernel
theorem dX11_copy_28 : decode cX11_copy 28 = .ok (.return_, 1) := by decide +kernel
theorem dX11_feed_0 : decode cX11_feed 0 = .ok (.aload_n 0, 1) := by decide +kernel
theorem dX11_feed_1 : decode cX11_feed 1 = .ok (.iconst 0, 1) := by decide +kernel
theorem dX11_feed_2 : decode cX11_feed 2 = .ok (.putfield 56, 3) := by decide +kernel
theorem dX11_feed_5 : decode cX11_feed 5 = .ok (.aload_n 0, 1) := by decide +kernel
theorem dX11_feed_6 : decode cX11_feed 6 = .ok (.getfield 62, 3) := by decide +kernel
theorem dX11_feed_9 : decode cX11_feed 9 = .ok (.bipush 20, 2) := by decide +kernel
theorem dX11_feed_11 : decode cX11_feed 11 = .ok (.iadd, 1) := by decide +kernel
theorem dX11_feed_12 : decode cX11_feed 12 = .ok (.sipush 900, 3) := by decide +kernel
theorem dX11_feed_15 : decode cX11_feed 15 = .ok (.if_icmp .le 5, 3) := by decide +kernel
theorem dX11_feed_18 : decode cX11_feed 18 = .ok (.iconst (-1), 1) := by decide +kernel
theorem dX11_feed_19 : decode cX11_feed 19 = .ok (.ireturn, 1) := by decide +kernel
theorem dX11_feed_20 : decode cX11_feed 20 = .ok (.iconst 0, 1) := by decide +kernel
theorem dX11_feed_21 : decode cX11_feed 21 = .ok (.istore 6, 2) := by decide +kernel
theorem dX11_feed_23 : decode cX11_feed 23 = .ok (.iload 6, 2) := by decide +kernel
theorem dX11_feed_25 : decode cX11_feed 25 = .ok (.bipush 20, 2) := by decide +kernel
theorem dX11_feed_27 : decode cX11_feed 27 = .ok (.if_icmp .ge 93, 3) := by decide +kernel
theorem dX11_feed_30 : decode cX11_feed 30 = .ok (.iload 6, 2) := by decide +kernel
theorem dX11_feed_32 : decode cX11_feed 32 = .ok (.iconst 4, 1) := by decide +kernel
theorem dX11_feed_33 : decode cX11_feed 33 = .ok (.if_icmp .ge 7, 3) := by decide +kernel
theorem dX11_feed_36 : decode cX11_feed 36 = .ok (.iload_n 1, 1) := by decide +kernel
theorem dX11_feed_37 : decode cX11_feed 37 = .ok (.goto 39, 3) := by decide +kernel
theorem dX11_feed_40 : decode cX11_feed 40 = .ok (.iload 6, 2) := by decide +kernel
theorem dX11_feed_42 : decode cX11_feed 42 = .ok (.bipush 8, 2) := by decide +kernel
theorem dX11_feed_44 : decode cX11_feed 44 = .ok (.if_icmp .ge 7, 3) := by decide +kernel
theorem dX11_feed_47 : decode cX11_feed 47 = .ok (.iload_n 2, 1) := by decide +kernel
theorem dX11_feed_48 : decode cX11_feed 48 = .ok (.goto 28, 3) := by decide +kernel
theorem dX11_feed_51 : decode cX11_feed 51 = .ok (.iload 6, 2) := by decide +kernel
theorem dX11_feed_53 : decode cX11_feed 53 = .ok (.bipush 12, 2) := by decide +kernel
theorem dX11_feed_55 : decode cX11_feed 55 = .ok (.if_icmp .ge 7, 3) := by decide +kernel
theorem dX11_feed_58 : decode cX11_feed 58 = .ok (.iload_n 3, 1) := by decide +kernel
theorem dX11_feed_59 : decode cX11_feed 59 = .ok (.goto 17, 3) := by decide +kernel
theorem dX11_feed_62 : decode cX11_feed 62 = .ok (.iload 6, 2) := by decide +kernel
theorem dX11_feed_64 : decode cX11_feed 64 = .ok (.bipush 16, 2) := by decide +kernel
theorem dX11_feed_66 : decode cX11_feed 66 = .ok (.if_icmp .ge 8, 3) := by decide +kernel
theorem dX11_feed_69 : decode cX11_feed 69 = .ok (.iload 4, 2) := by decide +kernel
theorem dX11_feed_71 : decode cX11_feed 71 = .ok (.goto 5, 3) := by decide +kernel
theorem dX11_feed_74 : decode cX11_feed 74 = .ok (.iload 5, 2) := by decide +kernel
theorem dX11_feed_76 : decode cX11_feed 76 = .ok (.istore 7, 2) := by decide +kernel
theorem dX11_feed_78 : decode cX11_feed 78 = .ok (.aload_n 0, 1) := by decide +kernel
theorem dX11_feed_79 : decode cX11_feed 79 = .ok (.getfield 7, 3) := by decide +kernel
theorem dX11_feed_82 : decode cX11_feed 82 = .ok (.aload_n 0, 1) := by decide +kernel
theorem dX11_feed_83 : decode cX11_feed 83 = .ok (.getfield 62, 3) := by decide +kernel
theorem dX11_feed_86 : decode cX11_feed 86 = .ok (.iload 7, 2) := by decide +kernel
theorem dX11_feed_88 : decode cX11_feed 88 = .ok (.bipush 24, 2) := by decide +kernel
theorem dX11_feed_90 : decode cX11_feed 90 = .ok (.bipush 8, 2) := by decide +kernel
theorem dX11_feed_92 : decode cX11_feed 92 = .ok (.iload 6, 2) := by decide +kernel
theorem dX11_feed_94 : decode cX11_feed 94 = .ok (.iconst 4, 1) := by decide +kernel
theorem dX11_feed_95 : decode cX11_feed 95 = .ok (.irem, 1) := by decide +kernel
theorem dX11_feed_96 : decode cX11_feed 96 = .ok (.imul, 1) := by decide +kernel
theorem dX11_feed_97 : decode cX11_feed 97 = .ok (.isub, 1) := by decide +kernel
theorem dX11_feed_98 : decode cX11_feed 98 = .ok (.ishr, 1) := by decide +kernel
theorem dX11_feed_99 : decode cX11_feed 99 = .ok (.sipush 255, 3) := by decide +kernel
theorem dX11_feed_102 : decode cX11_feed 102 = .ok (.iand, 1) := by decide +kernel
theorem dX11_feed_103 : decode cX11_feed 103 = .ok (.iastore, 1) := by decide +kernel
theorem dX11_feed_104 : decode cX11_feed 104 = .ok (.aload_n 0, 1) := by decide +kernel
theorem dX11_feed_105 : decode cX11_feed 105 = .ok (.dup, 1) := by decide +kernel
theorem dX11_feed_106 : decode cX11_feed 106 = .ok (.getfield 62, 3) := by decide +kernel
theorem dX11_feed_109 : decode cX11_feed 109 = .ok (.iconst 1, 1) := by decide +kernel
theorem dX11_feed_110 : decode cX11_feed 110 = .ok (.iadd, 1) := by decide +kernel
theorem dX11_feed_111 : decode cX11_feed 111 = .ok (.putfield 62, 3) := by decide +kernel
theorem dX11_feed_114 : decode cX11_feed 114 = .ok (.iinc 6 1, 3) := by decide +kernel
theorem dX11_feed_117 : decode cX11_feed 117 = .ok (.goto (-94), 3) := by decide +kernel
theorem dX11_feed_120 : decode cX11_feed 120 = .ok (.aload_n 0, 1) := by decide +kernel
theorem dX11_feed_121 : decode cX11_feed 121 = .ok (.getfield 62, 3) := by decide +kernel
theorem dX11_feed_124 : decode cX11_feed 124 = .ok (.ireturn, 1) := by decide +kernel
theorem dX11_look_0 : decode cX11_look 0 = .ok (.iload_n 1, 1) := by decide +kernel
theorem dX11_look_1 : decode cX11_look 1 = .ok (.aload_n 0, 1) := by decide +kernel
theorem dX11_look_2 : decode cX11_look 2 = .ok (.getfield 65, 3) := by decide +kernel
theorem dX11_look_5 : decode cX11_look 5 = .ok (.if_icmp .ge 12, 3) := by decide +kernel
theorem dX11_look_8 : decode cX11_look 8 = .ok (.aload_n 0, 1) := by decide +kernel
theorem dX11_look_9 : decode cX11_look 9 = .ok (.getfield 7, 3) := by decide +kernel
theorem dX11_look_12 : decode cX11_look 12 = .ok (.iload_n 1, 1) := by decide +kernel
theorem dX11_look_13 : decode cX11_look 13 = .ok (.iaload, 1) := by decide +kernel
theorem dX11_look_14 : decode cX11_look 14 = .ok (.goto 4, 3) := by decide +kernel
theorem dX11_look_17 : decode cX11_look 17 = .ok (.iconst (-1), 1) := by decide +kernel
theorem dX11_look_18 : decode cX11_look 18 = .ok (.ireturn, 1) := by decide +kernel
theorem dX11_isSmall_0 : decode cX11_isSmall 0 = .ok (.iload_n 0, 1) := by decide +kernel
theorem dX11_isSmall_1 : decode cX11_isSmall 1 = .ok (.bipush 97, 2) := by decide +kernel
theorem dX11_isSmall_3 : decode cX11_isSmall 3 = .ok (.if_icmp .lt 13, 3) := by decide +kernel
theorem dX11_isSmall_6 : decode cX11_isSmall 6 = .ok (.iload_n 0, 1) := by decide +kernel
theorem dX11_isSmall_7 : decode cX11_isSmall 7 = .ok (.bipush 122, 2) := by decide +kernel
theorem dX11_isSmall_9 : decode cX11_isSmall 9 = .ok (.if_icmp .gt 7, 3) := by decide +kernel
theorem dX11_isSmall_12 : decode cX11_isSmall 12 = .ok (.iconst 1, 1) := by decide +kernel
theorem dX11_isSmall_13 : decode cX11_isSmall 13 = .ok (.goto 4, 3) := by decide +kernel
theorem dX11_isSmall_16 : decode cX11_isSmall 16 = .ok (.iconst 0, 1) := by decide +kernel
theorem dX11_isSmall_17 : decode cX11_isSmall 17 = .ok (.ireturn, 1) := by decide +kernel
theorem dX11_isDigit_0 : decode cX11_isDigit 0 = .ok (.iload_n 0, 1) := by decide +kernel
theorem dX11_isDigit_1 : decode cX11_isDigit 1 = .ok (.bipush 48, 2) := by decide +kernel
theorem dX11_isDigit_3 : decode cX11_isDigit 3 = .ok (.if_icmp .lt 13, 3) := by decide +kernel
theorem dX11_isDigit_6 : decode cX11_isDigit 6 = .ok (.iload_n 0, 1) := by decide +kernel
theorem dX11_isDigit_7 : decode cX11_isDigit 7 = .ok (.bipush 57, 2) := by decide +kernel
theorem dX11_isDigit_9 : decode cX11_isDigit 9 = .ok (.if_icmp .gt 7, 3) := by decide +kernel
theorem dX11_isDigit_12 : decode cX11_isDigit 12 = .ok (.iconst 1, 1) := by decide +kernel
theorem dX11_isDigit_13 : decode cX11_isDigit 13 = .ok (.goto 4, 3) := by decide +kernel
theorem dX11_isDigit_16 : decode cX11_isDigit 16 = .ok (.iconst 0, 1) := by decide +kernel
theorem dX11_isDigit_17 : decode cX11_isDigit 17 = .ok (.ireturn, 1) := by decide +kernel
theorem dX11_next_0 : decode cX11_next 0 = .ok (.aload_n 0, 1) := by decide +kernel
theorem dX11_next_1 : decode cX11_next 1 = .ok (.getfield 68, 3) := by decide +kernel
theorem dX11_next_4 : decode cX11_next 4 = .ok (.istore_n 1, 1) := by decide +kernel
theorem dX11_next_5 : decode cX11_next 5 = .ok (.aload_n 0, 1) := by decide +kernel
theorem dX11_next_6 : decode cX11_next 6 = .ok (.iload_n 1, 1) := by decide +kernel
theorem dX11_next_7 : decode cX11_next 7 = .ok (.invokevirtual 71, 3) := by decide +kernel
theorem dX11_next_10 : decode cX11_next 10 = .ok (.bipush 32, 2) := by decide +kernel
theorem dX11_next_12 : decode cX11_next 12 = .ok (.if_icmp .ne 9, 3) := by decide +kernel
theorem dX11_next_15 : decode cX11_next 15 = .ok (.iinc 1 1, 3) := by decide +kernel
theorem dX11_next_18 : decode cX11_next 18 = .ok (.goto (-13), 3) := by decide +kernel
theorem dX11_next_21 : decode cX11_next 21 = .ok (.aload_n 0, 1) := by decide +kernel
theorem dX11_next_22 : decode cX11_next 22 = .ok (.iload_n 1, 1) := by decide +kernel
theorem dX11_next_23 : decode cX11_next 23 = .ok (.putfield 75, 3) := by decide +kernel
theorem dX11_next_26 : decode cX11_next 26 = .ok (.aload_n 0, 1) := by decide +kernel
theorem dX11_next_27 : decode cX11_next 27 = .ok (.iload_n 1, 1) := by decide +kernel
theorem dX11_next_28 : decode cX11_next 28 = .ok (.invokevirtual 71, 3) := by decide +kernel
theorem dX11_next_31 : decode cX11_next 31 = .ok (.istore_n 2, 1) := by decide +kernel
theorem dX11_next_32 : decode cX11_next 32 = .ok (.aload_n 0, 1) := by decide +kernel
theorem dX11_next_33 : decode cX11_next 33 = .ok (.iconst 0, 1) := by decide +kernel
theorem dX11_next_34 : decode cX11_next 34 = .ok (.putfield 78, 3) := by decide +kernel
theorem dX11_next_37 : decode cX11_next 37 = .ok (.aload_n 0, 1) := by decide +kernel
theorem dX11_next_38 : decode cX11_next 38 = .ok (.iconst 0, 1) := by decide +kernel
theorem dX11_next_39 : decode cX11_next 39 = .ok (.putfield 81, 3) := by decide +kernel
theorem dX11_next_42 : decode cX11_next 42 = .ok (.iload_n 2, 1) := by decide +kernel
theorem dX11_next_43 : decode cX11_next 43 = .ok (.iconst (-1), 1) := by decide +kernel
theorem dX11_next_44 : decode cX11_next 44 = .ok (.if_icmp .ne 16, 3) := by decide +kernel
theorem dX11_next_47 : decode cX11_next 47 = .ok (.aload_n 0, 1) := by decide +kernel
theorem dX11_next_48 : decode cX11_next 48 = .ok (.iconst 0, 1) := by decide +kernel
theorem dX11_next_49 : decode cX11_next 49 = .ok (.putfield 84, 3) := by decide +kernel
theorem dX11_next_52 : decode cX11_next 52 = .ok (.aload_n 0, 1) := by decide +kernel
theorem dX11_next_53 : decode cX11_next 53 = .ok (.iload_n 1, 1) := by decide +kernel
theorem dX11_next_54 : decode cX11_next 54 = .ok (.putfield 68, 3) := by decide +kernel
theorem dX11_next_57 : decode cX11_next 57 = .ok (.goto 184, 3) := by decide +kernel
theorem dX11_next_60 : decode cX11_next 60 = .ok (.iload_n 2, 1) := by decide +kernel
theorem dX11_next_61 : decode cX11_next 61 = .ok (.invokestatic 87, 3) := by decide +kernel
theorem dX11_next_64 : decode cX11_next 64 = .ok (.ifCond .eq 79, 3) := by decide +kernel
theorem dX11_next_67 : decode cX11_next 67 = .ok (.aload_n 0, 1) := by decide +kernel
theorem dX11_next_68 : decode cX11_next 68 = .ok (.iload_n 1, 1) := by decide +kernel
theorem dX11_next_69 : decode cX11_next 69 = .ok (.invokevirtual 71, 3) := by decide +kernel
theorem dX11_next_72 : decode cX11_next 72 = .ok (.invokestatic 87, 3) := by decide +kernel
theorem dX11_next_75 : decode cX11_next 75 = .ok (.ifCond .eq 42, 3) := by decide +kernel
theorem dX11_next_78 : decode cX11_next 78 = .ok (.aload_n 0, 1) := by decide +kernel
theorem dX11_next_79 : decode cX11_next 79 = .ok (.getfield 78, 3) := by decide +kernel
theorem dX11_next_82 : decode cX11_next 82 = .ok (.bipush 8, 2) := by decide +kernel
theorem dX11_next_84 : decode cX11_next 84 = .ok (.if_icmp .ge 17, 3) := by decide +kernel
theorem dX11_next_87 : decode cX11_next 87 = .ok (.aload_n 0, 1) := by decide +kernel
theorem dX11_next_88 : decode cX11_next 88 = .ok (.getfield 17, 3) := by decide +kernel
theorem dX11_next_91 : decode cX11_next 91 = .ok (.aload_n 0, 1) := by decide +kernel
theorem dX11_next_92 : decode cX11_next 92 = .ok (.getfield 78, 3) := by decide +kernel
theorem dX11_next_95 : decode cX11_next 95 = .ok (.aload_n 0, 1) := by decide +kernel
theorem dX11_next_96 : decode cX11_next 96 = .ok (.iload_n 1, 1) := by decide +kernel
theorem dX11_next_97 : decode cX11_next 97 = .ok (.invokevirtual 71, 3) := by decide +kernel
theorem dX11_next_100 : decode cX11_next 100 = .ok (.iastore, 1) := by decide +kernel
theorem dX11_next_101 : decode cX11_next 101 = .ok (.aload_n 0, 1) := by decide +kernel
theorem dX11_next_102 : decode cX11_next 102 = .ok (.dup, 1) := by decide +kernel
theorem dX11_next_103 : decode cX11_next 103 = .ok (.getfield 78, 3) := by decide +kernel
theorem dX11_next_106 : decode cX11_next 106 = .ok (.iconst 1, 1) := by decide +kernel
theorem dX11_next_107 : decode cX11_next 107 = .ok (.iadd, 1) := by decide +kernel
theorem dX11_next_108 : decode cX11_next 108 = .ok (.putfield 78, 3) := by decide +kernel
theorem dX11_next_111 : decode cX11_next 111 = .ok (.iinc 1 1, 3) := by decide +kernel
theorem dX11_next_114 : decode cX11_next 114 = .ok (.goto (-47), 3) := by decide +kernel
theorem dX11_next_117 : decode cX11_next 117 = .ok (.aload_n 0, 1) := by decide +kernel
theorem dX11_next_118 : decode cX11_next 118 = .ok (.iload_n 1, 1) := by decide +kernel
theorem dX11_next_119 : decode cX11_next 119 = .ok (.putfield 68, 3) := by decide +kernel
theorem dX11_next_122 : decode cX11_next 122 = .ok (.aload_n 0, 1) := by decide +kernel
theorem dX11_next_123 : decode cX11_next 123 = .ok (.aload_n 0, 1) := by decide +kernel
theorem dX11_next_124 : decode cX11_next 124 = .ok (.getfield 78, 3) := by decide +kernel
theorem dX11_next_127 : decode cX11_next 127 = .ok (.bipush 8, 2) := by decide +kernel
theorem dX11_next_129 : decode cX11_next 129 = .ok (.if_icmp .le 7, 3) := by decide +kernel
theorem dX11_next_132 : decode cX11_next 132 = .ok (.iconst 1, 1) := by decide +kernel
theorem dX11_next_133 : decode cX11_next 133 = .ok (.goto 4, 3) := by decide +kernel
theorem dX11_next_136 : decode cX11_next 136 = .ok (.iconst 2, 1) := by decide +kernel
theorem dX11_next_137 : decode cX11_next 137 = .ok (.putfield 84, 3) := by decide +kernel
theorem dX11_next_140 : decode cX11_next 140 = .ok (.goto 101, 3) := by decide +kernel
theorem dX11_next_143 : decode cX11_next 143 = .ok (.iload_n 2, 1) := by decide +kernel
theorem dX11_next_144 : decode cX11_next 144 = .ok (.invokestatic 91, 3) := by decide +kernel
theorem dX11_next_147 : decode cX11_next 147 = .ok (.ifCond .eq 72, 3) := by decide +kernel
theorem dX11_next_150 : decode cX11_next 150 = .ok (.iconst 0, 1) := by decide +kernel
theorem dX11_next_151 : decode cX11_next 151 = .ok (.istore_n 3, 1) := by decide +kernel
theorem dX11_next_152 : decode cX11_next 152 = .ok (.aload_n 0, 1) := by decide +kernel
theorem dX11_next_153 : decode cX11_next 153 = .ok (.iload_n 1, 1) := by decide +kernel
theorem dX11_next_154 : decode cX11_next 154 = .ok (.invokevirtual 71, 3) := by decide +kernel
theorem dX11_next_157 : decode cX11_next 157 = .ok (.invokestatic 91, 3) := by decide +kernel
theorem dX11_next_160 : decode cX11_next 160 = .ok (.ifCond .eq 37, 3) := by decide +kernel
theorem dX11_next_163 : decode cX11_next 163 = .ok (.iload_n 3, 1) := by decide +kernel
theorem dX11_next_164 : decode cX11_next 164 = .ok (.iconst 3, 1) := by decide +kernel
theorem dX11_next_165 : decode cX11_next 165 = .ok (.if_icmp .ge 23, 3) := by decide +kernel
theorem dX11_next_168 : decode cX11_next 168 = .ok (.aload_n 0, 1) := by decide +kernel
theorem dX11_next_169 : decode cX11_next 169 = .ok (.bipush 10, 2) := by decide +kernel
theorem dX11_next_171 : decode cX11_next 171 = .ok (.aload_n 0, 1) := by decide +kernel
theorem dX11_next_172 : decode cX11_next 172 = .ok (.getfield 81, 3) := by decide +kernel
theorem dX11_next_175 : decode cX11_next 175 = .ok (.imul, 1) := by decide +kernel
theorem dX11_next_176 : decode cX11_next 176 = .ok (.aload_n 0, 1) := by decide +kernel
theorem dX11_next_177 : decode cX11_next 177 = .ok (.iload_n 1, 1) := by decide +kernel
theorem dX11_next_178 : decode cX11_next 178 = .ok (.invokevirtual 71, 3) := by decide +kernel
theorem dX11_next_181 : decode cX11_next 181 = .ok (.iadd, 1) := by decide +kernel
theorem dX11_next_182 : decode cX11_next 182 = .ok (.bipush 48, 2) := by decide +kernel
theorem dX11_next_184 : decode cX11_next 184 = .ok (.isub, 1) := by decide +kernel
theorem dX11_next_185 : decode cX11_next 185 = .ok (.putfield 81, 3) := by decide +kernel
theorem dX11_next_188 : decode cX11_next 188 = .ok (.iinc 3 1, 3) := by decide +kernel
theorem dX11_next_191 : decode cX11_next 191 = .ok (.iinc 1 1, 3) := by decide +kernel
theorem dX11_next_194 : decode cX11_next 194 = .ok (.goto (-42), 3) := by decide +kernel
theorem dX11_next_197 : decode cX11_next 197 = .ok (.aload_n 0, 1) := by decide +kernel
theorem dX11_next_198 : decode cX11_next 198 = .ok (.iload_n 1, 1) := by decide +kernel
theorem dX11_next_199 : decode cX11_next 199 = .ok (.putfield 68, 3) := by decide +kernel
theorem dX11_next_202 : decode cX11_next 202 = .ok (.aload_n 0, 1) := by decide +kernel
theorem dX11_next_203 : decode cX11_next 203 = .ok (.iload_n 3, 1) := by decide +kernel
theorem dX11_next_204 : decode cX11_next 204 = .ok (.iconst 3, 1) := by decide +kernel
theorem dX11_next_205 : decode cX11_next 205 = .ok (.if_icmp .le 7, 3) := by decide +kernel
theorem dX11_next_208 : decode cX11_next 208 = .ok (.iconst 1, 1) := by decide +kernel
theorem dX11_next_209 : decode cX11_next 209 = .ok (.goto 4, 3) := by decide +kernel
theorem dX11_next_212 : decode cX11_next 212 = .ok (.iconst 3, 1) := by decide +kernel
theorem dX11_next_213 : decode cX11_next 213 = .ok (.putfield 84, 3) := by decide +kernel
theorem dX11_next_216 : decode cX11_next 216 = .ok (.goto 25, 3) := by decide +kernel
theorem dX11_next_219 : decode cX11_next 219 = .ok (.aload_n 0, 1) := by decide +kernel
theorem dX11_next_220 : decode cX11_next 220 = .ok (.iload_n 1, 1) := by decide +kernel
theorem dX11_next_221 : decode cX11_next 221 = .ok (.iconst 1, 1) := by decide +kernel
theorem dX11_next_222 : decode cX11_next 222 = .ok (.iadd, 1) := by decide +kernel
theorem dX11_next_223 : decode cX11_next 223 = .ok (.putfield 68, 3) := by decide +kernel
theorem dX11_next_226 : decode cX11_next 226 = .ok (.aload_n 0, 1) := by decide +kernel
theorem dX11_next_227 : decode cX11_next 227 = .ok (.iload_n 2, 1) := by decide +kernel
theorem dX11_next_228 : decode cX11_next 228 = .ok (.bipush 59, 2) := by decide +kernel
theorem dX11_next_230 : decode cX11_next 230 = .ok (.if_icmp .ne 7, 3) := by decide +kernel
theorem dX11_next_233 : decode cX11_next 233 = .ok (.iload_n 2, 1) := by decide +kernel
theorem dX11_next_234 : decode cX11_next 234 = .ok (.goto 4, 3) := by decide +kernel
theorem dX11_next_237 : decode cX11_next 237 = .ok (.iconst 1, 1) := by decide +kernel
theorem dX11_next_238 : decode cX11_next 238 = .ok (.putfield 84, 3) := by decide +kernel
theorem dX11_next_241 : decode cX11_next 241 = .ok (.return_, 1) := by decide +kernel
theorem dX11_wrong_0 : decode cX11_wrong 0 = .ok (.aload_n 0, 1) := by decide +kernel
theorem dX11_wrong_1 : decode cX11_wrong 1 = .ok (.getfield 94, 3) := by decide +kernel
theorem dX11_wrong_4 : decode cX11_wrong 4 = .ok (.ifCond .eq 4, 3) := by decide +kernel
theorem dX11_wrong_7 : decode cX11_wrong 7 = .ok (.return_, 1) := by decide +kernel
theorem dX11_wrong_8 : decode cX11_wrong 8 = .ok (.aload_n 0, 1) := by decide +kernel
theorem dX11_wrong_9 : decode cX11_wrong 9 = .ok (.iconst 1, 1) := by decide +kernel
theorem dX11_wrong_10 : decode cX11_wrong 10 = .ok (.putfield 94, 3) := by decide +kernel
theorem dX11_wrong_13 : decode cX11_wrong 13 = .ok (.aload_n 0, 1) := by decide +kernel
theorem dX11_wrong_14 : decode cX11_wrong 14 = .ok (.iload_n 1, 1) := by decide +kernel
theorem dX11_wrong_15 : decode cX11_wrong 15 = .ok (.putfield 98, 3) := by decide +kernel
theorem dX11_wrong_18 : decode cX11_wrong 18 = .ok (.aload_n 0, 1) := by decide +kernel
theorem dX11_wrong_19 : decode cX11_wrong 19 = .ok (.iload_n 2, 1) := by decide +kernel
theorem dX11_wrong_20 : decode cX11_wrong 20 = .ok (.putfield 13, 3) := by decide +kernel
theorem dX11_wrong_23 : decode cX11_wrong 23 = .ok (.return_, 1) := by decide +kernel
theorem dX11_isWord_0 : decode cX11_isWord 0 = .ok (.aload_n 0, 1) := by decide +kernel
theorem dX11_isWord_1 : decode cX11_isWord 1 = .ok (.getfield 94, 3) := by decide +kernel
theorem dX11_isWord_4 : decode cX11_isWord 4 = .ok (.ifCond .ne 22, 3) := by decide +kernel
theorem dX11_isWord_7 : decode cX11_isWord 7 = .ok (.aload_n 0, 1) := by decide +kernel
theorem dX11_isWord_8 : decode cX11_isWord 8 = .ok (.getfield 84, 3) := by decide +kernel
theorem dX11_isWord_11 : decode cX11_isWord 11 = .ok (.iconst 2, 1) := by decide +kernel
theorem dX11_isWord_12 : decode cX11_isWord 12 = .ok (.if_icmp .ne 14, 3) := by decide +kernel
theorem dX11_isWord_15 : decode cX11_isWord 15 = .ok (.aload_n 0, 1) := by decide +kernel
theorem dX11_isWord_16 : decode cX11_isWord 16 = .ok (.getfield 78, 3) := by decide +kernel
theorem dX11_isWord_19 : decode cX11_isWord 19 = .ok (.aload_n 1, 1) := by decide +kernel
theorem dX11_isWord_20 : decode cX11_isWord 20 = .ok (.invokevirtual 101, 3) := by decide +kernel
theorem dX11_isWord_23 : decode cX11_isWord 23 = .ok (.if_icmp .eq 5, 3) := by decide +kernel
theorem dX11_isWord_26 : decode cX11_isWord 26 = .ok (.iconst 0, 1) := by decide +kernel
theorem dX11_isWord_27 : decode cX11_isWord 27 = .ok (.ireturn, 1) := by decide +kernel
theorem dX11_isWord_28 : decode cX11_isWord 28 = .ok (.iconst 1, 1) := by decide +kernel
theorem dX11_isWord_29 : decode cX11_isWord 29 = .ok (.istore_n 2, 1) := by decide +kernel
theorem dX11_isWord_30 : decode cX11_isWord 30 = .ok (.iconst 0, 1) := by decide +kernel
theorem dX11_isWord_31 : decode cX11_isWord 31 = .ok (.istore_n 3, 1) := by decide +kernel
theorem dX11_isWord_32 : decode cX11_isWord 32 = .ok (.iload_n 3, 1) := by decide +kernel
theorem dX11_isWord_33 : decode cX11_isWord 33 = .ok (.aload_n 0, 1) := by decide +kernel
theorem dX11_isWord_34 : decode cX11_isWord 34 = .ok (.getfield 78, 3) := by decide +kernel
theorem dX11_isWord_37 : decode cX11_isWord 37 = .ok (.if_icmp .ge 33, 3) := by decide +kernel
theorem dX11_isWord_40 : decode cX11_isWord 40 = .ok (.iload_n 2, 1) := by decide +kernel
theorem dX11_isWord_41 : decode cX11_isWord 41 = .ok (.ifCond .eq 21, 3) := by decide +kernel
theorem dX11_isWord_44 : decode cX11_isWord 44 = .ok (.aload_n 0, 1) := by decide +kernel
theorem dX11_isWord_45 : decode cX11_isWord 45 = .ok (.getfield 17, 3) := by decide +kernel
theorem dX11_isWord_48 : decode cX11_isWord 48 = .ok (.iload_n 3, 1) := by decide +kernel
theorem dX11_isWord_49 : decode cX11_isWord 49 = .ok (.iaload, 1) := by decide +kernel
theorem dX11_isWord_50 : decode cX11_isWord 50 = .ok (.aload_n 1, 1) := by decide +kernel
theorem dX11_isWord_51 : decode cX11_isWord 51 = .ok (.iload_n 3, 1) := by decide +kernel
theorem dX11_isWord_52 : decode cX11_isWord 52 = .ok (.invokevirtual 107, 3) := by decide +kernel
theorem dX11_isWord_55 : decode cX11_isWord 55 = .ok (.if_icmp .ne 7, 3) := by decide +kernel
theorem dX11_isWord_58 : decode cX11_isWord 58 = .ok (.iconst 1, 1) := by decide +kernel
theorem dX11_isWord_59 : decode cX11_isWord 59 = .ok (.goto 4, 3) := by decide +kernel
theorem dX11_isWord_62 : decode cX11_isWord 62 = .ok (.iconst 0, 1) := by decide +kernel
theorem dX11_isWord_63 : decode cX11_isWord 63 = .ok (.istore_n 2, 1) := by decide +kernel
theorem dX11_isWord_64 : decode cX11_isWord 64 = .ok (.iinc 3 1, 3) := by decide +kernel
theorem dX11_isWord_67 : decode cX11_isWord 67 = .ok (.goto (-35), 3) := by decide +kernel
theorem dX11_isWord_70 : decode cX11_isWord 70 = .ok (.iload_n 2, 1) := by decide +kernel
theorem dX11_isWord_71 : decode cX11_isWord 71 = .ok (.ireturn, 1) := by decide +kernel
theorem dX11_takesWord_0 : decode cX11_takesWord 0 = .ok (.aload_n 0, 1) := by decide +kernel
theorem dX11_takesWord_1 : decode cX11_takesWord 1 = .ok (.aload_n 1, 1) := by decide +kernel
theorem dX11_takesWord_2 : decode cX11_takesWord 2 = .ok (.invokevirtual 111, 3) := by decide +kernel
theorem dX11_takesWord_5 : decode cX11_takesWord 5 = .ok (.ifCond .ne 5, 3) := by decide +kernel
theorem dX11_takesWord_8 : decode cX11_takesWord 8 = .ok (.iconst 0, 1) := by decide +kernel
theorem dX11_takesWord_9 : decode cX11_takesWord 9 = .ok (.ireturn, 1) := by decide +kernel
theorem dX11_takesWord_10 : decode cX11_takesWord 10 = .ok (.aload_n 0, 1) := by decide +kernel
theorem dX11_takesWord_11 : decode cX11_takesWord 11 = .ok (.invokevirtual 115, 3) := by decide +kernel
theorem dX11_takesWord_14 : decode cX11_takesWord 14 = .ok (.iconst 1, 1) := by decide +kernel
theorem dX11_takesWord_15 : decode cX11_takesWord 15 = .ok (.ireturn, 1) := by decide +kernel
theorem dX11_must_0 : decode cX11_must 0 = .ok (.aload_n 0, 1) := by decide +kernel
theorem dX11_must_1 : decode cX11_must 1 = .ok (.getfield 94, 3) := by decide +kernel
theorem dX11_must_4 : decode cX11_must 4 = .ok (.ifCond .ne 20, 3) := by decide +kernel
theorem dX11_must_7 : decode cX11_must 7 = .ok (.aload_n 0, 1) := by decide +kernel
theorem dX11_must_8 : decode cX11_must 8 = .ok (.aload_n 1, 1) := by decide +kernel
theorem dX11_must_9 : decode cX11_must 9 = .ok (.invokevirtual 118, 3) := by decide +kernel
theorem dX11_must_12 : decode cX11_must 12 = .ok (.ifCond .ne 12, 3) := by decide +kernel
theorem dX11_must_15 : decode cX11_must 15 = .ok (.aload_n 0, 1) := by decide +kernel
theorem dX11_must_16 : decode cX11_must 16 = .ok (.iconst 1, 1) := by decide +kernel
theorem dX11_must_17 : decode cX11_must 17 = .ok (.aload_n 0, 1) := by decide +kernel
theorem dX11_must_18 : decode cX11_must 18 = .ok (.getfield 75, 3) := by decide +kernel
theorem dX11_must_21 : decode cX11_must 21 = .ok (.invokevirtual 121, 3) := by decide +kernel
theorem dX11_must_24 : decode cX11_must 24 = .ok (.return_, 1) := by decide +kernel
theorem dX11_mustName_0 : decode cX11_mustName 0 = .ok (.aload_n 0, 1) := by decide +kernel
theorem dX11_mustName_1 : decode cX11_mustName 1 = .ok (.getfield 84, 3) := by decide +kernel
theorem dX11_mustName_4 : decode cX11_mustName 4 = .ok (.iconst 2, 1) := by decide +kernel
theorem dX11_mustName_5 : decode cX11_mustName 5 = .ok (.if_icmp .ne 75, 3) := by decide +kernel
theorem dX11_mustName_8 : decode cX11_mustName 8 = .ok (.aload_n 0, 1) := by decide +kernel
theorem dX11_mustName_9 : decode cX11_mustName 9 = .ok (.ldc 125, 2) := by decide +kernel
theorem dX11_mustName_11 : decode cX11_mustName 11 = .ok (.invokevirtual 111, 3) := by decide +kernel
theorem dX11_mustName_14 : decode cX11_mustName 14 = .ok (.ifCond .ne 66, 3) := by decide +kernel
theorem dX11_mustName_17 : decode cX11_mustName 17 = .ok (.aload_n 0, 1) := by decide +kernel
theorem dX11_mustName_18 : decode cX11_mustName 18 = .ok (.ldc 127, 2) := by decide +kernel
theorem dX11_mustName_20 : decode cX11_mustName 20 = .ok (.invokevirtual 111, 3) := by decide +kernel
theorem dX11_mustName_23 : decode cX11_mustName 23 = .ok (.ifCond .ne 57, 3) := by decide +kernel
theorem dX11_mustName_26 : decode cX11_mustName 26 = .ok (.aload_n 0, 1) := by decide +kernel
theorem dX11_mustName_27 : decode cX11_mustName 27 = .ok (.ldc 129, 2) := by decide +kernel
theorem dX11_mustName_29 : decode cX11_mustName 29 = .ok (.invokevirtual 111, 3) := by decide +kernel
theorem dX11_mustName_32 : decode cX11_mustName 32 = .ok (.ifCond .ne 48, 3) := by decide +kernel
theorem dX11_mustName_35 : decode cX11_mustName 35 = .ok (.aload_n 0, 1) := by decide +kernel
theorem dX11_mustName_36 : decode cX11_mustName 36 = .ok (.ldc 131, 2) := by decide +kernel
theorem dX11_mustName_38 : decode cX11_mustName 38 = .ok (.invokevirtual 111, 3) := by decide +kernel
theorem dX11_mustName_41 : decode cX11_mustName 41 = .ok (.ifCond .ne 39, 3) := by decide +kernel
theorem dX11_mustName_44 : decode cX11_mustName 44 = .ok (.aload_n 0, 1) := by decide +kernel
theorem dX11_mustName_45 : decode cX11_mustName 45 = .ok (.ldc 133, 2) := by decide +kernel
theorem dX11_mustName_47 : decode cX11_mustName 47 = .ok (.invokevirtual 111, 3) := by decide +kernel
theorem dX11_mustName_50 : decode cX11_mustName 50 = .ok (.ifCond .ne 30, 3) := by decide +kernel
theorem dX11_mustName_53 : decode cX11_mustName 53 = .ok (.aload_n 0, 1) := by decide +kernel
theorem dX11_mustName_54 : decode cX11_mustName 54 = .ok (.ldc 135, 2) := by decide +kernel
theorem dX11_mustName_56 : decode cX11_mustName 56 = .ok (.invokevirtual 111, 3) := by decide +kernel
theorem dX11_mustName_59 : decode cX11_mustName 59 = .ok (.ifCond .ne 21, 3) := by decide +kernel
theorem dX11_mustName_62 : decode cX11_mustName 62 = .ok (.aload_n 0, 1) := by decide +kernel
theorem dX11_mustName_63 : decode cX11_mustName 63 = .ok (.ldc 137, 2) := by decide +kernel
theorem dX11_mustName_65 : decode cX11_mustName 65 = .ok (.invokevirtual 111, 3) := by decide +kernel
theorem dX11_mustName_68 : decode cX11_mustName 68 = .ok (.ifCond .ne 12, 3) := by decide +kernel
theorem dX11_mustName_71 : decode cX11_mustName 71 = .ok (.aload_n 0, 1) := by decide +kernel
theorem dX11_mustName_72 : decode cX11_mustName 72 = .ok (.ldc 139, 2) := by decide +kernel
theorem dX11_mustName_74 : decode cX11_mustName 74 = .ok (.invokevirtual 111, 3) := by decide +kernel
theorem dX11_mustName_77 : decode cX11_mustName 77 = .ok (.ifCond .eq 12, 3) := by decide +kernel
theorem dX11_mustName_80 : decode cX11_mustName 80 = .ok (.aload_n 0, 1) := by decide +kernel
theorem dX11_mustName_81 : decode cX11_mustName 81 = .ok (.iconst 1, 1) := by decide +kernel
theorem dX11_mustName_82 : decode cX11_mustName 82 = .ok (.aload_n 0, 1) := by decide +kernel
theorem dX11_mustName_83 : decode cX11_mustName 83 = .ok (.getfield 75, 3) := by decide +kernel
theorem dX11_mustName_86 : decode cX11_mustName 86 = .ok (.invokevirtual 121, 3) := by decide +kernel
theorem dX11_mustName_89 : decode cX11_mustName 89 = .ok (.return_, 1) := by decide +kernel
theorem dX11_find_0 : decode cX11_find 0 = .ok (.iconst 0, 1) := by decide +kernel
theorem dX11_find_1 : decode cX11_find 1 = .ok (.istore_n 1, 1) := by decide +kernel
theorem dX11_find_2 : decode cX11_find 2 = .ok (.iload_n 1, 1) := by decide +kernel
theorem dX11_find_3 : decode cX11_find 3 = .ok (.bipush 18, 2) := by decide +kernel
theorem dX11_find_5 : decode cX11_find 5 = .ok (.if_icmp .ge 101, 3) := by decide +kernel
theorem dX11_find_8 : decode cX11_find 8 = .ok (.aload_n 0, 1) := by decide +kernel
theorem dX11_find_9 : decode cX11_find 9 = .ok (.getfield 23, 3) := by decide +kernel
theorem dX11_find_12 : decode cX11_find 12 = .ok (.sipush 171, 3) := by decide +kernel
theorem dX11_find_15 : decode cX11_find 15 = .ok (.iload_n 1, 1) := by decide +kernel
theorem dX11_find_16 : decode cX11_find 16 = .ok (.iadd, 1) := by decide +kernel
theorem dX11_find_17 : decode cX11_find 17 = .ok (.iaload, 1) := by decide +kernel
theorem dX11_find_18 : decode cX11_find 18 = .ok (.ifCond .le 24, 3) := by decide +kernel
theorem dX11_find_21 : decode cX11_find 21 = .ok (.aload_n 0, 1) := by decide +kernel
theorem dX11_find_22 : decode cX11_find 22 = .ok (.getfield 23, 3) := by decide +kernel
theorem dX11_find_25 : decode cX11_find 25 = .ok (.sipush 171, 3) := by decide +kernel
theorem dX11_find_28 : decode cX11_find 28 = .ok (.iload_n 1, 1) := by decide +kernel
theorem dX11_find_29 : decode cX11_find 29 = .ok (.iadd, 1) := by decide +kernel
theorem dX11_find_30 : decode cX11_find 30 = .ok (.iaload, 1) := by decide +kernel
theorem dX11_find_31 : decode cX11_find 31 = .ok (.aload_n 0, 1) := by decide +kernel
theorem dX11_find_32 : decode cX11_find 32 = .ok (.getfield 78, 3) := by decide +kernel
theorem dX11_find_35 : decode cX11_find 35 = .ok (.if_icmp .ne 7, 3) := by decide +kernel
theorem dX11_find_38 : decode cX11_find 38 = .ok (.iconst 1, 1) := by decide +kernel
theorem dX11_find_39 : decode cX11_find 39 = .ok (.goto 4, 3) := by decide +kernel
theorem dX11_find_42 : decode cX11_find 42 = .ok (.iconst 0, 1) := by decide +kernel
theorem dX11_find_43 : decode cX11_find 43 = .ok (.istore_n 2, 1) := by decide +kernel
theorem dX11_find_44 : decode cX11_find 44 = .ok (.iconst 0, 1) := by decide +kernel
theorem dX11_find_45 : decode cX11_find 45 = .ok (.istore_n 3, 1) := by decide +kernel
theorem dX11_find_46 : decode cX11_find 46 = .ok (.iload_n 3, 1) := by decide +kernel
theorem dX11_find_47 : decode cX11_find 47 = .ok (.aload_n 0, 1) := by decide +kernel
theorem dX11_find_48 : decode cX11_find 48 = .ok (.getfield 78, 3) := by decide +kernel
theorem dX11_find_51 : decode cX11_find 51 = .ok (.if_icmp .ge 43, 3) := by decide +kernel
theorem dX11_find_54 : decode cX11_find 54 = .ok (.iload_n 2, 1) := by decide +kernel
theorem dX11_find_55 : decode cX11_find 55 = .ok (.ifCond .eq 39, 3) := by decide +kernel
theorem dX11_find_58 : decode cX11_find 58 = .ok (.aload_n 0, 1) := by decide +kernel
theorem dX11_find_59 : decode cX11_find 59 = .ok (.getfield 23, 3) := by decide +kernel
theorem dX11_find_62 : decode cX11_find 62 = .ok (.sipush 189, 3) := by decide +kernel
theorem dX11_find_65 : decode cX11_find 65 = .ok (.bipush 8, 2) := by decide +kernel
theorem dX11_find_67 : decode cX11_find 67 = .ok (.iload_n 1, 1) := by decide +kernel
theorem dX11_find_68 : decode cX11_find 68 = .ok (.imul, 1) := by decide +kernel
theorem dX11_find_69 : decode cX11_find 69 = .ok (.iadd, 1) := by decide +kernel
theorem dX11_find_70 : decode cX11_find 70 = .ok (.iload_n 3, 1) := by decide +kernel
theorem dX11_find_71 : decode cX11_find 71 = .ok (.iadd, 1) := by decide +kernel
theorem dX11_find_72 : decode cX11_find 72 = .ok (.iaload, 1) := by decide +kernel
theorem dX11_find_73 : decode cX11_find 73 = .ok (.aload_n 0, 1) := by decide +kernel
theorem dX11_find_74 : decode cX11_find 74 = .ok (.getfield 17, 3) := by decide +kernel
theorem dX11_find_77 : decode cX11_find 77 = .ok (.iload_n 3, 1) := by decide +kernel
theorem dX11_find_78 : decode cX11_find 78 = .ok (.iaload, 1) := by decide +kernel
theorem dX11_find_79 : decode cX11_find 79 = .ok (.if_icmp .ne 7, 3) := by decide +kernel
theorem dX11_find_82 : decode cX11_find 82 = .ok (.iconst 1, 1) := by decide +kernel
theorem dX11_find_83 : decode cX11_find 83 = .ok (.goto 4, 3) := by decide +kernel
theorem dX11_find_86 : decode cX11_find 86 = .ok (.iconst 0, 1) := by decide +kernel
theorem dX11_find_87 : decode cX11_find 87 = .ok (.istore_n 2, 1) := by decide +kernel
theorem dX11_find_88 : decode cX11_find 88 = .ok (.iinc 3 1, 3) := by decide +kernel
theorem dX11_find_91 : decode cX11_find 91 = .ok (.goto (-45), 3) := by decide +kernel
theorem dX11_find_94 : decode cX11_find 94 = .ok (.iload_n 2, 1) := by decide +kernel
theorem dX11_find_95 : decode cX11_find 95 = .ok (.ifCond .eq 5, 3) := by decide +kernel
theorem dX11_find_98 : decode cX11_find 98 = .ok (.iload_n 1, 1) := by decide +kernel
theorem dX11_find_99 : decode cX11_find 99 = .ok (.ireturn, 1) := by decide +kernel
theorem dX11_find_100 : decode cX11_find 100 = .ok (.iinc 1 1, 3) := by decide +kernel
theorem dX11_find_103 : decode cX11_find 103 = .ok (.goto (-101), 3) := by decide +kernel
theorem dX11_find_106 : decode cX11_find 106 = .ok (.iconst (-1), 1) := by decide +kernel
theorem dX11_find_107 : decode cX11_find 107 = .ok (.ireturn, 1) := by decide +kernel
theorem dX11_newName_0 : decode cX11_newName 0 = .ok (.aload_n 0, 1) := by decide +kernel
theorem dX11_newName_1 : decode cX11_newName 1 = .ok (.getfield 94, 3) := by decide +kernel
theorem dX11_newName_4 : decode cX11_newName 4 = .ok (.ifCond .eq 4, 3) := by decide +kernel
theorem dX11_newName_7 : decode cX11_newName 7 = .ok (.return_, 1) := by decide +kernel
theorem dX11_newName_8 : decode cX11_newName 8 = .ok (.aload_n 0, 1) := by decide +kernel
theorem dX11_newName_9 : decode cX11_newName 9 = .ok (.invokevirtual 141, 3) := by decide +kernel
theorem dX11_newName_12 : decode cX11_newName 12 = .ok (.aload_n 0, 1) := by decide +kernel
theorem dX11_newName_13 : decode cX11_newName 13 = .ok (.getfield 94, 3) := by decide +kernel
theorem dX11_newName_16 : decode cX11_newName 16 = .ok (.ifCond .ne 19, 3) := by decide +kernel
theorem dX11_newName_19 : decode cX11_newName 19 = .ok (.aload_n 0, 1) := by decide +kernel
theorem dX11_newName_20 : decode cX11_newName 20 = .ok (.invokevirtual 144, 3) := by decide +kernel
theorem dX11_newName_23 : decode cX11_newName 23 = .ok (.ifCond .lt 12, 3) := by decide +kernel
theorem dX11_newName_26 : decode cX11_newName 26 = .ok (.aload_n 0, 1) := by decide +kernel
theorem dX11_newName_27 : decode cX11_newName 27 = .ok (.iconst 3, 1) := by decide +kernel
theorem dX11_newName_28 : decode cX11_newName 28 = .ok (.aload_n 0, 1) := by decide +kernel
theorem dX11_newName_29 : decode cX11_newName 29 = .ok (.getfield 75, 3) := by decide +kernel
theorem dX11_newName_32 : decode cX11_newName 32 = .ok (.invokevirtual 121, 3) := by decide +kernel
theorem dX11_newName_35 : decode cX11_newName 35 = .ok (.aload_n 0, 1) := by decide +kernel
theorem dX11_newName_36 : decode cX11_newName 36 = .ok (.getfield 94, 3) := by decide +kernel
theorem dX11_newName_39 : decode cX11_newName 39 = .ok (.ifCond .eq 4, 3) := by decide +kernel
theorem dX11_newName_42 : decode cX11_newName 42 = .ok (.return_, 1) := by decide +kernel
theorem dX11_newName_43 : decode cX11_newName 43 = .ok (.iconst 0, 1) := by decide +kernel
theorem dX11_newName_44 : decode cX11_newName 44 = .ok (.istore_n 2, 1) := by decide +kernel
theorem dX11_newName_45 : decode cX11_newName 45 = .ok (.iload_n 2, 1) := by decide +kernel
theorem dX11_newName_46 : decode cX11_newName 46 = .ok (.aload_n 0, 1) := by decide +kernel
theorem dX11_newName_47 : decode cX11_newName 47 = .ok (.getfield 78, 3) := by decide +kernel
theorem dX11_newName_50 : decode cX11_newName 50 = .ok (.if_icmp .ge 30, 3) := by decide +kernel
theorem dX11_newName_53 : decode cX11_newName 53 = .ok (.aload_n 0, 1) := by decide +kernel
theorem dX11_newName_54 : decode cX11_newName 54 = .ok (.getfield 23, 3) := by decide +kernel
theorem dX11_newName_57 : decode cX11_newName 57 = .ok (.sipush 189, 3) := by decide +kernel
theorem dX11_newName_60 : decode cX11_newName 60 = .ok (.bipush 8, 2) := by decide +kernel
theorem dX11_newName_62 : decode cX11_newName 62 = .ok (.iload_n 1, 1) := by decide +kernel
theorem dX11_newName_63 : decode cX11_newName 63 = .ok (.imul, 1) := by decide +kernel
theorem dX11_newName_64 : decode cX11_newName 64 = .ok (.iadd, 1) := by decide +kernel
theorem dX11_newName_65 : decode cX11_newName 65 = .ok (.iload_n 2, 1) := by decide +kernel
theorem dX11_newName_66 : decode cX11_newName 66 = .ok (.iadd, 1) := by decide +kernel
theorem dX11_newName_67 : decode cX11_newName 67 = .ok (.aload_n 0, 1) := by decide +kernel
theorem dX11_newName_68 : decode cX11_newName 68 = .ok (.getfield 17, 3) := by decide +kernel
theorem dX11_newName_71 : decode cX11_newName 71 = .ok (.iload_n 2, 1) := by decide +kernel
theorem dX11_newName_72 : decode cX11_newName 72 = .ok (.iaload, 1) := by decide +kernel
theorem dX11_newName_73 : decode cX11_newName 73 = .ok (.iastore, 1) := by decide +kernel
theorem dX11_newName_74 : decode cX11_newName 74 = .ok (.iinc 2 1, 3) := by decide +kernel
theorem dX11_newName_77 : decode cX11_newName 77 = .ok (.goto (-32), 3) := by decide +kernel
theorem dX11_newName_80 : decode cX11_newName 80 = .ok (.aload_n 0, 1) := by decide +kernel
theorem dX11_newName_81 : decode cX11_newName 81 = .ok (.getfield 23, 3) := by decide +kernel
theorem dX11_newName_84 : decode cX11_newName 84 = .ok (.sipush 171, 3) := by decide +kernel
theorem dX11_newName_87 : decode cX11_newName 87 = .ok (.iload_n 1, 1) := by decide +kernel
theorem dX11_newName_88 : decode cX11_newName 88 = .ok (.iadd, 1) := by decide +kernel
theorem dX11_newName_89 : decode cX11_newName 89 = .ok (.aload_n 0, 1) := by decide +kernel
theorem dX11_newName_90 : decode cX11_newName 90 = .ok (.getfield 78, 3) := by decide +kernel
theorem dX11_newName_93 : decode cX11_newName 93 = .ok (.iastore, 1) := by decide +kernel
theorem dX11_newName_94 : decode cX11_newName 94 = .ok (.aload_n 0, 1) := by decide +kernel
theorem dX11_newName_95 : decode cX11_newName 95 = .ok (.invokevirtual 115, 3) := by decide +kernel
theorem dX11_newName_98 : decode cX11_newName 98 = .ok (.return_, 1) := by decide +kernel
theorem dX11_named_0 : decode cX11_named 0 = .ok (.aload_n 0, 1) := by decide +kernel
theorem dX11_named_1 : decode cX11_named 1 = .ok (.getfield 94, 3) := by decide +kernel
theorem dX11_named_4 : decode cX11_named 4 = .ok (.ifCond .eq 5, 3) := by decide +kernel
theorem dX11_named_7 : decode cX11_named 7 = .ok (.iconst 0, 1) := by decide +kernel
theorem dX11_named_8 : decode cX11_named 8 = .ok (.ireturn, 1) := by decide +kernel
theorem dX11_named_9 : decode cX11_named 9 = .ok (.aload_n 0, 1) := by decide +kernel
theorem dX11_named_10 : decode cX11_named 10 = .ok (.invokevirtual 141, 3) := by decide +kernel
theorem dX11_named_13 : decode cX11_named 13 = .ok (.aload_n 0, 1) := by decide +kernel
theorem dX11_named_14 : decode cX11_named 14 = .ok (.getfield 94, 3) := by decide +kernel
theorem dX11_named_17 : decode cX11_named 17 = .ok (.ifCond .eq 5, 3) := by decide +kernel
theorem dX11_named_20 : decode cX11_named 20 = .ok (.iconst 0, 1) := by decide +kernel
theorem dX11_named_21 : decode cX11_named 21 = .ok (.ireturn, 1) := by decide +kernel
theorem dX11_named_22 : decode cX11_named 22 = .ok (.aload_n 0, 1) := by decide +kernel
theorem dX11_named_23 : decode cX11_named 23 = .ok (.invokevirtual 144, 3) := by decide +kernel
theorem dX11_named_26 : decode cX11_named 26 = .ok (.istore_n 3, 1) := by decide +kernel
theorem dX11_named_27 : decode cX11_named 27 = .ok (.iload_n 3, 1) := by decide +kernel
theorem dX11_named_28 : decode cX11_named 28 = .ok (.iload_n 1, 1) := by decide +kernel
theorem dX11_named_29 : decode cX11_named 29 = .ok (.iload_n 2, 1) := by decide +kernel
theorem dX11_named_30 : decode cX11_named 30 = .ok (.invokestatic 147, 3) := by decide +kernel
theorem dX11_named_33 : decode cX11_named 33 = .ok (.ifCond .ne 12, 3) := by decide +kernel
theorem dX11_named_36 : decode cX11_named 36 = .ok (.aload_n 0, 1) := by decide +kernel
theorem dX11_named_37 : decode cX11_named 37 = .ok (.iconst 2, 1) := by decide +kernel
theorem dX11_named_38 : decode cX11_named 38 = .ok (.aload_n 0, 1) := by decide +kernel
theorem dX11_named_39 : decode cX11_named 39 = .ok (.getfield 75, 3) := by decide +kernel
theorem dX11_named_42 : decode cX11_named 42 = .ok (.invokevirtual 121, 3) := by decide +kernel
theorem dX11_named_45 : decode cX11_named 45 = .ok (.aload_n 0, 1) := by decide +kernel
theorem dX11_named_46 : decode cX11_named 46 = .ok (.getfield 94, 3) := by decide +kernel
theorem dX11_named_49 : decode cX11_named 49 = .ok (.ifCond .eq 7, 3) := by decide +kernel
theorem dX11_named_52 : decode cX11_named 52 = .ok (.iconst 0, 1) := by decide +kernel
theorem dX11_named_53 : decode cX11_named 53 = .ok (.goto 6, 3) := by decide +kernel
theorem dX11_named_56 : decode cX11_named 56 = .ok (.iload_n 3, 1) := by decide +kernel
theorem dX11_named_57 : decode cX11_named 57 = .ok (.iload_n 1, 1) := by decide +kernel
theorem dX11_named_58 : decode cX11_named 58 = .ok (.isub, 1) := by decide +kernel
theorem dX11_named_59 : decode cX11_named 59 = .ok (.ireturn, 1) := by decide +kernel
theorem dX11_wordHere_0 : decode cX11_wordHere 0 = .ok (.aload_n 0, 1) := by decide +kernel
theorem dX11_wordHere_1 : decode cX11_wordHere 1 = .ok (.iconst 0, 1) := by decide +kernel
theorem dX11_wordHere_2 : decode cX11_wordHere 2 = .ok (.bipush 9, 2) := by decide +kernel
theorem dX11_wordHere_4 : decode cX11_wordHere 4 = .ok (.invokevirtual 151, 3) := by decide +kernel
theorem dX11_wordHere_7 : decode cX11_wordHere 7 = .ok (.ireturn, 1) := by decide +kernel
theorem dX11_personHere_0 : decode cX11_personHere 0 = .ok (.aload_n 0, 1) := by decide +kernel
theorem dX11_personHere_1 : decode cX11_personHere 1 = .ok (.bipush 10, 2) := by decide +kernel
theorem dX11_personHere_3 : decode cX11_personHere 3 = .ok (.bipush 17, 2) := by decide +kernel
theorem dX11_personHere_5 : decode cX11_personHere 5 = .ok (.invokevirtual 151, 3) := by decide +kernel
theorem dX11_personHere_8 : decode cX11_personHere 8 = .ok (.ireturn, 1) := by decide +kernel
theorem dX11_personPassed_0 : decode cX11_personPassed 0 = .ok (.aload_n 0, 1) := by decide +kernel
theorem dX11_personPassed_1 : decode cX11_personPassed 1 = .ok (.invokevirtual 155, 3) := by decide +kernel
theorem dX11_personPassed_4 : decode cX11_personPassed 4 = .ok (.istore_n 1, 1) := by decide +kernel
theorem dX11_personPassed_5 : decode cX11_personPassed 5 = .ok (.aload_n 0, 1) := by decide +kernel
theorem dX11_personPassed_6 : decode cX11_personPassed 6 = .ok (.getfield 94, 3) := by decide +kernel
theorem dX11_personPassed_9 : decode cX11_personPassed 9 = .ok (.ifCond .ne 7, 3) := by decide +kernel
theorem dX11_personPassed_12 : decode cX11_personPassed 12 = .ok (.aload_n 0, 1) := by decide +kernel
theorem dX11_personPassed_13 : decode cX11_personPassed 13 = .ok (.invokevirtual 115, 3) := by decide +kernel
theorem dX11_personPassed_16 : decode cX11_personPassed 16 = .ok (.iload_n 1, 1) := by decide +kernel
theorem dX11_personPassed_17 : decode cX11_personPassed 17 = .ok (.ireturn, 1) := by decide +kernel
theorem dX11_numberHere_0 : decode cX11_numberHere 0 = .ok (.aload_n 0, 1) := by decide +kernel
theorem dX11_numberHere_1 : decode cX11_numberHere 1 = .ok (.getfield 94, 3) := by decide +kernel
theorem dX11_numberHere_4 : decode cX11_numberHere 4 = .ok (.ifCond .eq 5, 3) := by decide +kernel
theorem dX11_numberHere_7 : decode cX11_numberHere 7 = .ok (.iload_n 1, 1) := by decide +kernel
theorem dX11_numberHere_8 : decode cX11_numberHere 8 = .ok (.ireturn, 1) := by decide +kernel
theorem dX11_numberHere_9 : decode cX11_numberHere 9 = .ok (.aload_n 0, 1) := by decide +kernel
theorem dX11_numberHere_10 : decode cX11_numberHere 10 = .ok (.getfield 84, 3) := by decide +kernel
theorem dX11_numberHere_13 : decode cX11_numberHere 13 = .ok (.iconst 3, 1) := by decide +kernel
theorem dX11_numberHere_14 : decode cX11_numberHere 14 = .ok (.if_icmp .eq 15, 3) := by decide +kernel
theorem dX11_numberHere_17 : decode cX11_numberHere 17 = .ok (.aload_n 0, 1) := by decide +kernel
theorem dX11_numberHere_18 : decode cX11_numberHere 18 = .ok (.iconst 1, 1) := by decide +kernel
theorem dX11_numberHere_19 : decode cX11_numberHere 19 = .ok (.aload_n 0, 1) := by decide +kernel
theorem dX11_numberHere_20 : decode cX11_numberHere 20 = .ok (.getfield 75, 3) := by decide +kernel
theorem dX11_numberHere_23 : decode cX11_numberHere 23 = .ok (.invokevirtual 121, 3) := by decide +kernel
theorem dX11_numberHere_26 : decode cX11_numberHere 26 = .ok (.goto 24, 3) := by decide +kernel
theorem dX11_numberHere_29 : decode cX11_numberHere 29 = .ok (.aload_n 0, 1) := by decide +kernel
theorem dX11_numberHere_30 : decode cX11_numberHere 30 = .ok (.getfield 81, 3) := by decide +kernel
theorem dX11_numberHere_33 : decode cX11_numberHere 33 = .ok (.iload_n 1, 1) := by decide +kernel
theorem dX11_numberHere_34 : decode cX11_numberHere 34 = .ok (.iload_n 2, 1) := by decide +kernel
theorem dX11_numberHere_35 : decode cX11_numberHere 35 = .ok (.invokestatic 147, 3) := by decide +kernel
theorem dX11_numberHere_38 : decode cX11_numberHere 38 = .ok (.ifCond .ne 12, 3) := by decide +kernel
theorem dX11_numberHere_41 : decode cX11_numberHere 41 = .ok (.aload_n 0, 1) := by decide +kernel
theorem dX11_numberHere_42 : decode cX11_numberHere 42 = .ok (.iconst 4, 1) := by decide +kernel
theorem dX11_numberHere_43 : decode cX11_numberHere 43 = .ok (.aload_n 0, 1) := by decide +kernel
theorem dX11_numberHere_44 : decode cX11_numberHere 44 = .ok (.getfield 75, 3) := by decide +kernel
theorem dX11_numberHere_47 : decode cX11_numberHere 47 = .ok (.invokevirtual 121, 3) := by decide +kernel
theorem dX11_numberHere_50 : decode cX11_numberHere 50 = .ok (.aload_n 0, 1) := by decide +kernel
theorem dX11_numberHere_51 : decode cX11_numberHere 51 = .ok (.getfield 94, 3) := by decide +kernel
theorem dX11_numberHere_54 : decode cX11_numberHere 54 = .ok (.ifCond .eq 7, 3) := by decide +kernel
theorem dX11_numberHere_57 : decode cX11_numberHere 57 = .ok (.iload_n 1, 1) := by decide +kernel
theorem dX11_numberHere_58 : decode cX11_numberHere 58 = .ok (.goto 7, 3) := by decide +kernel
theorem dX11_numberHere_61 : decode cX11_numberHere 61 = .ok (.aload_n 0, 1) := by decide +kernel
theorem dX11_numberHere_62 : decode cX11_numberHere 62 = .ok (.getfield 81, 3) := by decide +kernel
theorem dX11_numberHere_65 : decode cX11_numberHere 65 = .ok (.ireturn, 1) := by decide +kernel
