theorem dX11_eye_0 : decode cX11_eye 0 = .ok (.aload_n 0, 1) := by decide +kernel
theorem dX11_eye_1 : decode cX11_eye 1 = .ok (.invokevirtual 168, 3) := by decide +kernel
theorem dX11_eye_4 : decode cX11_eye 4 = .ok (.aload_n 0, 1) := by decide +kernel
theorem dX11_eye_5 : decode cX11_eye 5 = .ok (.iload_n 1, 1) := by decide +kernel
theorem dX11_eye_6 : decode cX11_eye 6 = .ok (.invokevirtual 294, 3) := by decide +kernel
theorem dX11_eye_9 : decode cX11_eye 9 = .ok (.ifCond .eq 20, 3) := by decide +kernel
theorem dX11_eye_12 : decode cX11_eye 12 = .ok (.aload_n 0, 1) := by decide +kernel
theorem dX11_eye_13 : decode cX11_eye 13 = .ok (.iload_n 2, 1) := by decide +kernel
theorem dX11_eye_14 : decode cX11_eye 14 = .ok (.invokevirtual 294, 3) := by decide +kernel
theorem dX11_eye_17 : decode cX11_eye 17 = .ok (.ifCond .eq 12, 3) := by decide +kernel
theorem dX11_eye_20 : decode cX11_eye 20 = .ok (.aload_n 0, 1) := by decide +kernel
theorem dX11_eye_21 : decode cX11_eye 21 = .ok (.iload_n 1, 1) := by decide +kernel
theorem dX11_eye_22 : decode cX11_eye 22 = .ok (.iload_n 2, 1) := by decide +kernel
theorem dX11_eye_23 : decode cX11_eye 23 = .ok (.invokevirtual 281, 3) := by decide +kernel
theorem dX11_eye_26 : decode cX11_eye 26 = .ok (.goto 8, 3) := by decide +kernel
theorem dX11_eye_29 : decode cX11_eye 29 = .ok (.aload_n 0, 1) := by decide +kernel
theorem dX11_eye_30 : decode cX11_eye 30 = .ok (.iconst 1, 1) := by decide +kernel
theorem dX11_eye_31 : decode cX11_eye 31 = .ok (.invokevirtual 171, 3) := by decide +kernel
theorem dX11_eye_34 : decode cX11_eye 34 = .ok (.ireturn, 1) := by decide +kernel
theorem dX11_person_0 : decode cX11_person 0 = .ok (.aload_n 0, 1) := by decide +kernel
theorem dX11_person_1 : decode cX11_person 1 = .ok (.invokevirtual 168, 3) := by decide +kernel
theorem dX11_person_4 : decode cX11_person 4 = .ok (.aload_n 0, 1) := by decide +kernel
theorem dX11_person_5 : decode cX11_person 5 = .ok (.iload_n 1, 1) := by decide +kernel
theorem dX11_person_6 : decode cX11_person 6 = .ok (.invokevirtual 297, 3) := by decide +kernel
theorem dX11_person_9 : decode cX11_person 9 = .ok (.ifCond .eq 12, 3) := by decide +kernel
theorem dX11_person_12 : decode cX11_person 12 = .ok (.iload_n 2, 1) := by decide +kernel
theorem dX11_person_13 : decode cX11_person 13 = .ok (.iconst 0, 1) := by decide +kernel
theorem dX11_person_14 : decode cX11_person 14 = .ok (.iconst 4, 1) := by decide +kernel
theorem dX11_person_15 : decode cX11_person 15 = .ok (.invokestatic 147, 3) := by decide +kernel
theorem dX11_person_18 : decode cX11_person 18 = .ok (.ifCond .ne 9, 3) := by decide +kernel
theorem dX11_person_21 : decode cX11_person 21 = .ok (.aload_n 0, 1) := by decide +kernel
theorem dX11_person_22 : decode cX11_person 22 = .ok (.iconst 1, 1) := by decide +kernel
theorem dX11_person_23 : decode cX11_person 23 = .ok (.invokevirtual 171, 3) := by decide +kernel
theorem dX11_person_26 : decode cX11_person 26 = .ok (.ireturn, 1) := by decide +kernel
theorem dX11_person_27 : decode cX11_person 27 = .ok (.iload_n 2, 1) := by decide +kernel
theorem dX11_person_28 : decode cX11_person 28 = .ok (.tableswitch 65 0 3 #[32, 38, 45, 55], 32) := by decide +kernel
theorem dX11_person_60 : decode cX11_person 60 = .ok (.aload_n 0, 1) := by decide +kernel
theorem dX11_person_61 : decode cX11_person 61 = .ok (.iload_n 1, 1) := by decide +kernel
theorem dX11_person_62 : decode cX11_person 62 = .ok (.invokevirtual 287, 3) := by decide +kernel
theorem dX11_person_65 : decode cX11_person 65 = .ok (.ireturn, 1) := by decide +kernel
theorem dX11_person_66 : decode cX11_person 66 = .ok (.aload_n 0, 1) := by decide +kernel
theorem dX11_person_67 : decode cX11_person 67 = .ok (.getfield 26, 3) := by decide +kernel
theorem dX11_person_70 : decode cX11_person 70 = .ok (.iload_n 1, 1) := by decide +kernel
theorem dX11_person_71 : decode cX11_person 71 = .ok (.iaload, 1) := by decide +kernel
theorem dX11_person_72 : decode cX11_person 72 = .ok (.ireturn, 1) := by decide +kernel
theorem dX11_person_73 : decode cX11_person 73 = .ok (.aload_n 0, 1) := by decide +kernel
theorem dX11_person_74 : decode cX11_person 74 = .ok (.getfield 26, 3) := by decide +kernel
theorem dX11_person_77 : decode cX11_person 77 = .ok (.bipush 8, 2) := by decide +kernel
theorem dX11_person_79 : decode cX11_person 79 = .ok (.iload_n 1, 1) := by decide +kernel
theorem dX11_person_80 : decode cX11_person 80 = .ok (.iadd, 1) := by decide +kernel
theorem dX11_person_81 : decode cX11_person 81 = .ok (.iaload, 1) := by decide +kernel
theorem dX11_person_82 : decode cX11_person 82 = .ok (.ireturn, 1) := by decide +kernel
theorem dX11_person_83 : decode cX11_person 83 = .ok (.aload_n 0, 1) := by decide +kernel
theorem dX11_person_84 : decode cX11_person 84 = .ok (.getfield 26, 3) := by decide +kernel
theorem dX11_person_87 : decode cX11_person 87 = .ok (.bipush 16, 2) := by decide +kernel
theorem dX11_person_89 : decode cX11_person 89 = .ok (.iload_n 1, 1) := by decide +kernel
theorem dX11_person_90 : decode cX11_person 90 = .ok (.iadd, 1) := by decide +kernel
theorem dX11_person_91 : decode cX11_person 91 = .ok (.iaload, 1) := by decide +kernel
theorem dX11_person_92 : decode cX11_person 92 = .ok (.ireturn, 1) := by decide +kernel
theorem dX11_person_93 : decode cX11_person 93 = .ok (.aload_n 0, 1) := by decide +kernel
theorem dX11_person_94 : decode cX11_person 94 = .ok (.getfield 20, 3) := by decide +kernel
theorem dX11_person_97 : decode cX11_person 97 = .ok (.bipush 89, 2) := by decide +kernel
theorem dX11_person_99 : decode cX11_person 99 = .ok (.iconst 4, 1) := by decide +kernel
theorem dX11_person_100 : decode cX11_person 100 = .ok (.iload_n 1, 1) := by decide +kernel
theorem dX11_person_101 : decode cX11_person 101 = .ok (.imul, 1) := by decide +kernel
theorem dX11_person_102 : decode cX11_person 102 = .ok (.iadd, 1) := by decide +kernel
theorem dX11_person_103 : decode cX11_person 103 = .ok (.iconst 3, 1) := by decide +kernel
theorem dX11_person_104 : decode cX11_person 104 = .ok (.iadd, 1) := by decide +kernel
theorem dX11_person_105 : decode cX11_person 105 = .ok (.iaload, 1) := by decide +kernel
theorem dX11_person_106 : decode cX11_person 106 = .ok (.ireturn, 1) := by decide +kernel
theorem dX11_why_0 : decode cX11_why 0 = .ok (.iload_n 1, 1) := by decide +kernel
theorem dX11_why_1 : decode cX11_why 1 = .ok (.ifCond .ne 7, 3) := by decide +kernel
theorem dX11_why_4 : decode cX11_why 4 = .ok (.iconst 1, 1) := by decide +kernel
theorem dX11_why_5 : decode cX11_why 5 = .ok (.goto 15, 3) := by decide +kernel
theorem dX11_why_8 : decode cX11_why 8 = .ok (.iload_n 2, 1) := by decide +kernel
theorem dX11_why_9 : decode cX11_why 9 = .ok (.invokestatic 300, 3) := by decide +kernel
theorem dX11_why_12 : decode cX11_why 12 = .ok (.ifCond .eq 7, 3) := by decide +kernel
theorem dX11_why_15 : decode cX11_why 15 = .ok (.iconst 0, 1) := by decide +kernel
theorem dX11_why_16 : decode cX11_why 16 = .ok (.goto 4, 3) := by decide +kernel
theorem dX11_why_19 : decode cX11_why 19 = .ok (.iconst 2, 1) := by decide +kernel
theorem dX11_why_20 : decode cX11_why 20 = .ok (.ireturn, 1) := by decide +kernel
theorem dX11_ear_0 : decode cX11_ear 0 = .ok (.aload_n 0, 1) := by decide +kernel
theorem dX11_ear_1 : decode cX11_ear 1 = .ok (.invokevirtual 168, 3) := by decide +kernel
theorem dX11_ear_4 : decode cX11_ear 4 = .ok (.aload_n 0, 1) := by decide +kernel
theorem dX11_ear_5 : decode cX11_ear 5 = .ok (.aload_n 0, 1) := by decide +kernel
theorem dX11_ear_6 : decode cX11_ear 6 = .ok (.getfield 181, 3) := by decide +kernel
theorem dX11_ear_9 : decode cX11_ear 9 = .ok (.iload_n 1, 1) := by decide +kernel
theorem dX11_ear_10 : decode cX11_ear 10 = .ok (.invokevirtual 303, 3) := by decide +kernel
theorem dX11_ear_13 : decode cX11_ear 13 = .ok (.istore_n 2, 1) := by decide +kernel
theorem dX11_ear_14 : decode cX11_ear 14 = .ok (.iload_n 2, 1) := by decide +kernel
theorem dX11_ear_15 : decode cX11_ear 15 = .ok (.ifCond .eq 11, 3) := by decide +kernel
theorem dX11_ear_18 : decode cX11_ear 18 = .ok (.aload_n 0, 1) := by decide +kernel
theorem dX11_ear_19 : decode cX11_ear 19 = .ok (.iload_n 2, 1) := by decide +kernel
theorem dX11_ear_20 : decode cX11_ear 20 = .ok (.invokevirtual 171, 3) := by decide +kernel
theorem dX11_ear_23 : decode cX11_ear 23 = .ok (.goto 8, 3) := by decide +kernel
theorem dX11_ear_26 : decode cX11_ear 26 = .ok (.aload_n 0, 1) := by decide +kernel
theorem dX11_ear_27 : decode cX11_ear 27 = .ok (.iload_n 1, 1) := by decide +kernel
theorem dX11_ear_28 : decode cX11_ear 28 = .ok (.invokevirtual 307, 3) := by decide +kernel
theorem dX11_ear_31 : decode cX11_ear 31 = .ok (.ireturn, 1) := by decide +kernel
theorem dX11_areTwo_0 : decode cX11_areTwo 0 = .ok (.aload_n 0, 1) := by decide +kernel
theorem dX11_areTwo_1 : decode cX11_areTwo 1 = .ok (.iload_n 1, 1) := by decide +kernel
theorem dX11_areTwo_2 : decode cX11_areTwo 2 = .ok (.invokevirtual 297, 3) := by decide +kernel
theorem dX11_areTwo_5 : decode cX11_areTwo 5 = .ok (.ifCond .eq 20, 3) := by decide +kernel
theorem dX11_areTwo_8 : decode cX11_areTwo 8 = .ok (.aload_n 0, 1) := by decide +kernel
theorem dX11_areTwo_9 : decode cX11_areTwo 9 = .ok (.iload_n 2, 1) := by decide +kernel
theorem dX11_areTwo_10 : decode cX11_areTwo 10 = .ok (.invokevirtual 297, 3) := by decide +kernel
theorem dX11_areTwo_13 : decode cX11_areTwo 13 = .ok (.ifCond .eq 12, 3) := by decide +kernel
theorem dX11_areTwo_16 : decode cX11_areTwo 16 = .ok (.iload_n 1, 1) := by decide +kernel
theorem dX11_areTwo_17 : decode cX11_areTwo 17 = .ok (.iload_n 2, 1) := by decide +kernel
theorem dX11_areTwo_18 : decode cX11_areTwo 18 = .ok (.if_icmp .eq 7, 3) := by decide +kernel
theorem dX11_areTwo_21 : decode cX11_areTwo 21 = .ok (.iconst 1, 1) := by decide +kernel
theorem dX11_areTwo_22 : decode cX11_areTwo 22 = .ok (.goto 4, 3) := by decide +kernel
theorem dX11_areTwo_25 : decode cX11_areTwo 25 = .ok (.iconst 0, 1) := by decide +kernel
theorem dX11_areTwo_26 : decode cX11_areTwo 26 = .ok (.ireturn, 1) := by decide +kernel
theorem dX11_rhyme_0 : decode cX11_rhyme 0 = .ok (.aload_n 0, 1) := by decide +kernel
theorem dX11_rhyme_1 : decode cX11_rhyme 1 = .ok (.invokevirtual 168, 3) := by decide +kernel
theorem dX11_rhyme_4 : decode cX11_rhyme 4 = .ok (.aload_n 0, 1) := by decide +kernel
theorem dX11_rhyme_5 : decode cX11_rhyme 5 = .ok (.aload_n 0, 1) := by decide +kernel
theorem dX11_rhyme_6 : decode cX11_rhyme 6 = .ok (.iload_n 1, 1) := by decide +kernel
theorem dX11_rhyme_7 : decode cX11_rhyme 7 = .ok (.iload_n 2, 1) := by decide +kernel
theorem dX11_rhyme_8 : decode cX11_rhyme 8 = .ok (.invokevirtual 310, 3) := by decide +kernel
theorem dX11_rhyme_11 : decode cX11_rhyme 11 = .ok (.iload_n 3, 1) := by decide +kernel
theorem dX11_rhyme_12 : decode cX11_rhyme 12 = .ok (.invokevirtual 303, 3) := by decide +kernel
theorem dX11_rhyme_15 : decode cX11_rhyme 15 = .ok (.istore 4, 2) := by decide +kernel
theorem dX11_rhyme_17 : decode cX11_rhyme 17 = .ok (.iload 4, 2) := by decide +kernel
theorem dX11_rhyme_19 : decode cX11_rhyme 19 = .ok (.ifCond .eq 12, 3) := by decide +kernel
theorem dX11_rhyme_22 : decode cX11_rhyme 22 = .ok (.aload_n 0, 1) := by decide +kernel
theorem dX11_rhyme_23 : decode cX11_rhyme 23 = .ok (.iload 4, 2) := by decide +kernel
theorem dX11_rhyme_25 : decode cX11_rhyme 25 = .ok (.invokevirtual 171, 3) := by decide +kernel
theorem dX11_rhyme_28 : decode cX11_rhyme 28 = .ok (.goto 14, 3) := by decide +kernel
theorem dX11_rhyme_31 : decode cX11_rhyme 31 = .ok (.aload_n 0, 1) := by decide +kernel
theorem dX11_rhyme_32 : decode cX11_rhyme 32 = .ok (.iload_n 1, 1) := by decide +kernel
theorem dX11_rhyme_33 : decode cX11_rhyme 33 = .ok (.iload_n 2, 1) := by decide +kernel
theorem dX11_rhyme_34 : decode cX11_rhyme 34 = .ok (.aload_n 0, 1) := by decide +kernel
theorem dX11_rhyme_35 : decode cX11_rhyme 35 = .ok (.iload_n 3, 1) := by decide +kernel
theorem dX11_rhyme_36 : decode cX11_rhyme 36 = .ok (.invokevirtual 307, 3) := by decide +kernel
theorem dX11_rhyme_39 : decode cX11_rhyme 39 = .ok (.invokevirtual 313, 3) := by decide +kernel
theorem dX11_rhyme_42 : decode cX11_rhyme 42 = .ok (.ireturn, 1) := by decide +kernel
theorem dX11_with_0 : decode cX11_with 0 = .ok (.aload_n 0, 1) := by decide +kernel
theorem dX11_with_1 : decode cX11_with 1 = .ok (.invokevirtual 168, 3) := by decide +kernel
theorem dX11_with_4 : decode cX11_with 4 = .ok (.aload_n 0, 1) := by decide +kernel
theorem dX11_with_5 : decode cX11_with 5 = .ok (.aload_n 0, 1) := by decide +kernel
theorem dX11_with_6 : decode cX11_with 6 = .ok (.iload_n 1, 1) := by decide +kernel
theorem dX11_with_7 : decode cX11_with 7 = .ok (.invokevirtual 297, 3) := by decide +kernel
theorem dX11_with_10 : decode cX11_with 10 = .ok (.iload_n 2, 1) := by decide +kernel
theorem dX11_with_11 : decode cX11_with 11 = .ok (.invokevirtual 303, 3) := by decide +kernel
theorem dX11_with_14 : decode cX11_with 14 = .ok (.istore_n 3, 1) := by decide +kernel
theorem dX11_with_15 : decode cX11_with 15 = .ok (.iload_n 3, 1) := by decide +kernel
theorem dX11_with_16 : decode cX11_with 16 = .ok (.ifCond .eq 11, 3) := by decide +kernel
theorem dX11_with_19 : decode cX11_with 19 = .ok (.aload_n 0, 1) := by decide +kernel
theorem dX11_with_20 : decode cX11_with 20 = .ok (.iload_n 3, 1) := by decide +kernel
theorem dX11_with_21 : decode cX11_with 21 = .ok (.invokevirtual 171, 3) := by decide +kernel
theorem dX11_with_24 : decode cX11_with 24 = .ok (.goto 22, 3) := by decide +kernel
theorem dX11_with_27 : decode cX11_with 27 = .ok (.aload_n 0, 1) := by decide +kernel
theorem dX11_with_28 : decode cX11_with 28 = .ok (.iload_n 1, 1) := by decide +kernel
theorem dX11_with_29 : decode cX11_with 29 = .ok (.aload_n 0, 1) := by decide +kernel
theorem dX11_with_30 : decode cX11_with 30 = .ok (.getfield 26, 3) := by decide +kernel
theorem dX11_with_33 : decode cX11_with 33 = .ok (.bipush 8, 2) := by decide +kernel
theorem dX11_with_35 : decode cX11_with 35 = .ok (.iload_n 1, 1) := by decide +kernel
theorem dX11_with_36 : decode cX11_with 36 = .ok (.iadd, 1) := by decide +kernel
theorem dX11_with_37 : decode cX11_with 37 = .ok (.iaload, 1) := by decide +kernel
theorem dX11_with_38 : decode cX11_with 38 = .ok (.aload_n 0, 1) := by decide +kernel
theorem dX11_with_39 : decode cX11_with 39 = .ok (.iload_n 2, 1) := by decide +kernel
theorem dX11_with_40 : decode cX11_with 40 = .ok (.invokevirtual 307, 3) := by decide +kernel
theorem dX11_with_43 : decode cX11_with 43 = .ok (.invokevirtual 317, 3) := by decide +kernel
theorem dX11_with_46 : decode cX11_with 46 = .ok (.ireturn, 1) := by decide +kernel
theorem dX11_renamed_0 : decode cX11_renamed 0 = .ok (.aload_n 0, 1) := by decide +kernel
theorem dX11_renamed_1 : decode cX11_renamed 1 = .ok (.invokevirtual 168, 3) := by decide +kernel
theorem dX11_renamed_4 : decode cX11_renamed 4 = .ok (.aload_n 0, 1) := by decide +kernel
theorem dX11_renamed_5 : decode cX11_renamed 5 = .ok (.aload_n 0, 1) := by decide +kernel
theorem dX11_renamed_6 : decode cX11_renamed 6 = .ok (.iload_n 1, 1) := by decide +kernel
theorem dX11_renamed_7 : decode cX11_renamed 7 = .ok (.invokevirtual 297, 3) := by decide +kernel
theorem dX11_renamed_10 : decode cX11_renamed 10 = .ok (.ifCond .eq 15, 3) := by decide +kernel
theorem dX11_renamed_13 : decode cX11_renamed 13 = .ok (.aload_n 0, 1) := by decide +kernel
theorem dX11_renamed_14 : decode cX11_renamed 14 = .ok (.iload_n 2, 1) := by decide +kernel
theorem dX11_renamed_15 : decode cX11_renamed 15 = .ok (.invokevirtual 294, 3) := by decide +kernel
theorem dX11_renamed_18 : decode cX11_renamed 18 = .ok (.ifCond .eq 7, 3) := by decide +kernel
theorem dX11_renamed_21 : decode cX11_renamed 21 = .ok (.iconst 1, 1) := by decide +kernel
theorem dX11_renamed_22 : decode cX11_renamed 22 = .ok (.goto 4, 3) := by decide +kernel
theorem dX11_renamed_25 : decode cX11_renamed 25 = .ok (.iconst 0, 1) := by decide +kernel
theorem dX11_renamed_26 : decode cX11_renamed 26 = .ok (.iload_n 3, 1) := by decide +kernel
theorem dX11_renamed_27 : decode cX11_renamed 27 = .ok (.invokevirtual 303, 3) := by decide +kernel
theorem dX11_renamed_30 : decode cX11_renamed 30 = .ok (.istore 4, 2) := by decide +kernel
theorem dX11_renamed_32 : decode cX11_renamed 32 = .ok (.iload 4, 2) := by decide +kernel
theorem dX11_renamed_34 : decode cX11_renamed 34 = .ok (.ifCond .eq 12, 3) := by decide +kernel
theorem dX11_renamed_37 : decode cX11_renamed 37 = .ok (.aload_n 0, 1) := by decide +kernel
theorem dX11_renamed_38 : decode cX11_renamed 38 = .ok (.iload 4, 2) := by decide +kernel
theorem dX11_renamed_40 : decode cX11_renamed 40 = .ok (.invokevirtual 171, 3) := by decide +kernel
theorem dX11_renamed_43 : decode cX11_renamed 43 = .ok (.goto 16, 3) := by decide +kernel
theorem dX11_renamed_46 : decode cX11_renamed 46 = .ok (.aload_n 0, 1) := by decide +kernel
theorem dX11_renamed_47 : decode cX11_renamed 47 = .ok (.iload_n 1, 1) := by decide +kernel
theorem dX11_renamed_48 : decode cX11_renamed 48 = .ok (.iconst 1, 1) := by decide +kernel
theorem dX11_renamed_49 : decode cX11_renamed 49 = .ok (.iload_n 2, 1) := by decide +kernel
theorem dX11_renamed_50 : decode cX11_renamed 50 = .ok (.ishl, 1) := by decide +kernel
theorem dX11_renamed_51 : decode cX11_renamed 51 = .ok (.aload_n 0, 1) := by decide +kernel
theorem dX11_renamed_52 : decode cX11_renamed 52 = .ok (.iload_n 3, 1) := by decide +kernel
theorem dX11_renamed_53 : decode cX11_renamed 53 = .ok (.invokevirtual 307, 3) := by decide +kernel
theorem dX11_renamed_56 : decode cX11_renamed 56 = .ok (.invokevirtual 317, 3) := by decide +kernel
theorem dX11_renamed_59 : decode cX11_renamed 59 = .ok (.ireturn, 1) := by decide +kernel
theorem dX11_bestHour_0 : decode cX11_bestHour 0 = .ok (.aload_n 0, 1) := by decide +kernel
theorem dX11_bestHour_1 : decode cX11_bestHour 1 = .ok (.invokevirtual 168, 3) := by decide +kernel
theorem dX11_bestHour_4 : decode cX11_bestHour 4 = .ok (.aload_n 0, 1) := by decide +kernel
theorem dX11_bestHour_5 : decode cX11_bestHour 5 = .ok (.iload_n 1, 1) := by decide +kernel
theorem dX11_bestHour_6 : decode cX11_bestHour 6 = .ok (.invokevirtual 297, 3) := by decide +kernel
theorem dX11_bestHour_9 : decode cX11_bestHour 9 = .ok (.ifCond .ne 9, 3) := by decide +kernel
theorem dX11_bestHour_12 : decode cX11_bestHour 12 = .ok (.aload_n 0, 1) := by decide +kernel
theorem dX11_bestHour_13 : decode cX11_bestHour 13 = .ok (.iconst 1, 1) := by decide +kernel
theorem dX11_bestHour_14 : decode cX11_bestHour 14 = .ok (.invokevirtual 171, 3) := by decide +kernel
theorem dX11_bestHour_17 : decode cX11_bestHour 17 = .ok (.ireturn, 1) := by decide +kernel
theorem dX11_bestHour_18 : decode cX11_bestHour 18 = .ok (.iconst 0, 1) := by decide +kernel
theorem dX11_bestHour_19 : decode cX11_bestHour 19 = .ok (.istore_n 2, 1) := by decide +kernel
theorem dX11_bestHour_20 : decode cX11_bestHour 20 = .ok (.iconst 1, 1) := by decide +kernel
theorem dX11_bestHour_21 : decode cX11_bestHour 21 = .ok (.istore_n 3, 1) := by decide +kernel
theorem dX11_bestHour_22 : decode cX11_bestHour 22 = .ok (.iload_n 3, 1) := by decide +kernel
theorem dX11_bestHour_23 : decode cX11_bestHour 23 = .ok (.bipush 24, 2) := by decide +kernel
theorem dX11_bestHour_25 : decode cX11_bestHour 25 = .ok (.if_icmp .ge 62, 3) := by decide +kernel
theorem dX11_bestHour_28 : decode cX11_bestHour 28 = .ok (.aload_n 0, 1) := by decide +kernel
theorem dX11_bestHour_29 : decode cX11_bestHour 29 = .ok (.iload_n 1, 1) := by decide +kernel
theorem dX11_bestHour_30 : decode cX11_bestHour 30 = .ok (.aload_n 0, 1) := by decide +kernel
theorem dX11_bestHour_31 : decode cX11_bestHour 31 = .ok (.getfield 26, 3) := by decide +kernel
theorem dX11_bestHour_34 : decode cX11_bestHour 34 = .ok (.bipush 8, 2) := by decide +kernel
theorem dX11_bestHour_36 : decode cX11_bestHour 36 = .ok (.iload_n 1, 1) := by decide +kernel
theorem dX11_bestHour_37 : decode cX11_bestHour 37 = .ok (.iadd, 1) := by decide +kernel
theorem dX11_bestHour_38 : decode cX11_bestHour 38 = .ok (.iaload, 1) := by decide +kernel
theorem dX11_bestHour_39 : decode cX11_bestHour 39 = .ok (.aload_n 0, 1) := by decide +kernel
theorem dX11_bestHour_40 : decode cX11_bestHour 40 = .ok (.iload_n 3, 1) := by decide +kernel
theorem dX11_bestHour_41 : decode cX11_bestHour 41 = .ok (.invokevirtual 307, 3) := by decide +kernel
theorem dX11_bestHour_44 : decode cX11_bestHour 44 = .ok (.invokevirtual 317, 3) := by decide +kernel
theorem dX11_bestHour_47 : decode cX11_bestHour 47 = .ok (.invokestatic 320, 3) := by decide +kernel
theorem dX11_bestHour_50 : decode cX11_bestHour 50 = .ok (.aload_n 0, 1) := by decide +kernel
theorem dX11_bestHour_51 : decode cX11_bestHour 51 = .ok (.iload_n 1, 1) := by decide +kernel
theorem dX11_bestHour_52 : decode cX11_bestHour 52 = .ok (.aload_n 0, 1) := by decide +kernel
theorem dX11_bestHour_53 : decode cX11_bestHour 53 = .ok (.getfield 26, 3) := by decide +kernel
theorem dX11_bestHour_56 : decode cX11_bestHour 56 = .ok (.bipush 8, 2) := by decide +kernel
theorem dX11_bestHour_58 : decode cX11_bestHour 58 = .ok (.iload_n 1, 1) := by decide +kernel
theorem dX11_bestHour_59 : decode cX11_bestHour 59 = .ok (.iadd, 1) := by decide +kernel
theorem dX11_bestHour_60 : decode cX11_bestHour 60 = .ok (.iaload, 1) := by decide +kernel
theorem dX11_bestHour_61 : decode cX11_bestHour 61 = .ok (.aload_n 0, 1) := by decide +kernel
theorem dX11_bestHour_62 : decode cX11_bestHour 62 = .ok (.iload_n 2, 1) := by decide +kernel
theorem dX11_bestHour_63 : decode cX11_bestHour 63 = .ok (.invokevirtual 307, 3) := by decide +kernel
theorem dX11_bestHour_66 : decode cX11_bestHour 66 = .ok (.invokevirtual 317, 3) := by decide +kernel
theorem dX11_bestHour_69 : decode cX11_bestHour 69 = .ok (.invokestatic 320, 3) := by decide +kernel
theorem dX11_bestHour_72 : decode cX11_bestHour 72 = .ok (.if_icmp .le 7, 3) := by decide +kernel
theorem dX11_bestHour_75 : decode cX11_bestHour 75 = .ok (.iload_n 3, 1) := by decide +kernel
theorem dX11_bestHour_76 : decode cX11_bestHour 76 = .ok (.goto 4, 3) := by decide +kernel
theorem dX11_bestHour_79 : decode cX11_bestHour 79 = .ok (.iload_n 2, 1) := by decide +kernel
theorem dX11_bestHour_80 : decode cX11_bestHour 80 = .ok (.istore_n 2, 1) := by decide +kernel
theorem dX11_bestHour_81 : decode cX11_bestHour 81 = .ok (.iinc 3 1, 3) := by decide +kernel
theorem dX11_bestHour_84 : decode cX11_bestHour 84 = .ok (.goto (-62), 3) := by decide +kernel
theorem dX11_bestHour_87 : decode cX11_bestHour 87 = .ok (.iload_n 2, 1) := by decide +kernel
theorem dX11_bestHour_88 : decode cX11_bestHour 88 = .ok (.ireturn, 1) := by decide +kernel
theorem dX11_meets_0 : decode cX11_meets 0 = .ok (.aload_n 0, 1) := by decide +kernel
theorem dX11_meets_1 : decode cX11_meets 1 = .ok (.invokevirtual 168, 3) := by decide +kernel
theorem dX11_meets_4 : decode cX11_meets 4 = .ok (.aload_n 0, 1) := by decide +kernel
theorem dX11_meets_5 : decode cX11_meets 5 = .ok (.iload_n 1, 1) := by decide +kernel
theorem dX11_meets_6 : decode cX11_meets 6 = .ok (.iload_n 2, 1) := by decide +kernel
theorem dX11_meets_7 : decode cX11_meets 7 = .ok (.invokevirtual 310, 3) := by decide +kernel
theorem dX11_meets_10 : decode cX11_meets 10 = .ok (.ifCond .ne 9, 3) := by decide +kernel
theorem dX11_meets_13 : decode cX11_meets 13 = .ok (.aload_n 0, 1) := by decide +kernel
theorem dX11_meets_14 : decode cX11_meets 14 = .ok (.iconst 1, 1) := by decide +kernel
theorem dX11_meets_15 : decode cX11_meets 15 = .ok (.invokevirtual 171, 3) := by decide +kernel
theorem dX11_meets_18 : decode cX11_meets 18 = .ok (.ireturn, 1) := by decide +kernel
theorem dX11_meets_19 : decode cX11_meets 19 = .ok (.iconst 0, 1) := by decide +kernel
theorem dX11_meets_20 : decode cX11_meets 20 = .ok (.istore_n 3, 1) := by decide +kernel
theorem dX11_meets_21 : decode cX11_meets 21 = .ok (.iload_n 3, 1) := by decide +kernel
theorem dX11_meets_22 : decode cX11_meets 22 = .ok (.bipush 24, 2) := by decide +kernel
theorem dX11_meets_24 : decode cX11_meets 24 = .ok (.if_icmp .ge 26, 3) := by decide +kernel
theorem dX11_meets_27 : decode cX11_meets 27 = .ok (.aload_n 0, 1) := by decide +kernel
theorem dX11_meets_28 : decode cX11_meets 28 = .ok (.iload_n 1, 1) := by decide +kernel
theorem dX11_meets_29 : decode cX11_meets 29 = .ok (.iload_n 2, 1) := by decide +kernel
theorem dX11_meets_30 : decode cX11_meets 30 = .ok (.aload_n 0, 1) := by decide +kernel
theorem dX11_meets_31 : decode cX11_meets 31 = .ok (.iload_n 3, 1) := by decide +kernel
theorem dX11_meets_32 : decode cX11_meets 32 = .ok (.invokevirtual 307, 3) := by decide +kernel
theorem dX11_meets_35 : decode cX11_meets 35 = .ok (.invokevirtual 313, 3) := by decide +kernel
theorem dX11_meets_38 : decode cX11_meets 38 = .ok (.iconst 2, 1) := by decide +kernel
theorem dX11_meets_39 : decode cX11_meets 39 = .ok (.if_icmp .ne 5, 3) := by decide +kernel
theorem dX11_meets_42 : decode cX11_meets 42 = .ok (.iload_n 3, 1) := by decide +kernel
theorem dX11_meets_43 : decode cX11_meets 43 = .ok (.ireturn, 1) := by decide +kernel
theorem dX11_meets_44 : decode cX11_meets 44 = .ok (.iinc 3 1, 3) := by decide +kernel
theorem dX11_meets_47 : decode cX11_meets 47 = .ok (.goto (-26), 3) := by decide +kernel
theorem dX11_meets_50 : decode cX11_meets 50 = .ok (.bipush (-2), 2) := by decide +kernel
theorem dX11_meets_52 : decode cX11_meets 52 = .ok (.ireturn, 1) := by decide +kernel
theorem dX11_often_0 : decode cX11_often 0 = .ok (.aload_n 0, 1) := by decide +kernel
theorem dX11_often_1 : decode cX11_often 1 = .ok (.invokevirtual 168, 3) := by decide +kernel
theorem dX11_often_4 : decode cX11_often 4 = .ok (.aload_n 0, 1) := by decide +kernel
theorem dX11_often_5 : decode cX11_often 5 = .ok (.iload_n 1, 1) := by decide +kernel
theorem dX11_often_6 : decode cX11_often 6 = .ok (.iload_n 2, 1) := by decide +kernel
theorem dX11_often_7 : decode cX11_often 7 = .ok (.invokevirtual 310, 3) := by decide +kernel
theorem dX11_often_10 : decode cX11_often 10 = .ok (.ifCond .ne 9, 3) := by decide +kernel
theorem dX11_often_13 : decode cX11_often 13 = .ok (.aload_n 0, 1) := by decide +kernel
theorem dX11_often_14 : decode cX11_often 14 = .ok (.iconst 1, 1) := by decide +kernel
theorem dX11_often_15 : decode cX11_often 15 = .ok (.invokevirtual 171, 3) := by decide +kernel
theorem dX11_often_18 : decode cX11_often 18 = .ok (.ireturn, 1) := by decide +kernel
theorem dX11_often_19 : decode cX11_often 19 = .ok (.iconst 0, 1) := by decide +kernel
theorem dX11_often_20 : decode cX11_often 20 = .ok (.istore_n 3, 1) := by decide +kernel
theorem dX11_often_21 : decode cX11_often 21 = .ok (.iconst 0, 1) := by decide +kernel
theorem dX11_often_22 : decode cX11_often 22 = .ok (.istore 4, 2) := by decide +kernel
theorem dX11_often_24 : decode cX11_often 24 = .ok (.iload 4, 2) := by decide +kernel
theorem dX11_often_26 : decode cX11_often 26 = .ok (.bipush 24, 2) := by decide +kernel
theorem dX11_often_28 : decode cX11_often 28 = .ok (.if_icmp .ge 33, 3) := by decide +kernel
theorem dX11_often_31 : decode cX11_often 31 = .ok (.iload_n 3, 1) := by decide +kernel
theorem dX11_often_32 : decode cX11_often 32 = .ok (.aload_n 0, 1) := by decide +kernel
theorem dX11_often_33 : decode cX11_often 33 = .ok (.iload_n 1, 1) := by decide +kernel
theorem dX11_often_34 : decode cX11_often 34 = .ok (.iload_n 2, 1) := by decide +kernel
theorem dX11_often_35 : decode cX11_often 35 = .ok (.aload_n 0, 1) := by decide +kernel
theorem dX11_often_36 : decode cX11_often 36 = .ok (.iload 4, 2) := by decide +kernel
theorem dX11_often_38 : decode cX11_often 38 = .ok (.invokevirtual 307, 3) := by decide +kernel
theorem dX11_often_41 : decode cX11_often 41 = .ok (.invokevirtual 313, 3) := by decide +kernel
theorem dX11_often_44 : decode cX11_often 44 = .ok (.iconst 2, 1) := by decide +kernel
theorem dX11_often_45 : decode cX11_often 45 = .ok (.if_icmp .ne 7, 3) := by decide +kernel
theorem dX11_often_48 : decode cX11_often 48 = .ok (.iconst 1, 1) := by decide +kernel
theorem dX11_often_49 : decode cX11_often 49 = .ok (.goto 4, 3) := by decide +kernel
theorem dX11_often_52 : decode cX11_often 52 = .ok (.iconst 0, 1) := by decide +kernel
theorem dX11_often_53 : decode cX11_often 53 = .ok (.iadd, 1) := by decide +kernel
theorem dX11_often_54 : decode cX11_often 54 = .ok (.istore_n 3, 1) := by decide +kernel
theorem dX11_often_55 : decode cX11_often 55 = .ok (.iinc 4 1, 3) := by decide +kernel
theorem dX11_often_58 : decode cX11_often 58 = .ok (.goto (-34), 3) := by decide +kernel
theorem dX11_often_61 : decode cX11_often 61 = .ok (.iload_n 3, 1) := by decide +kernel
theorem dX11_often_62 : decode cX11_often 62 = .ok (.ireturn, 1) := by decide +kernel
theorem dX11_classBy_0 : decode cX11_classBy 0 = .ok (.iconst 1, 1) := by decide +kernel
theorem dX11_classBy_1 : decode cX11_classBy 1 = .ok (.iload_n 1, 1) := by decide +kernel
theorem dX11_classBy_2 : decode cX11_classBy 2 = .ok (.ishl, 1) := by decide +kernel
theorem dX11_classBy_3 : decode cX11_classBy 3 = .ok (.istore_n 3, 1) := by decide +kernel
theorem dX11_classBy_4 : decode cX11_classBy 4 = .ok (.iconst 0, 1) := by decide +kernel
theorem dX11_classBy_5 : decode cX11_classBy 5 = .ok (.istore 4, 2) := by decide +kernel
theorem dX11_classBy_7 : decode cX11_classBy 7 = .ok (.iload 4, 2) := by decide +kernel
theorem dX11_classBy_9 : decode cX11_classBy 9 = .ok (.iload_n 3, 1) := by decide +kernel
theorem dX11_classBy_10 : decode cX11_classBy 10 = .ok (.if_icmp .eq 63, 3) := by decide +kernel
theorem dX11_classBy_13 : decode cX11_classBy 13 = .ok (.iload_n 3, 1) := by decide +kernel
theorem dX11_classBy_14 : decode cX11_classBy 14 = .ok (.istore 4, 2) := by decide +kernel
theorem dX11_classBy_16 : decode cX11_classBy 16 = .ok (.iconst 0, 1) := by decide +kernel
theorem dX11_classBy_17 : decode cX11_classBy 17 = .ok (.istore 5, 2) := by decide +kernel
theorem dX11_classBy_19 : decode cX11_classBy 19 = .ok (.iload 5, 2) := by decide +kernel
theorem dX11_classBy_21 : decode cX11_classBy 21 = .ok (.aload_n 0, 1) := by decide +kernel
theorem dX11_classBy_22 : decode cX11_classBy 22 = .ok (.getfield 20, 3) := by decide +kernel
theorem dX11_classBy_25 : decode cX11_classBy 25 = .ok (.iconst 3, 1) := by decide +kernel
theorem dX11_classBy_26 : decode cX11_classBy 26 = .ok (.iaload, 1) := by decide +kernel
theorem dX11_classBy_27 : decode cX11_classBy 27 = .ok (.if_icmp .ge 43, 3) := by decide +kernel
theorem dX11_classBy_30 : decode cX11_classBy 30 = .ok (.iload_n 3, 1) := by decide +kernel
theorem dX11_classBy_31 : decode cX11_classBy 31 = .ok (.iload 4, 2) := by decide +kernel
theorem dX11_classBy_33 : decode cX11_classBy 33 = .ok (.iload 5, 2) := by decide +kernel
theorem dX11_classBy_35 : decode cX11_classBy 35 = .ok (.invokestatic 266, 3) := by decide +kernel
theorem dX11_classBy_38 : decode cX11_classBy 38 = .ok (.ifCond .eq 23, 3) := by decide +kernel
theorem dX11_classBy_41 : decode cX11_classBy 41 = .ok (.aload_n 0, 1) := by decide +kernel
theorem dX11_classBy_42 : decode cX11_classBy 42 = .ok (.iload 5, 2) := by decide +kernel
theorem dX11_classBy_44 : decode cX11_classBy 44 = .ok (.aload_n 0, 1) := by decide +kernel
theorem dX11_classBy_45 : decode cX11_classBy 45 = .ok (.getfield 26, 3) := by decide +kernel
theorem dX11_classBy_48 : decode cX11_classBy 48 = .ok (.bipush 8, 2) := by decide +kernel
theorem dX11_classBy_50 : decode cX11_classBy 50 = .ok (.iload 5, 2) := by decide +kernel
theorem dX11_classBy_52 : decode cX11_classBy 52 = .ok (.iadd, 1) := by decide +kernel
theorem dX11_classBy_53 : decode cX11_classBy 53 = .ok (.iaload, 1) := by decide +kernel
theorem dX11_classBy_54 : decode cX11_classBy 54 = .ok (.iload_n 2, 1) := by decide +kernel
theorem dX11_classBy_55 : decode cX11_classBy 55 = .ok (.invokevirtual 317, 3) := by decide +kernel
theorem dX11_classBy_58 : decode cX11_classBy 58 = .ok (.goto 4, 3) := by decide +kernel
theorem dX11_classBy_61 : decode cX11_classBy 61 = .ok (.iconst 0, 1) := by decide +kernel
theorem dX11_classBy_62 : decode cX11_classBy 62 = .ok (.ior, 1) := by decide +kernel
theorem dX11_classBy_63 : decode cX11_classBy 63 = .ok (.istore_n 3, 1) := by decide +kernel
theorem dX11_classBy_64 : decode cX11_classBy 64 = .ok (.iinc 5 1, 3) := by decide +kernel
theorem dX11_classBy_67 : decode cX11_classBy 67 = .ok (.goto (-48), 3) := by decide +kernel
theorem dX11_classBy_70 : decode cX11_classBy 70 = .ok (.goto (-63), 3) := by decide +kernel
theorem dX11_classBy_73 : decode cX11_classBy 73 = .ok (.iload_n 3, 1) := by decide +kernel
theorem dX11_classBy_74 : decode cX11_classBy 74 = .ok (.ireturn, 1) := by decide +kernel
theorem dX11_classOf_0 : decode cX11_classOf 0 = .ok (.aload_n 0, 1) := by decide +kernel
theorem dX11_classOf_1 : decode cX11_classOf 1 = .ok (.invokevirtual 168, 3) := by decide +kernel
theorem dX11_classOf_4 : decode cX11_classOf 4 = .ok (.aload_n 0, 1) := by decide +kernel
theorem dX11_classOf_5 : decode cX11_classOf 5 = .ok (.aload_n 0, 1) := by decide +kernel
theorem dX11_classOf_6 : decode cX11_classOf 6 = .ok (.iload_n 1, 1) := by decide +kernel
theorem dX11_classOf_7 : decode cX11_classOf 7 = .ok (.invokevirtual 297, 3) := by decide +kernel
theorem dX11_classOf_10 : decode cX11_classOf 10 = .ok (.iload_n 2, 1) := by decide +kernel
theorem dX11_classOf_11 : decode cX11_classOf 11 = .ok (.invokevirtual 303, 3) := by decide +kernel
theorem dX11_classOf_14 : decode cX11_classOf 14 = .ok (.istore_n 3, 1) := by decide +kernel
theorem dX11_classOf_15 : decode cX11_classOf 15 = .ok (.iload_n 3, 1) := by decide +kernel
theorem dX11_classOf_16 : decode cX11_classOf 16 = .ok (.ifCond .eq 11, 3) := by decide +kernel
theorem dX11_classOf_19 : decode cX11_classOf 19 = .ok (.aload_n 0, 1) := by decide +kernel
theorem dX11_classOf_20 : decode cX11_classOf 20 = .ok (.iload_n 3, 1) := by decide +kernel
theorem dX11_classOf_21 : decode cX11_classOf 21 = .ok (.invokevirtual 171, 3) := by decide +kernel
theorem dX11_classOf_24 : decode cX11_classOf 24 = .ok (.goto 13, 3) := by decide +kernel
theorem dX11_classOf_27 : decode cX11_classOf 27 = .ok (.aload_n 0, 1) := by decide +kernel
theorem dX11_classOf_28 : decode cX11_classOf 28 = .ok (.iload_n 1, 1) := by decide +kernel
theorem dX11_classOf_29 : decode cX11_classOf 29 = .ok (.aload_n 0, 1) := by decide +kernel
theorem dX11_classOf_30 : decode cX11_classOf 30 = .ok (.iload_n 2, 1) := by decide +kernel
theorem dX11_classOf_31 : decode cX11_classOf 31 = .ok (.invokevirtual 307, 3) := by decide +kernel
theorem dX11_classOf_34 : decode cX11_classOf 34 = .ok (.invokevirtual 323, 3) := by decide +kernel
theorem dX11_classOf_37 : decode cX11_classOf 37 = .ok (.ireturn, 1) := by decide +kernel
theorem dX11_classes_0 : decode cX11_classes 0 = .ok (.aload_n 0, 1) := by decide +kernel
theorem dX11_classes_1 : decode cX11_classes 1 = .ok (.invokevirtual 168, 3) := by decide +kernel
theorem dX11_classes_4 : decode cX11_classes 4 = .ok (.aload_n 0, 1) := by decide +kernel
theorem dX11_classes_5 : decode cX11_classes 5 = .ok (.aload_n 0, 1) := by decide +kernel
theorem dX11_classes_6 : decode cX11_classes 6 = .ok (.getfield 181, 3) := by decide +kernel
theorem dX11_classes_9 : decode cX11_classes 9 = .ok (.iload_n 1, 1) := by decide +kernel
theorem dX11_classes_10 : decode cX11_classes 10 = .ok (.invokevirtual 303, 3) := by decide +kernel
theorem dX11_classes_13 : decode cX11_classes 13 = .ok (.istore_n 2, 1) := by decide +kernel
theorem dX11_classes_14 : decode cX11_classes 14 = .ok (.iload_n 2, 1) := by decide +kernel
theorem dX11_classes_15 : decode cX11_classes 15 = .ok (.ifCond .eq 9, 3) := by decide +kernel
theorem dX11_classes_18 : decode cX11_classes 18 = .ok (.aload_n 0, 1) := by decide +kernel
theorem dX11_classes_19 : decode cX11_classes 19 = .ok (.iload_n 2, 1) := by decide +kernel
theorem dX11_classes_20 : decode cX11_classes 20 = .ok (.invokevirtual 171, 3) := by decide +kernel
theorem dX11_classes_23 : decode cX11_classes 23 = .ok (.ireturn, 1) := by decide +kernel
theorem dX11_classes_24 : decode cX11_classes 24 = .ok (.iconst 0, 1) := by decide +kernel
theorem dX11_classes_25 : decode cX11_classes 25 = .ok (.istore_n 3, 1) := by decide +kernel
theorem dX11_classes_26 : decode cX11_classes 26 = .ok (.iconst 0, 1) := by decide +kernel
theorem dX11_classes_27 : decode cX11_classes 27 = .ok (.istore 4, 2) := by decide +kernel
theorem dX11_classes_29 : decode cX11_classes 29 = .ok (.iload 4, 2) := by decide +kernel
theorem dX11_classes_31 : decode cX11_classes 31 = .ok (.aload_n 0, 1) := by decide +kernel
theorem dX11_classes_32 : decode cX11_classes 32 = .ok (.getfield 20, 3) := by decide +kernel
theorem dX11_classes_35 : decode cX11_classes 35 = .ok (.iconst 3, 1) := by decide +kernel
theorem dX11_classes_36 : decode cX11_classes 36 = .ok (.iaload, 1) := by decide +kernel
theorem dX11_classes_37 : decode cX11_classes 37 = .ok (.if_icmp .ge 38, 3) := by decide +kernel
theorem dX11_classes_40 : decode cX11_classes 40 = .ok (.iload_n 3, 1) := by decide +kernel
theorem dX11_classes_41 : decode cX11_classes 41 = .ok (.aload_n 0, 1) := by decide +kernel
theorem dX11_classes_42 : decode cX11_classes 42 = .ok (.iload 4, 2) := by decide +kernel
theorem dX11_classes_44 : decode cX11_classes 44 = .ok (.aload_n 0, 1) := by decide +kernel
theorem dX11_classes_45 : decode cX11_classes 45 = .ok (.iload_n 1, 1) := by decide +kernel
theorem dX11_classes_46 : decode cX11_classes 46 = .ok (.invokevirtual 307, 3) := by decide +kernel
theorem dX11_classes_49 : decode cX11_classes 49 = .ok (.invokevirtual 323, 3) := by decide +kernel
theorem dX11_classes_52 : decode cX11_classes 52 = .ok (.iconst 1, 1) := by decide +kernel
theorem dX11_classes_53 : decode cX11_classes 53 = .ok (.iload 4, 2) := by decide +kernel
theorem dX11_classes_55 : decode cX11_classes 55 = .ok (.ishl, 1) := by decide +kernel
theorem dX11_classes_56 : decode cX11_classes 56 = .ok (.iconst 1, 1) := by decide +kernel
theorem dX11_classes_57 : decode cX11_classes 57 = .ok (.isub, 1) := by decide +kernel
theorem dX11_classes_58 : decode cX11_classes 58 = .ok (.iand, 1) := by decide +kernel
theorem dX11_classes_59 : decode cX11_classes 59 = .ok (.ifCond .ne 7, 3) := by decide +kernel
theorem dX11_classes_62 : decode cX11_classes 62 = .ok (.iconst 1, 1) := by decide +kernel
theorem dX11_classes_63 : decode cX11_classes 63 = .ok (.goto 4, 3) := by decide +kernel
theorem dX11_classes_66 : decode cX11_classes 66 = .ok (.iconst 0, 1) := by decide +kernel
theorem dX11_classes_67 : decode cX11_classes 67 = .ok (.iadd, 1) := by decide +kernel
theorem dX11_classes_68 : decode cX11_classes 68 = .ok (.istore_n 3, 1) := by decide +kernel
theorem dX11_classes_69 : decode cX11_classes 69 = .ok (.iinc 4 1, 3) := by decide +kernel
theorem dX11_classes_72 : decode cX11_classes 72 = .ok (.goto (-43), 3) := by decide +kernel
theorem dX11_classes_75 : decode cX11_classes 75 = .ok (.iload_n 3, 1) := by decide +kernel
theorem dX11_classes_76 : decode cX11_classes 76 = .ok (.ireturn, 1) := by decide +kernel
theorem dX11_bestName_0 : decode cX11_bestName 0 = .ok (.aload_n 0, 1) := by decide +kernel
theorem dX11_bestName_1 : decode cX11_bestName 1 = .ok (.invokevirtual 168, 3) := by decide +kernel
theorem dX11_bestName_4 : decode cX11_bestName 4 = .ok (.aload_n 0, 1) := by decide +kernel
theorem dX11_bestName_5 : decode cX11_bestName 5 = .ok (.aload_n 0, 1) := by decide +kernel
theorem dX11_bestName_6 : decode cX11_bestName 6 = .ok (.iload_n 1, 1) := by decide +kernel
theorem dX11_bestName_7 : decode cX11_bestName 7 = .ok (.invokevirtual 297, 3) := by decide +kernel
theorem dX11_bestName_10 : decode cX11_bestName 10 = .ok (.iload_n 2, 1) := by decide +kernel
theorem dX11_bestName_11 : decode cX11_bestName 11 = .ok (.invokevirtual 303, 3) := by decide +kernel
theorem dX11_bestName_14 : decode cX11_bestName 14 = .ok (.istore_n 3, 1) := by decide +kernel
theorem dX11_bestName_15 : decode cX11_bestName 15 = .ok (.iload_n 3, 1) := by decide +kernel
theorem dX11_bestName_16 : decode cX11_bestName 16 = .ok (.ifCond .eq 9, 3) := by decide +kernel
theorem dX11_bestName_19 : decode cX11_bestName 19 = .ok (.aload_n 0, 1) := by decide +kernel
theorem dX11_bestName_20 : decode cX11_bestName 20 = .ok (.iload_n 3, 1) := by decide +kernel
theorem dX11_bestName_21 : decode cX11_bestName 21 = .ok (.invokevirtual 171, 3) := by decide +kernel
theorem dX11_bestName_24 : decode cX11_bestName 24 = .ok (.ireturn, 1) := by decide +kernel
theorem dX11_bestName_25 : decode cX11_bestName 25 = .ok (.iconst 0, 1) := by decide +kernel
theorem dX11_bestName_26 : decode cX11_bestName 26 = .ok (.istore 4, 2) := by decide +kernel
theorem dX11_bestName_28 : decode cX11_bestName 28 = .ok (.iconst 1, 1) := by decide +kernel
theorem dX11_bestName_29 : decode cX11_bestName 29 = .ok (.istore 5, 2) := by decide +kernel
theorem dX11_bestName_31 : decode cX11_bestName 31 = .ok (.iload 5, 2) := by decide +kernel
theorem dX11_bestName_33 : decode cX11_bestName 33 = .ok (.aload_n 0, 1) := by decide +kernel
theorem dX11_bestName_34 : decode cX11_bestName 34 = .ok (.getfield 20, 3) := by decide +kernel
theorem dX11_bestName_37 : decode cX11_bestName 37 = .ok (.iconst 2, 1) := by decide +kernel
theorem dX11_bestName_38 : decode cX11_bestName 38 = .ok (.iaload, 1) := by decide +kernel
theorem dX11_bestName_39 : decode cX11_bestName 39 = .ok (.if_icmp .ge 55, 3) := by decide +kernel
theorem dX11_bestName_42 : decode cX11_bestName 42 = .ok (.aload_n 0, 1) := by decide +kernel
theorem dX11_bestName_43 : decode cX11_bestName 43 = .ok (.iload_n 1, 1) := by decide +kernel
theorem dX11_bestName_44 : decode cX11_bestName 44 = .ok (.iconst 1, 1) := by decide +kernel
theorem dX11_bestName_45 : decode cX11_bestName 45 = .ok (.iload 5, 2) := by decide +kernel
theorem dX11_bestName_47 : decode cX11_bestName 47 = .ok (.ishl, 1) := by decide +kernel
theorem dX11_bestName_48 : decode cX11_bestName 48 = .ok (.aload_n 0, 1) := by decide +kernel
theorem dX11_bestName_49 : decode cX11_bestName 49 = .ok (.iload_n 2, 1) := by decide +kernel
theorem dX11_bestName_50 : decode cX11_bestName 50 = .ok (.invokevirtual 307, 3) := by decide +kernel
theorem dX11_bestName_53 : decode cX11_bestName 53 = .ok (.invokevirtual 317, 3) := by decide +kernel
theorem dX11_bestName_56 : decode cX11_bestName 56 = .ok (.invokestatic 320, 3) := by decide +kernel
theorem dX11_bestName_59 : decode cX11_bestName 59 = .ok (.aload_n 0, 1) := by decide +kernel
theorem dX11_bestName_60 : decode cX11_bestName 60 = .ok (.iload_n 1, 1) := by decide +kernel
theorem dX11_bestName_61 : decode cX11_bestName 61 = .ok (.iconst 1, 1) := by decide +kernel
theorem dX11_bestName_62 : decode cX11_bestName 62 = .ok (.iload 4, 2) := by decide +kernel
theorem dX11_bestName_64 : decode cX11_bestName 64 = .ok (.ishl, 1) := by decide +kernel
theorem dX11_bestName_65 : decode cX11_bestName 65 = .ok (.aload_n 0, 1) := by decide +kernel
theorem dX11_bestName_66 : decode cX11_bestName 66 = .ok (.iload_n 2, 1) := by decide +kernel
theorem dX11_bestName_67 : decode cX11_bestName 67 = .ok (.invokevirtual 307, 3) := by decide +kernel
theorem dX11_bestName_70 : decode cX11_bestName 70 = .ok (.invokevirtual 317, 3) := by decide +kernel
theorem dX11_bestName_73 : decode cX11_bestName 73 = .ok (.invokestatic 320, 3) := by decide +kernel
theorem dX11_bestName_76 : decode cX11_bestName 76 = .ok (.if_icmp .le 8, 3) := by decide +kernel
theorem dX11_bestName_79 : decode cX11_bestName 79 = .ok (.iload 5, 2) := by decide +kernel
theorem dX11_bestName_81 : decode cX11_bestName 81 = .ok (.goto 5, 3) := by decide +kernel
theorem dX11_bestName_84 : decode cX11_bestName 84 = .ok (.iload 4, 2) := by decide +kernel
theorem dX11_bestName_86 : decode cX11_bestName 86 = .ok (.istore 4, 2) := by decide +kernel
theorem dX11_bestName_88 : decode cX11_bestName 88 = .ok (.iinc 5 1, 3) := by decide +kernel
theorem dX11_bestName_91 : decode cX11_bestName 91 = .ok (.goto (-60), 3) := by decide +kernel
theorem dX11_bestName_94 : decode cX11_bestName 94 = .ok (.iload 4, 2) := by decide +kernel
theorem dX11_bestName_96 : decode cX11_bestName 96 = .ok (.ireturn, 1) := by decide +kernel
theorem dX11_cheapest_0 : decode cX11_cheapest 0 = .ok (.aload_n 0, 1) := by decide +kernel
theorem dX11_cheapest_1 : decode cX11_cheapest 1 = .ok (.invokevirtual 168, 3) := by decide +kernel
theorem dX11_cheapest_4 : decode cX11_cheapest 4 = .ok (.aload_n 0, 1) := by decide +kernel
theorem dX11_cheapest_5 : decode cX11_cheapest 5 = .ok (.aload_n 0, 1) := by decide +kernel
theorem dX11_cheapest_6 : decode cX11_cheapest 6 = .ok (.iload_n 1, 1) := by decide +kernel
theorem dX11_cheapest_7 : decode cX11_cheapest 7 = .ok (.invokevirtual 297, 3) := by decide +kernel
theorem dX11_cheapest_10 : decode cX11_cheapest 10 = .ok (.iload_n 2, 1) := by decide +kernel
theorem dX11_cheapest_11 : decode cX11_cheapest 11 = .ok (.invokevirtual 303, 3) := by decide +kernel
theorem dX11_cheapest_14 : decode cX11_cheapest 14 = .ok (.istore_n 3, 1) := by decide +kernel
theorem dX11_cheapest_15 : decode cX11_cheapest 15 = .ok (.iload_n 3, 1) := by decide +kernel
theorem dX11_cheapest_16 : decode cX11_cheapest 16 = .ok (.ifCond .eq 9, 3) := by decide +kernel
theorem dX11_cheapest_19 : decode cX11_cheapest 19 = .ok (.aload_n 0, 1) := by decide +kernel
theorem dX11_cheapest_20 : decode cX11_cheapest 20 = .ok (.iload_n 3, 1) := by decide +kernel
theorem dX11_cheapest_21 : decode cX11_cheapest 21 = .ok (.invokevirtual 171, 3) := by decide +kernel
theorem dX11_cheapest_24 : decode cX11_cheapest 24 = .ok (.ireturn, 1) := by decide +kernel
theorem dX11_cheapest_25 : decode cX11_cheapest 25 = .ok (.aload_n 0, 1) := by decide +kernel
theorem dX11_cheapest_26 : decode cX11_cheapest 26 = .ok (.aload_n 0, 1) := by decide +kernel
theorem dX11_cheapest_27 : decode cX11_cheapest 27 = .ok (.getfield 26, 3) := by decide +kernel
theorem dX11_cheapest_30 : decode cX11_cheapest 30 = .ok (.iload_n 1, 1) := by decide +kernel
theorem dX11_cheapest_31 : decode cX11_cheapest 31 = .ok (.iaload, 1) := by decide +kernel
theorem dX11_cheapest_32 : decode cX11_cheapest 32 = .ok (.invokevirtual 326, 3) := by decide +kernel
theorem dX11_cheapest_35 : decode cX11_cheapest 35 = .ok (.istore 4, 2) := by decide +kernel
theorem dX11_cheapest_37 : decode cX11_cheapest 37 = .ok (.aload_n 0, 1) := by decide +kernel
theorem dX11_cheapest_38 : decode cX11_cheapest 38 = .ok (.iload_n 1, 1) := by decide +kernel
theorem dX11_cheapest_39 : decode cX11_cheapest 39 = .ok (.aload_n 0, 1) := by decide +kernel
theorem dX11_cheapest_40 : decode cX11_cheapest 40 = .ok (.getfield 26, 3) := by decide +kernel
theorem dX11_cheapest_43 : decode cX11_cheapest 43 = .ok (.bipush 8, 2) := by decide +kernel
theorem dX11_cheapest_45 : decode cX11_cheapest 45 = .ok (.iload_n 1, 1) := by decide +kernel
theorem dX11_cheapest_46 : decode cX11_cheapest 46 = .ok (.iadd, 1) := by decide +kernel
theorem dX11_cheapest_47 : decode cX11_cheapest 47 = .ok (.iaload, 1) := by decide +kernel
theorem dX11_cheapest_48 : decode cX11_cheapest 48 = .ok (.aload_n 0, 1) := by decide +kernel
theorem dX11_cheapest_49 : decode cX11_cheapest 49 = .ok (.iload_n 2, 1) := by decide +kernel
theorem dX11_cheapest_50 : decode cX11_cheapest 50 = .ok (.invokevirtual 307, 3) := by decide +kernel
theorem dX11_cheapest_53 : decode cX11_cheapest 53 = .ok (.invokevirtual 317, 3) := by decide +kernel
theorem dX11_cheapest_56 : decode cX11_cheapest 56 = .ok (.iload 4, 2) := by decide +kernel
theorem dX11_cheapest_58 : decode cX11_cheapest 58 = .ok (.iand, 1) := by decide +kernel
theorem dX11_cheapest_59 : decode cX11_cheapest 59 = .ok (.istore 5, 2) := by decide +kernel
theorem dX11_cheapest_61 : decode cX11_cheapest 61 = .ok (.bipush (-2), 2) := by decide +kernel
theorem dX11_cheapest_63 : decode cX11_cheapest 63 = .ok (.istore 6, 2) := by decide +kernel
theorem dX11_cheapest_65 : decode cX11_cheapest 65 = .ok (.iconst 0, 1) := by decide +kernel
theorem dX11_cheapest_66 : decode cX11_cheapest 66 = .ok (.istore 7, 2) := by decide +kernel
theorem dX11_cheapest_68 : decode cX11_cheapest 68 = .ok (.iload 7, 2) := by decide +kernel
theorem dX11_cheapest_70 : decode cX11_cheapest 70 = .ok (.aload_n 0, 1) := by decide +kernel
theorem dX11_cheapest_71 : decode cX11_cheapest 71 = .ok (.getfield 20, 3) := by decide +kernel
theorem dX11_cheapest_74 : decode cX11_cheapest 74 = .ok (.iconst 2, 1) := by decide +kernel
theorem dX11_cheapest_75 : decode cX11_cheapest 75 = .ok (.iaload, 1) := by decide +kernel
theorem dX11_cheapest_76 : decode cX11_cheapest 76 = .ok (.if_icmp .ge 88, 3) := by decide +kernel
theorem dX11_cheapest_79 : decode cX11_cheapest 79 = .ok (.aload_n 0, 1) := by decide +kernel
theorem dX11_cheapest_80 : decode cX11_cheapest 80 = .ok (.getfield 26, 3) := by decide +kernel
theorem dX11_cheapest_83 : decode cX11_cheapest 83 = .ok (.bipush 8, 2) := by decide +kernel
theorem dX11_cheapest_85 : decode cX11_cheapest 85 = .ok (.iload_n 1, 1) := by decide +kernel
theorem dX11_cheapest_86 : decode cX11_cheapest 86 = .ok (.iadd, 1) := by decide +kernel
theorem dX11_cheapest_87 : decode cX11_cheapest 87 = .ok (.iaload, 1) := by decide +kernel
theorem dX11_cheapest_88 : decode cX11_cheapest 88 = .ok (.iload 7, 2) := by decide +kernel
theorem dX11_cheapest_90 : decode cX11_cheapest 90 = .ok (.invokestatic 266, 3) := by decide +kernel
theorem dX11_cheapest_93 : decode cX11_cheapest 93 = .ok (.ifCond .ne 65, 3) := by decide +kernel
theorem dX11_cheapest_96 : decode cX11_cheapest 96 = .ok (.aload_n 0, 1) := by decide +kernel
theorem dX11_cheapest_97 : decode cX11_cheapest 97 = .ok (.iload_n 1, 1) := by decide +kernel
theorem dX11_cheapest_98 : decode cX11_cheapest 98 = .ok (.aload_n 0, 1) := by decide +kernel
theorem dX11_cheapest_99 : decode cX11_cheapest 99 = .ok (.getfield 26, 3) := by decide +kernel
theorem dX11_cheapest_102 : decode cX11_cheapest 102 = .ok (.bipush 8, 2) := by decide +kernel
theorem dX11_cheapest_104 : decode cX11_cheapest 104 = .ok (.iload_n 1, 1) := by decide +kernel
theorem dX11_cheapest_105 : decode cX11_cheapest 105 = .ok (.iadd, 1) := by decide +kernel
theorem dX11_cheapest_106 : decode cX11_cheapest 106 = .ok (.iaload, 1) := by decide +kernel
theorem dX11_cheapest_107 : decode cX11_cheapest 107 = .ok (.iconst 1, 1) := by decide +kernel
theorem dX11_cheapest_108 : decode cX11_cheapest 108 = .ok (.iload 7, 2) := by decide +kernel
theorem dX11_cheapest_110 : decode cX11_cheapest 110 = .ok (.ishl, 1) := by decide +kernel
theorem dX11_cheapest_111 : decode cX11_cheapest 111 = .ok (.ior, 1) := by decide +kernel
theorem dX11_cheapest_112 : decode cX11_cheapest 112 = .ok (.aload_n 0, 1) := by decide +kernel
theorem dX11_cheapest_113 : decode cX11_cheapest 113 = .ok (.iload_n 2, 1) := by decide +kernel
theorem dX11_cheapest_114 : decode cX11_cheapest 114 = .ok (.invokevirtual 307, 3) := by decide +kernel
theorem dX11_cheapest_117 : decode cX11_cheapest 117 = .ok (.invokevirtual 317, 3) := by decide +kernel
theorem dX11_cheapest_120 : decode cX11_cheapest 120 = .ok (.iload 4, 2) := by decide +kernel
theorem dX11_cheapest_122 : decode cX11_cheapest 122 = .ok (.iand, 1) := by decide +kernel
theorem dX11_cheapest_123 : decode cX11_cheapest 123 = .ok (.iload 5, 2) := by decide +kernel
theorem dX11_cheapest_125 : decode cX11_cheapest 125 = .ok (.iconst (-1), 1) := by decide +kernel
theorem dX11_cheapest_126 : decode cX11_cheapest 126 = .ok (.ixor, 1) := by decide +kernel
theorem dX11_cheapest_127 : decode cX11_cheapest 127 = .ok (.iand, 1) := by decide +kernel
theorem dX11_cheapest_128 : decode cX11_cheapest 128 = .ok (.ifCond .ne 6, 3) := by decide +kernel
theorem dX11_cheapest_131 : decode cX11_cheapest 131 = .ok (.goto 27, 3) := by decide +kernel
theorem dX11_cheapest_134 : decode cX11_cheapest 134 = .ok (.iload 6, 2) := by decide +kernel
theorem dX11_cheapest_136 : decode cX11_cheapest 136 = .ok (.ifCond .lt 18, 3) := by decide +kernel
theorem dX11_cheapest_139 : decode cX11_cheapest 139 = .ok (.aload_n 0, 1) := by decide +kernel
theorem dX11_cheapest_140 : decode cX11_cheapest 140 = .ok (.iload 7, 2) := by decide +kernel
theorem dX11_cheapest_142 : decode cX11_cheapest 142 = .ok (.invokevirtual 329, 3) := by decide +kernel
theorem dX11_cheapest_145 : decode cX11_cheapest 145 = .ok (.aload_n 0, 1) := by decide +kernel
theorem dX11_cheapest_146 : decode cX11_cheapest 146 = .ok (.iload 6, 2) := by decide +kernel
theorem dX11_cheapest_148 : decode cX11_cheapest 148 = .ok (.invokevirtual 329, 3) := by decide +kernel
theorem dX11_cheapest_151 : decode cX11_cheapest 151 = .ok (.if_icmp .ge 7, 3) := by decide +kernel
theorem dX11_cheapest_154 : decode cX11_cheapest 154 = .ok (.iload 7, 2) := by decide +kernel
theorem dX11_cheapest_156 : decode cX11_cheapest 156 = .ok (.istore 6, 2) := by decide +kernel
theorem dX11_cheapest_158 : decode cX11_cheapest 158 = .ok (.iinc 7 1, 3) := by decide +kernel
theorem dX11_cheapest_161 : decode cX11_cheapest 161 = .ok (.goto (-93), 3) := by decide +kernel
theorem dX11_cheapest_164 : decode cX11_cheapest 164 = .ok (.iload 6, 2) := by decide +kernel
theorem dX11_cheapest_166 : decode cX11_cheapest 166 = .ok (.ireturn, 1) := by decide +kernel
theorem dX11_layCan_0 : decode cX11_layCan 0 = .ok (.iconst 0, 1) := by decide +kernel
theorem dX11_layCan_1 : decode cX11_layCan 1 = .ok (.istore_n 3, 1) := by decide +kernel
theorem dX11_layCan_2 : decode cX11_layCan 2 = .ok (.iload_n 3, 1) := by decide +kernel
theorem dX11_layCan_3 : decode cX11_layCan 3 = .ok (.bipush 8, 2) := by decide +kernel
theorem dX11_layCan_5 : decode cX11_layCan 5 = .ok (.if_icmp .ge 44, 3) := by decide +kernel
theorem dX11_layCan_8 : decode cX11_layCan 8 = .ok (.aload_n 0, 1) := by decide +kernel
theorem dX11_layCan_9 : decode cX11_layCan 9 = .ok (.getfield 35, 3) := by decide +kernel
theorem dX11_layCan_12 : decode cX11_layCan 12 = .ok (.iload_n 3, 1) := by decide +kernel
theorem dX11_layCan_13 : decode cX11_layCan 13 = .ok (.iload_n 1, 1) := by decide +kernel
theorem dX11_layCan_14 : decode cX11_layCan 14 = .ok (.iload_n 3, 1) := by decide +kernel
theorem dX11_layCan_15 : decode cX11_layCan 15 = .ok (.invokestatic 266, 3) := by decide +kernel
theorem dX11_layCan_18 : decode cX11_layCan 18 = .ok (.ifCond .eq 23, 3) := by decide +kernel
theorem dX11_layCan_21 : decode cX11_layCan 21 = .ok (.aload_n 0, 1) := by decide +kernel
theorem dX11_layCan_22 : decode cX11_layCan 22 = .ok (.iload_n 3, 1) := by decide +kernel
theorem dX11_layCan_23 : decode cX11_layCan 23 = .ok (.aload_n 0, 1) := by decide +kernel
theorem dX11_layCan_24 : decode cX11_layCan 24 = .ok (.getfield 26, 3) := by decide +kernel
theorem dX11_layCan_27 : decode cX11_layCan 27 = .ok (.bipush 8, 2) := by decide +kernel
theorem dX11_layCan_29 : decode cX11_layCan 29 = .ok (.iload_n 3, 1) := by decide +kernel
theorem dX11_layCan_30 : decode cX11_layCan 30 = .ok (.iadd, 1) := by decide +kernel
theorem dX11_layCan_31 : decode cX11_layCan 31 = .ok (.iaload, 1) := by decide +kernel
theorem dX11_layCan_32 : decode cX11_layCan 32 = .ok (.iload_n 2, 1) := by decide +kernel
theorem dX11_layCan_33 : decode cX11_layCan 33 = .ok (.invokevirtual 317, 3) := by decide +kernel
theorem dX11_layCan_36 : decode cX11_layCan 36 = .ok (.iload_n 1, 1) := by decide +kernel
theorem dX11_layCan_37 : decode cX11_layCan 37 = .ok (.iand, 1) := by decide +kernel
theorem dX11_layCan_38 : decode cX11_layCan 38 = .ok (.goto 4, 3) := by decide +kernel
theorem dX11_layCan_41 : decode cX11_layCan 41 = .ok (.iconst 0, 1) := by decide +kernel
theorem dX11_layCan_42 : decode cX11_layCan 42 = .ok (.iastore, 1) := by decide +kernel
theorem dX11_layCan_43 : decode cX11_layCan 43 = .ok (.iinc 3 1, 3) := by decide +kernel
theorem dX11_layCan_46 : decode cX11_layCan 46 = .ok (.goto (-44), 3) := by decide +kernel
theorem dX11_layCan_49 : decode cX11_layCan 49 = .ok (.return_, 1) := by decide +kernel
theorem dX11_tryPairs_0 : decode cX11_tryPairs 0 = .ok (.iload_n 1, 1) := by decide +kernel
theorem dX11_tryPairs_1 : decode cX11_tryPairs 1 = .ok (.aload_n 0, 1) := by decide +kernel
theorem dX11_tryPairs_2 : decode cX11_tryPairs 2 = .ok (.getfield 20, 3) := by decide +kernel
theorem dX11_tryPairs_5 : decode cX11_tryPairs 5 = .ok (.iconst 3, 1) := by decide +kernel
theorem dX11_tryPairs_6 : decode cX11_tryPairs 6 = .ok (.iaload, 1) := by decide +kernel
theorem dX11_tryPairs_7 : decode cX11_tryPairs 7 = .ok (.if_icmp .ne 33, 3) := by decide +kernel
theorem dX11_tryPairs_10 : decode cX11_tryPairs 10 = .ok (.iload_n 3, 1) := by decide +kernel
theorem dX11_tryPairs_11 : decode cX11_tryPairs 11 = .ok (.aload_n 0, 1) := by decide +kernel
theorem dX11_tryPairs_12 : decode cX11_tryPairs 12 = .ok (.getfield 332, 3) := by decide +kernel
theorem dX11_tryPairs_15 : decode cX11_tryPairs 15 = .ok (.if_icmp .gt 4, 3) := by decide +kernel
theorem dX11_tryPairs_18 : decode cX11_tryPairs 18 = .ok (.return_, 1) := by decide +kernel
theorem dX11_tryPairs_19 : decode cX11_tryPairs 19 = .ok (.aload_n 0, 1) := by decide +kernel
theorem dX11_tryPairs_20 : decode cX11_tryPairs 20 = .ok (.iload_n 3, 1) := by decide +kernel
theorem dX11_tryPairs_21 : decode cX11_tryPairs 21 = .ok (.putfield 332, 3) := by decide +kernel
theorem dX11_tryPairs_24 : decode cX11_tryPairs 24 = .ok (.aload_n 0, 1) := by decide +kernel
theorem dX11_tryPairs_25 : decode cX11_tryPairs 25 = .ok (.getfield 38, 3) := by decide +kernel
theorem dX11_tryPairs_28 : decode cX11_tryPairs 28 = .ok (.iconst 0, 1) := by decide +kernel
theorem dX11_tryPairs_29 : decode cX11_tryPairs 29 = .ok (.aload_n 0, 1) := by decide +kernel
theorem dX11_tryPairs_30 : decode cX11_tryPairs 30 = .ok (.getfield 41, 3) := by decide +kernel
theorem dX11_tryPairs_33 : decode cX11_tryPairs 33 = .ok (.iconst 0, 1) := by decide +kernel
theorem dX11_tryPairs_34 : decode cX11_tryPairs 34 = .ok (.bipush 8, 2) := by decide +kernel
theorem dX11_tryPairs_36 : decode cX11_tryPairs 36 = .ok (.invokestatic 177, 3) := by decide +kernel
theorem dX11_tryPairs_39 : decode cX11_tryPairs 39 = .ok (.return_, 1) := by decide +kernel
theorem dX11_tryPairs_40 : decode cX11_tryPairs 40 = .ok (.iload_n 2, 1) := by decide +kernel
theorem dX11_tryPairs_41 : decode cX11_tryPairs 41 = .ok (.iload_n 1, 1) := by decide +kernel
theorem dX11_tryPairs_42 : decode cX11_tryPairs 42 = .ok (.invokestatic 266, 3) := by decide +kernel
theorem dX11_tryPairs_45 : decode cX11_tryPairs 45 = .ok (.ifCond .ne 13, 3) := by decide +kernel
theorem dX11_tryPairs_48 : decode cX11_tryPairs 48 = .ok (.aload_n 0, 1) := by decide +kernel
theorem dX11_tryPairs_49 : decode cX11_tryPairs 49 = .ok (.iload_n 1, 1) := by decide +kernel
theorem dX11_tryPairs_50 : decode cX11_tryPairs 50 = .ok (.iconst 1, 1) := by decide +kernel
theorem dX11_tryPairs_51 : decode cX11_tryPairs 51 = .ok (.iadd, 1) := by decide +kernel
theorem dX11_tryPairs_52 : decode cX11_tryPairs 52 = .ok (.iload_n 2, 1) := by decide +kernel
theorem dX11_tryPairs_53 : decode cX11_tryPairs 53 = .ok (.iload_n 3, 1) := by decide +kernel
theorem dX11_tryPairs_54 : decode cX11_tryPairs 54 = .ok (.invokevirtual 335, 3) := by decide +kernel
theorem dX11_tryPairs_57 : decode cX11_tryPairs 57 = .ok (.return_, 1) := by decide +kernel
theorem dX11_tryPairs_58 : decode cX11_tryPairs 58 = .ok (.iload_n 1, 1) := by decide +kernel
theorem dX11_tryPairs_59 : decode cX11_tryPairs 59 = .ok (.iconst 1, 1) := by decide +kernel
theorem dX11_tryPairs_60 : decode cX11_tryPairs 60 = .ok (.iadd, 1) := by decide +kernel
theorem dX11_tryPairs_61 : decode cX11_tryPairs 61 = .ok (.istore 4, 2) := by decide +kernel
theorem dX11_tryPairs_63 : decode cX11_tryPairs 63 = .ok (.iload 4, 2) := by decide +kernel
theorem dX11_tryPairs_65 : decode cX11_tryPairs 65 = .ok (.aload_n 0, 1) := by decide +kernel
theorem dX11_tryPairs_66 : decode cX11_tryPairs 66 = .ok (.getfield 20, 3) := by decide +kernel
theorem dX11_tryPairs_69 : decode cX11_tryPairs 69 = .ok (.iconst 3, 1) := by decide +kernel
theorem dX11_tryPairs_70 : decode cX11_tryPairs 70 = .ok (.iaload, 1) := by decide +kernel
theorem dX11_tryPairs_71 : decode cX11_tryPairs 71 = .ok (.if_icmp .ge 83, 3) := by decide +kernel
theorem dX11_tryPairs_74 : decode cX11_tryPairs 74 = .ok (.iload_n 2, 1) := by decide +kernel
theorem dX11_tryPairs_75 : decode cX11_tryPairs 75 = .ok (.aload_n 0, 1) := by decide +kernel
theorem dX11_tryPairs_76 : decode cX11_tryPairs 76 = .ok (.getfield 35, 3) := by decide +kernel
theorem dX11_tryPairs_79 : decode cX11_tryPairs 79 = .ok (.iload_n 1, 1) := by decide +kernel
theorem dX11_tryPairs_80 : decode cX11_tryPairs 80 = .ok (.iaload, 1) := by decide +kernel
theorem dX11_tryPairs_81 : decode cX11_tryPairs 81 = .ok (.iand, 1) := by decide +kernel
theorem dX11_tryPairs_82 : decode cX11_tryPairs 82 = .ok (.iload 4, 2) := by decide +kernel
theorem dX11_tryPairs_84 : decode cX11_tryPairs 84 = .ok (.invokestatic 266, 3) := by decide +kernel
theorem dX11_tryPairs_87 : decode cX11_tryPairs 87 = .ok (.ifCond .ne 6, 3) := by decide +kernel
theorem dX11_tryPairs_90 : decode cX11_tryPairs 90 = .ok (.goto 58, 3) := by decide +kernel
theorem dX11_tryPairs_93 : decode cX11_tryPairs 93 = .ok (.aload_n 0, 1) := by decide +kernel
theorem dX11_tryPairs_94 : decode cX11_tryPairs 94 = .ok (.getfield 38, 3) := by decide +kernel
theorem dX11_tryPairs_97 : decode cX11_tryPairs 97 = .ok (.iload_n 1, 1) := by decide +kernel
theorem dX11_tryPairs_98 : decode cX11_tryPairs 98 = .ok (.iload 4, 2) := by decide +kernel
theorem dX11_tryPairs_100 : decode cX11_tryPairs 100 = .ok (.iastore, 1) := by decide +kernel
theorem dX11_tryPairs_101 : decode cX11_tryPairs 101 = .ok (.aload_n 0, 1) := by decide +kernel
theorem dX11_tryPairs_102 : decode cX11_tryPairs 102 = .ok (.getfield 38, 3) := by decide +kernel
theorem dX11_tryPairs_105 : decode cX11_tryPairs 105 = .ok (.iload 4, 2) := by decide +kernel
theorem dX11_tryPairs_107 : decode cX11_tryPairs 107 = .ok (.iload_n 1, 1) := by decide +kernel
theorem dX11_tryPairs_108 : decode cX11_tryPairs 108 = .ok (.iastore, 1) := by decide +kernel
theorem dX11_tryPairs_109 : decode cX11_tryPairs 109 = .ok (.aload_n 0, 1) := by decide +kernel
theorem dX11_tryPairs_110 : decode cX11_tryPairs 110 = .ok (.iload_n 1, 1) := by decide +kernel
theorem dX11_tryPairs_111 : decode cX11_tryPairs 111 = .ok (.iconst 1, 1) := by decide +kernel
theorem dX11_tryPairs_112 : decode cX11_tryPairs 112 = .ok (.iadd, 1) := by decide +kernel
theorem dX11_tryPairs_113 : decode cX11_tryPairs 113 = .ok (.iload_n 2, 1) := by decide +kernel
theorem dX11_tryPairs_114 : decode cX11_tryPairs 114 = .ok (.iconst 1, 1) := by decide +kernel
theorem dX11_tryPairs_115 : decode cX11_tryPairs 115 = .ok (.iload_n 1, 1) := by decide +kernel
theorem dX11_tryPairs_116 : decode cX11_tryPairs 116 = .ok (.ishl, 1) := by decide +kernel
theorem dX11_tryPairs_117 : decode cX11_tryPairs 117 = .ok (.iconst 1, 1) := by decide +kernel
theorem dX11_tryPairs_118 : decode cX11_tryPairs 118 = .ok (.iload 4, 2) := by decide +kernel
theorem dX11_tryPairs_120 : decode cX11_tryPairs 120 = .ok (.ishl, 1) := by decide +kernel
theorem dX11_tryPairs_121 : decode cX11_tryPairs 121 = .ok (.ior, 1) := by decide +kernel
theorem dX11_tryPairs_122 : decode cX11_tryPairs 122 = .ok (.iconst (-1), 1) := by decide +kernel
theorem dX11_tryPairs_123 : decode cX11_tryPairs 123 = .ok (.ixor, 1) := by decide +kernel
theorem dX11_tryPairs_124 : decode cX11_tryPairs 124 = .ok (.iand, 1) := by decide +kernel
theorem dX11_tryPairs_125 : decode cX11_tryPairs 125 = .ok (.iload_n 3, 1) := by decide +kernel
theorem dX11_tryPairs_126 : decode cX11_tryPairs 126 = .ok (.iconst 1, 1) := by decide +kernel
theorem dX11_tryPairs_127 : decode cX11_tryPairs 127 = .ok (.iadd, 1) := by decide +kernel
theorem dX11_tryPairs_128 : decode cX11_tryPairs 128 = .ok (.invokevirtual 335, 3) := by decide +kernel
theorem dX11_tryPairs_131 : decode cX11_tryPairs 131 = .ok (.aload_n 0, 1) := by decide +kernel
theorem dX11_tryPairs_132 : decode cX11_tryPairs 132 = .ok (.getfield 38, 3) := by decide +kernel
theorem dX11_tryPairs_135 : decode cX11_tryPairs 135 = .ok (.iload_n 1, 1) := by decide +kernel
theorem dX11_tryPairs_136 : decode cX11_tryPairs 136 = .ok (.bipush (-2), 2) := by decide +kernel
theorem dX11_tryPairs_138 : decode cX11_tryPairs 138 = .ok (.iastore, 1) := by decide +kernel
theorem dX11_tryPairs_139 : decode cX11_tryPairs 139 = .ok (.aload_n 0, 1) := by decide +kernel
theorem dX11_tryPairs_140 : decode cX11_tryPairs 140 = .ok (.getfield 38, 3) := by decide +kernel
theorem dX11_tryPairs_143 : decode cX11_tryPairs 143 = .ok (.iload 4, 2) := by decide +kernel
theorem dX11_tryPairs_145 : decode cX11_tryPairs 145 = .ok (.bipush (-2), 2) := by decide +kernel
theorem dX11_tryPairs_147 : decode cX11_tryPairs 147 = .ok (.iastore, 1) := by decide +kernel
theorem dX11_tryPairs_148 : decode cX11_tryPairs 148 = .ok (.iinc 4 1, 3) := by decide +kernel
theorem dX11_tryPairs_151 : decode cX11_tryPairs 151 = .ok (.goto (-88), 3) := by decide +kernel
theorem dX11_tryPairs_154 : decode cX11_tryPairs 154 = .ok (.aload_n 0, 1) := by decide +kernel
theorem dX11_tryPairs_155 : decode cX11_tryPairs 155 = .ok (.iload_n 1, 1) := by decide +kernel
theorem dX11_tryPairs_156 : decode cX11_tryPairs 156 = .ok (.iconst 1, 1) := by decide +kernel
theorem dX11_tryPairs_157 : decode cX11_tryPairs 157 = .ok (.iadd, 1) := by decide +kernel
theorem dX11_tryPairs_158 : decode cX11_tryPairs 158 = .ok (.iload_n 2, 1) := by decide +kernel
theorem dX11_tryPairs_159 : decode cX11_tryPairs 159 = .ok (.iload_n 3, 1) := by decide +kernel
theorem dX11_tryPairs_160 : decode cX11_tryPairs 160 = .ok (.invokevirtual 335, 3) := by decide +kernel
theorem dX11_tryPairs_163 : decode cX11_tryPairs 163 = .ok (.return_, 1) := by decide +kernel
theorem dX11_seekPairs_0 : decode cX11_seekPairs 0 = .ok (.aload_n 0, 1) := by decide +kernel
theorem dX11_seekPairs_1 : decode cX11_seekPairs 1 = .ok (.iload_n 1, 1) := by decide +kernel
theorem dX11_seekPairs_2 : decode cX11_seekPairs 2 = .ok (.iload_n 2, 1) := by decide +kernel
theorem dX11_seekPairs_3 : decode cX11_seekPairs 3 = .ok (.invokevirtual 339, 3) := by decide +kernel
theorem dX11_seekPairs_6 : decode cX11_seekPairs 6 = .ok (.iconst 0, 1) := by decide +kernel
theorem dX11_seekPairs_7 : decode cX11_seekPairs 7 = .ok (.istore_n 3, 1) := by decide +kernel
theorem dX11_seekPairs_8 : decode cX11_seekPairs 8 = .ok (.iload_n 3, 1) := by decide +kernel
theorem dX11_seekPairs_9 : decode cX11_seekPairs 9 = .ok (.bipush 8, 2) := by decide +kernel
theorem dX11_seekPairs_11 : decode cX11_seekPairs 11 = .ok (.if_icmp .ge 17, 3) := by decide +kernel
theorem dX11_seekPairs_14 : decode cX11_seekPairs 14 = .ok (.aload_n 0, 1) := by decide +kernel
theorem dX11_seekPairs_15 : decode cX11_seekPairs 15 = .ok (.getfield 38, 3) := by decide +kernel
theorem dX11_seekPairs_18 : decode cX11_seekPairs 18 = .ok (.iload_n 3, 1) := by decide +kernel
theorem dX11_seekPairs_19 : decode cX11_seekPairs 19 = .ok (.bipush (-2), 2) := by decide +kernel
theorem dX11_seekPairs_21 : decode cX11_seekPairs 21 = .ok (.iastore, 1) := by decide +kernel
theorem dX11_seekPairs_22 : decode cX11_seekPairs 22 = .ok (.iinc 3 1, 3) := by decide +kernel
theorem dX11_seekPairs_25 : decode cX11_seekPairs 25 = .ok (.goto (-17), 3) := by decide +kernel
theorem dX11_seekPairs_28 : decode cX11_seekPairs 28 = .ok (.aload_n 0, 1) := by decide +kernel
theorem dX11_seekPairs_29 : decode cX11_seekPairs 29 = .ok (.iconst (-1), 1) := by decide +kernel
theorem dX11_seekPairs_30 : decode cX11_seekPairs 30 = .ok (.putfield 332, 3) := by decide +kernel
theorem dX11_seekPairs_33 : decode cX11_seekPairs 33 = .ok (.aload_n 0, 1) := by decide +kernel
theorem dX11_seekPairs_34 : decode cX11_seekPairs 34 = .ok (.iconst 0, 1) := by decide +kernel
theorem dX11_seekPairs_35 : decode cX11_seekPairs 35 = .ok (.iload_n 1, 1) := by decide +kernel
theorem dX11_seekPairs_36 : decode cX11_seekPairs 36 = .ok (.iconst 0, 1) := by decide +kernel
theorem dX11_seekPairs_37 : decode cX11_seekPairs 37 = .ok (.invokevirtual 335, 3) := by decide +kernel
theorem dX11_seekPairs_40 : decode cX11_seekPairs 40 = .ok (.aload_n 0, 1) := by decide +kernel
theorem dX11_seekPairs_41 : decode cX11_seekPairs 41 = .ok (.getfield 332, 3) := by decide +kernel
theorem dX11_seekPairs_44 : decode cX11_seekPairs 44 = .ok (.ireturn, 1) := by decide +kernel
theorem dX11_bankWhy_0 : decode cX11_bankWhy 0 = .ok (.aload_n 0, 1) := by decide +kernel
theorem dX11_bankWhy_1 : decode cX11_bankWhy 1 = .ok (.aload_n 0, 1) := by decide +kernel
theorem dX11_bankWhy_2 : decode cX11_bankWhy 2 = .ok (.getfield 181, 3) := by decide +kernel
theorem dX11_bankWhy_5 : decode cX11_bankWhy 5 = .ok (.ifCond .eq 16, 3) := by decide +kernel
theorem dX11_bankWhy_8 : decode cX11_bankWhy 8 = .ok (.iload_n 1, 1) := by decide +kernel
theorem dX11_bankWhy_9 : decode cX11_bankWhy 9 = .ok (.iconst 0, 1) := by decide +kernel
theorem dX11_bankWhy_10 : decode cX11_bankWhy 10 = .ok (.iconst 1, 1) := by decide +kernel
theorem dX11_bankWhy_11 : decode cX11_bankWhy 11 = .ok (.invokestatic 147, 3) := by decide +kernel
theorem dX11_bankWhy_14 : decode cX11_bankWhy 14 = .ok (.ifCond .eq 7, 3) := by decide +kernel
theorem dX11_bankWhy_17 : decode cX11_bankWhy 17 = .ok (.iconst 1, 1) := by decide +kernel
theorem dX11_bankWhy_18 : decode cX11_bankWhy 18 = .ok (.goto 4, 3) := by decide +kernel
theorem dX11_bankWhy_21 : decode cX11_bankWhy 21 = .ok (.iconst 0, 1) := by decide +kernel
theorem dX11_bankWhy_22 : decode cX11_bankWhy 22 = .ok (.iload_n 2, 1) := by decide +kernel
theorem dX11_bankWhy_23 : decode cX11_bankWhy 23 = .ok (.invokevirtual 303, 3) := by decide +kernel
theorem dX11_bankWhy_26 : decode cX11_bankWhy 26 = .ok (.ireturn, 1) := by decide +kernel
theorem dX11_pairs_0 : decode cX11_pairs 0 = .ok (.aload_n 0, 1) := by decide +kernel
theorem dX11_pairs_1 : decode cX11_pairs 1 = .ok (.invokevirtual 168, 3) := by decide +kernel
theorem dX11_pairs_4 : decode cX11_pairs 4 = .ok (.aload_n 0, 1) := by decide +kernel
theorem dX11_pairs_5 : decode cX11_pairs 5 = .ok (.iload_n 1, 1) := by decide +kernel
theorem dX11_pairs_6 : decode cX11_pairs 6 = .ok (.iload_n 2, 1) := by decide +kernel
theorem dX11_pairs_7 : decode cX11_pairs 7 = .ok (.invokevirtual 342, 3) := by decide +kernel
theorem dX11_pairs_10 : decode cX11_pairs 10 = .ok (.istore_n 3, 1) := by decide +kernel
theorem dX11_pairs_11 : decode cX11_pairs 11 = .ok (.iload_n 3, 1) := by decide +kernel
theorem dX11_pairs_12 : decode cX11_pairs 12 = .ok (.ifCond .eq 11, 3) := by decide +kernel
theorem dX11_pairs_15 : decode cX11_pairs 15 = .ok (.aload_n 0, 1) := by decide +kernel
theorem dX11_pairs_16 : decode cX11_pairs 16 = .ok (.iload_n 3, 1) := by decide +kernel
theorem dX11_pairs_17 : decode cX11_pairs 17 = .ok (.invokevirtual 171, 3) := by decide +kernel
theorem dX11_pairs_20 : decode cX11_pairs 20 = .ok (.goto 17, 3) := by decide +kernel
theorem dX11_pairs_23 : decode cX11_pairs 23 = .ok (.aload_n 0, 1) := by decide +kernel
theorem dX11_pairs_24 : decode cX11_pairs 24 = .ok (.aload_n 0, 1) := by decide +kernel
theorem dX11_pairs_25 : decode cX11_pairs 25 = .ok (.iload_n 1, 1) := by decide +kernel
theorem dX11_pairs_26 : decode cX11_pairs 26 = .ok (.invokevirtual 326, 3) := by decide +kernel
theorem dX11_pairs_29 : decode cX11_pairs 29 = .ok (.aload_n 0, 1) := by decide +kernel
theorem dX11_pairs_30 : decode cX11_pairs 30 = .ok (.iload_n 2, 1) := by decide +kernel
theorem dX11_pairs_31 : decode cX11_pairs 31 = .ok (.invokevirtual 307, 3) := by decide +kernel
theorem dX11_pairs_34 : decode cX11_pairs 34 = .ok (.invokevirtual 345, 3) := by decide +kernel
theorem dX11_pairs_37 : decode cX11_pairs 37 = .ok (.ireturn, 1) := by decide +kernel
theorem dX11_partner_0 : decode cX11_partner 0 = .ok (.aload_n 0, 1) := by decide +kernel
theorem dX11_partner_1 : decode cX11_partner 1 = .ok (.invokevirtual 168, 3) := by decide +kernel
theorem dX11_partner_4 : decode cX11_partner 4 = .ok (.aload_n 0, 1) := by decide +kernel
theorem dX11_partner_5 : decode cX11_partner 5 = .ok (.iload_n 1, 1) := by decide +kernel
theorem dX11_partner_6 : decode cX11_partner 6 = .ok (.invokevirtual 297, 3) := by decide +kernel
theorem dX11_partner_9 : decode cX11_partner 9 = .ok (.ifCond .ne 9, 3) := by decide +kernel
theorem dX11_partner_12 : decode cX11_partner 12 = .ok (.aload_n 0, 1) := by decide +kernel
theorem dX11_partner_13 : decode cX11_partner 13 = .ok (.iconst 1, 1) := by decide +kernel
theorem dX11_partner_14 : decode cX11_partner 14 = .ok (.invokevirtual 171, 3) := by decide +kernel
theorem dX11_partner_17 : decode cX11_partner 17 = .ok (.ireturn, 1) := by decide +kernel
theorem dX11_partner_18 : decode cX11_partner 18 = .ok (.aload_n 0, 1) := by decide +kernel
theorem dX11_partner_19 : decode cX11_partner 19 = .ok (.iload_n 2, 1) := by decide +kernel
theorem dX11_partner_20 : decode cX11_partner 20 = .ok (.iload_n 3, 1) := by decide +kernel
theorem dX11_partner_21 : decode cX11_partner 21 = .ok (.invokevirtual 342, 3) := by decide +kernel
theorem dX11_partner_24 : decode cX11_partner 24 = .ok (.istore 4, 2) := by decide +kernel
theorem dX11_partner_26 : decode cX11_partner 26 = .ok (.iload 4, 2) := by decide +kernel
theorem dX11_partner_28 : decode cX11_partner 28 = .ok (.ifCond .eq 10, 3) := by decide +kernel
theorem dX11_partner_31 : decode cX11_partner 31 = .ok (.aload_n 0, 1) := by decide +kernel
theorem dX11_partner_32 : decode cX11_partner 32 = .ok (.iload 4, 2) := by decide +kernel
theorem dX11_partner_34 : decode cX11_partner 34 = .ok (.invokevirtual 171, 3) := by decide +kernel
theorem dX11_partner_37 : decode cX11_partner 37 = .ok (.ireturn, 1) := by decide +kernel
theorem dX11_partner_38 : decode cX11_partner 38 = .ok (.aload_n 0, 1) := by decide +kernel
theorem dX11_partner_39 : decode cX11_partner 39 = .ok (.aload_n 0, 1) := by decide +kernel
theorem dX11_partner_40 : decode cX11_partner 40 = .ok (.iload_n 2, 1) := by decide +kernel
theorem dX11_partner_41 : decode cX11_partner 41 = .ok (.invokevirtual 326, 3) := by decide +kernel
theorem dX11_partner_44 : decode cX11_partner 44 = .ok (.aload_n 0, 1) := by decide +kernel
theorem dX11_partner_45 : decode cX11_partner 45 = .ok (.iload_n 3, 1) := by decide +kernel
theorem dX11_partner_46 : decode cX11_partner 46 = .ok (.invokevirtual 307, 3) := by decide +kernel
theorem dX11_partner_49 : decode cX11_partner 49 = .ok (.invokevirtual 345, 3) := by decide +kernel
theorem dX11_partner_52 : decode cX11_partner 52 = .ok (.pop, 1) := by decide +kernel
theorem dX11_partner_53 : decode cX11_partner 53 = .ok (.aload_n 0, 1) := by decide +kernel
theorem dX11_partner_54 : decode cX11_partner 54 = .ok (.getfield 41, 3) := by decide +kernel
theorem dX11_partner_57 : decode cX11_partner 57 = .ok (.iload_n 1, 1) := by decide +kernel
theorem dX11_partner_58 : decode cX11_partner 58 = .ok (.iaload, 1) := by decide +kernel
theorem dX11_partner_59 : decode cX11_partner 59 = .ok (.ireturn, 1) := by decide +kernel
theorem dX11_aloneBy_0 : decode cX11_aloneBy 0 = .ok (.aload_n 0, 1) := by decide +kernel
theorem dX11_aloneBy_1 : decode cX11_aloneBy 1 = .ok (.aload_n 0, 1) := by decide +kernel
theorem dX11_aloneBy_2 : decode cX11_aloneBy 2 = .ok (.iload_n 1, 1) := by decide +kernel
theorem dX11_aloneBy_3 : decode cX11_aloneBy 3 = .ok (.invokevirtual 326, 3) := by decide +kernel
theorem dX11_aloneBy_6 : decode cX11_aloneBy 6 = .ok (.iload_n 2, 1) := by decide +kernel
theorem dX11_aloneBy_7 : decode cX11_aloneBy 7 = .ok (.invokevirtual 339, 3) := by decide +kernel
theorem dX11_aloneBy_10 : decode cX11_aloneBy 10 = .ok (.iconst 0, 1) := by decide +kernel
theorem dX11_aloneBy_11 : decode cX11_aloneBy 11 = .ok (.istore_n 3, 1) := by decide +kernel
theorem dX11_aloneBy_12 : decode cX11_aloneBy 12 = .ok (.iconst 0, 1) := by decide +kernel
theorem dX11_aloneBy_13 : decode cX11_aloneBy 13 = .ok (.istore 4, 2) := by decide +kernel
theorem dX11_aloneBy_15 : decode cX11_aloneBy 15 = .ok (.iload 4, 2) := by decide +kernel
theorem dX11_aloneBy_17 : decode cX11_aloneBy 17 = .ok (.aload_n 0, 1) := by decide +kernel
theorem dX11_aloneBy_18 : decode cX11_aloneBy 18 = .ok (.getfield 20, 3) := by decide +kernel
theorem dX11_aloneBy_21 : decode cX11_aloneBy 21 = .ok (.iconst 3, 1) := by decide +kernel
theorem dX11_aloneBy_22 : decode cX11_aloneBy 22 = .ok (.iaload, 1) := by decide +kernel
theorem dX11_aloneBy_23 : decode cX11_aloneBy 23 = .ok (.if_icmp .ge 41, 3) := by decide +kernel
theorem dX11_aloneBy_26 : decode cX11_aloneBy 26 = .ok (.iload_n 3, 1) := by decide +kernel
theorem dX11_aloneBy_27 : decode cX11_aloneBy 27 = .ok (.aload_n 0, 1) := by decide +kernel
theorem dX11_aloneBy_28 : decode cX11_aloneBy 28 = .ok (.getfield 26, 3) := by decide +kernel
theorem dX11_aloneBy_31 : decode cX11_aloneBy 31 = .ok (.iload 4, 2) := by decide +kernel
theorem dX11_aloneBy_33 : decode cX11_aloneBy 33 = .ok (.iaload, 1) := by decide +kernel
theorem dX11_aloneBy_34 : decode cX11_aloneBy 34 = .ok (.iload_n 1, 1) := by decide +kernel
theorem dX11_aloneBy_35 : decode cX11_aloneBy 35 = .ok (.if_icmp .ne 20, 3) := by decide +kernel
theorem dX11_aloneBy_38 : decode cX11_aloneBy 38 = .ok (.aload_n 0, 1) := by decide +kernel
theorem dX11_aloneBy_39 : decode cX11_aloneBy 39 = .ok (.getfield 35, 3) := by decide +kernel
theorem dX11_aloneBy_42 : decode cX11_aloneBy 42 = .ok (.iload 4, 2) := by decide +kernel
theorem dX11_aloneBy_44 : decode cX11_aloneBy 44 = .ok (.iaload, 1) := by decide +kernel
theorem dX11_aloneBy_45 : decode cX11_aloneBy 45 = .ok (.ifCond .ne 10, 3) := by decide +kernel
theorem dX11_aloneBy_48 : decode cX11_aloneBy 48 = .ok (.iconst 1, 1) := by decide +kernel
theorem dX11_aloneBy_49 : decode cX11_aloneBy 49 = .ok (.iload 4, 2) := by decide +kernel
theorem dX11_aloneBy_51 : decode cX11_aloneBy 51 = .ok (.ishl, 1) := by decide +kernel
theorem dX11_aloneBy_52 : decode cX11_aloneBy 52 = .ok (.goto 4, 3) := by decide +kernel
theorem dX11_aloneBy_55 : decode cX11_aloneBy 55 = .ok (.iconst 0, 1) := by decide +kernel
theorem dX11_aloneBy_56 : decode cX11_aloneBy 56 = .ok (.ior, 1) := by decide +kernel
theorem dX11_aloneBy_57 : decode cX11_aloneBy 57 = .ok (.istore_n 3, 1) := by decide +kernel
theorem dX11_aloneBy_58 : decode cX11_aloneBy 58 = .ok (.iinc 4 1, 3) := by decide +kernel
theorem dX11_aloneBy_61 : decode cX11_aloneBy 61 = .ok (.goto (-46), 3) := by decide +kernel
theorem dX11_aloneBy_64 : decode cX11_aloneBy 64 = .ok (.iload_n 3, 1) := by decide +kernel
theorem dX11_aloneBy_65 : decode cX11_aloneBy 65 = .ok (.ireturn, 1) := by decide +kernel
theorem dX11_alone_0 : decode cX11_alone 0 = .ok (.aload_n 0, 1) := by decide +kernel
theorem dX11_alone_1 : decode cX11_alone 1 = .ok (.invokevirtual 168, 3) := by decide +kernel
theorem dX11_alone_4 : decode cX11_alone 4 = .ok (.aload_n 0, 1) := by decide +kernel
theorem dX11_alone_5 : decode cX11_alone 5 = .ok (.iload_n 1, 1) := by decide +kernel
theorem dX11_alone_6 : decode cX11_alone 6 = .ok (.iload_n 2, 1) := by decide +kernel
theorem dX11_alone_7 : decode cX11_alone 7 = .ok (.invokevirtual 342, 3) := by decide +kernel
theorem dX11_alone_10 : decode cX11_alone 10 = .ok (.istore_n 3, 1) := by decide +kernel
theorem dX11_alone_11 : decode cX11_alone 11 = .ok (.iload_n 3, 1) := by decide +kernel
theorem dX11_alone_12 : decode cX11_alone 12 = .ok (.ifCond .eq 11, 3) := by decide +kernel
theorem dX11_alone_15 : decode cX11_alone 15 = .ok (.aload_n 0, 1) := by decide +kernel
theorem dX11_alone_16 : decode cX11_alone 16 = .ok (.iload_n 3, 1) := by decide +kernel
theorem dX11_alone_17 : decode cX11_alone 17 = .ok (.invokevirtual 171, 3) := by decide +kernel
theorem dX11_alone_20 : decode cX11_alone 20 = .ok (.goto 13, 3) := by decide +kernel
theorem dX11_alone_23 : decode cX11_alone 23 = .ok (.aload_n 0, 1) := by decide +kernel
theorem dX11_alone_24 : decode cX11_alone 24 = .ok (.iload_n 1, 1) := by decide +kernel
theorem dX11_alone_25 : decode cX11_alone 25 = .ok (.aload_n 0, 1) := by decide +kernel
theorem dX11_alone_26 : decode cX11_alone 26 = .ok (.iload_n 2, 1) := by decide +kernel
theorem dX11_alone_27 : decode cX11_alone 27 = .ok (.invokevirtual 307, 3) := by decide +kernel
theorem dX11_alone_30 : decode cX11_alone 30 = .ok (.invokevirtual 348, 3) := by decide +kernel
theorem dX11_alone_33 : decode cX11_alone 33 = .ok (.ireturn, 1) := by decide +kernel
theorem dX11_isKept_0 : decode cX11_isKept 0 = .ok (.aload_n 0, 1) := by decide +kernel
theorem dX11_isKept_1 : decode cX11_isKept 1 = .ok (.getfield 20, 3) := by decide +kernel
theorem dX11_isKept_4 : decode cX11_isKept 4 = .ok (.bipush 89, 2) := by decide +kernel
theorem dX11_isKept_6 : decode cX11_isKept 6 = .ok (.iconst 4, 1) := by decide +kernel
theorem dX11_isKept_7 : decode cX11_isKept 7 = .ok (.iload_n 1, 1) := by decide +kernel
theorem dX11_isKept_8 : decode cX11_isKept 8 = .ok (.imul, 1) := by decide +kernel
theorem dX11_isKept_9 : decode cX11_isKept 9 = .ok (.iadd, 1) := by decide +kernel
theorem dX11_isKept_10 : decode cX11_isKept 10 = .ok (.iconst 3, 1) := by decide +kernel
theorem dX11_isKept_11 : decode cX11_isKept 11 = .ok (.iadd, 1) := by decide +kernel
theorem dX11_isKept_12 : decode cX11_isKept 12 = .ok (.iaload, 1) := by decide +kernel
theorem dX11_isKept_13 : decode cX11_isKept 13 = .ok (.iload_n 2, 1) := by decide +kernel
theorem dX11_isKept_14 : decode cX11_isKept 14 = .ok (.if_icmp .lt 7, 3) := by decide +kernel
theorem dX11_isKept_17 : decode cX11_isKept 17 = .ok (.iconst 1, 1) := by decide +kernel
theorem dX11_isKept_18 : decode cX11_isKept 18 = .ok (.goto 4, 3) := by decide +kernel
theorem dX11_isKept_21 : decode cX11_isKept 21 = .ok (.iconst 0, 1) := by decide +kernel
theorem dX11_isKept_22 : decode cX11_isKept 22 = .ok (.ireturn, 1) := by decide +kernel
theorem dX11_tryErrands_0 : decode cX11_tryErrands 0 = .ok (.iload_n 1, 1) := by decide +kernel
theorem dX11_tryErrands_1 : decode cX11_tryErrands 1 = .ok (.aload_n 0, 1) := by decide +kernel
theorem dX11_tryErrands_2 : decode cX11_tryErrands 2 = .ok (.getfield 20, 3) := by decide +kernel
theorem dX11_tryErrands_5 : decode cX11_tryErrands 5 = .ok (.iconst 3, 1) := by decide +kernel
theorem dX11_tryErrands_6 : decode cX11_tryErrands 6 = .ok (.iaload, 1) := by decide +kernel
theorem dX11_tryErrands_7 : decode cX11_tryErrands 7 = .ok (.if_icmp .ne 24, 3) := by decide +kernel
theorem dX11_tryErrands_10 : decode cX11_tryErrands 10 = .ok (.aload_n 0, 1) := by decide +kernel
theorem dX11_tryErrands_11 : decode cX11_tryErrands 11 = .ok (.iload_n 3, 1) := by decide +kernel
theorem dX11_tryErrands_12 : decode cX11_tryErrands 12 = .ok (.aload_n 0, 1) := by decide +kernel
theorem dX11_tryErrands_13 : decode cX11_tryErrands 13 = .ok (.getfield 351, 3) := by decide +kernel
theorem dX11_tryErrands_16 : decode cX11_tryErrands 16 = .ok (.if_icmp .le 7, 3) := by decide +kernel
theorem dX11_tryErrands_19 : decode cX11_tryErrands 19 = .ok (.iload_n 3, 1) := by decide +kernel
theorem dX11_tryErrands_20 : decode cX11_tryErrands 20 = .ok (.goto 7, 3) := by decide +kernel
theorem dX11_tryErrands_23 : decode cX11_tryErrands 23 = .ok (.aload_n 0, 1) := by decide +kernel
theorem dX11_tryErrands_24 : decode cX11_tryErrands 24 = .ok (.getfield 351, 3) := by decide +kernel
theorem dX11_tryErrands_27 : decode cX11_tryErrands 27 = .ok (.putfield 351, 3) := by decide +kernel
theorem dX11_tryErrands_30 : decode cX11_tryErrands 30 = .ok (.return_, 1) := by decide +kernel
theorem dX11_tryErrands_31 : decode cX11_tryErrands 31 = .ok (.iload_n 1, 1) := by decide +kernel
theorem dX11_tryErrands_32 : decode cX11_tryErrands 32 = .ok (.iconst 1, 1) := by decide +kernel
theorem dX11_tryErrands_33 : decode cX11_tryErrands 33 = .ok (.iadd, 1) := by decide +kernel
theorem dX11_tryErrands_34 : decode cX11_tryErrands 34 = .ok (.istore 4, 2) := by decide +kernel
theorem dX11_tryErrands_36 : decode cX11_tryErrands 36 = .ok (.iload 4, 2) := by decide +kernel
theorem dX11_tryErrands_38 : decode cX11_tryErrands 38 = .ok (.aload_n 0, 1) := by decide +kernel
theorem dX11_tryErrands_39 : decode cX11_tryErrands 39 = .ok (.getfield 20, 3) := by decide +kernel
theorem dX11_tryErrands_42 : decode cX11_tryErrands 42 = .ok (.iconst 3, 1) := by decide +kernel
theorem dX11_tryErrands_43 : decode cX11_tryErrands 43 = .ok (.iaload, 1) := by decide +kernel
theorem dX11_tryErrands_44 : decode cX11_tryErrands 44 = .ok (.if_icmp .ge 123, 3) := by decide +kernel
theorem dX11_tryErrands_47 : decode cX11_tryErrands 47 = .ok (.iload_n 2, 1) := by decide +kernel
theorem dX11_tryErrands_48 : decode cX11_tryErrands 48 = .ok (.iload_n 1, 1) := by decide +kernel
theorem dX11_tryErrands_49 : decode cX11_tryErrands 49 = .ok (.invokestatic 266, 3) := by decide +kernel
theorem dX11_tryErrands_52 : decode cX11_tryErrands 52 = .ok (.ifCond .eq 115, 3) := by decide +kernel
theorem dX11_tryErrands_55 : decode cX11_tryErrands 55 = .ok (.iload_n 2, 1) := by decide +kernel
theorem dX11_tryErrands_56 : decode cX11_tryErrands 56 = .ok (.aload_n 0, 1) := by decide +kernel
theorem dX11_tryErrands_57 : decode cX11_tryErrands 57 = .ok (.getfield 35, 3) := by decide +kernel
theorem dX11_tryErrands_60 : decode cX11_tryErrands 60 = .ok (.iload_n 1, 1) := by decide +kernel
theorem dX11_tryErrands_61 : decode cX11_tryErrands 61 = .ok (.iaload, 1) := by decide +kernel
theorem dX11_tryErrands_62 : decode cX11_tryErrands 62 = .ok (.iand, 1) := by decide +kernel
theorem dX11_tryErrands_63 : decode cX11_tryErrands 63 = .ok (.iload 4, 2) := by decide +kernel
theorem dX11_tryErrands_65 : decode cX11_tryErrands 65 = .ok (.invokestatic 266, 3) := by decide +kernel
theorem dX11_tryErrands_68 : decode cX11_tryErrands 68 = .ok (.ifCond .ne 6, 3) := by decide +kernel
theorem dX11_tryErrands_71 : decode cX11_tryErrands 71 = .ok (.goto 90, 3) := by decide +kernel
theorem dX11_tryErrands_74 : decode cX11_tryErrands 74 = .ok (.iconst 1, 1) := by decide +kernel
theorem dX11_tryErrands_75 : decode cX11_tryErrands 75 = .ok (.istore 5, 2) := by decide +kernel
theorem dX11_tryErrands_77 : decode cX11_tryErrands 77 = .ok (.iload 5, 2) := by decide +kernel
theorem dX11_tryErrands_79 : decode cX11_tryErrands 79 = .ok (.iconst 4, 1) := by decide +kernel
theorem dX11_tryErrands_80 : decode cX11_tryErrands 80 = .ok (.if_icmp .gt 81, 3) := by decide +kernel
theorem dX11_tryErrands_83 : decode cX11_tryErrands 83 = .ok (.aload_n 0, 1) := by decide +kernel
theorem dX11_tryErrands_84 : decode cX11_tryErrands 84 = .ok (.getfield 44, 3) := by decide +kernel
theorem dX11_tryErrands_87 : decode cX11_tryErrands 87 = .ok (.iload 5, 2) := by decide +kernel
theorem dX11_tryErrands_89 : decode cX11_tryErrands 89 = .ok (.iaload, 1) := by decide +kernel
theorem dX11_tryErrands_90 : decode cX11_tryErrands 90 = .ok (.ifCond .ne 6, 3) := by decide +kernel
theorem dX11_tryErrands_93 : decode cX11_tryErrands 93 = .ok (.goto 62, 3) := by decide +kernel
theorem dX11_tryErrands_96 : decode cX11_tryErrands 96 = .ok (.aload_n 0, 1) := by decide +kernel
theorem dX11_tryErrands_97 : decode cX11_tryErrands 97 = .ok (.getfield 44, 3) := by decide +kernel
theorem dX11_tryErrands_100 : decode cX11_tryErrands 100 = .ok (.iload 5, 2) := by decide +kernel
theorem dX11_tryErrands_102 : decode cX11_tryErrands 102 = .ok (.dup2, 1) := by decide +kernel
theorem dX11_tryErrands_103 : decode cX11_tryErrands 103 = .ok (.iaload, 1) := by decide +kernel
theorem dX11_tryErrands_104 : decode cX11_tryErrands 104 = .ok (.iconst 1, 1) := by decide +kernel
theorem dX11_tryErrands_105 : decode cX11_tryErrands 105 = .ok (.isub, 1) := by decide +kernel
theorem dX11_tryErrands_106 : decode cX11_tryErrands 106 = .ok (.iastore, 1) := by decide +kernel
theorem dX11_tryErrands_107 : decode cX11_tryErrands 107 = .ok (.aload_n 0, 1) := by decide +kernel
theorem dX11_tryErrands_108 : decode cX11_tryErrands 108 = .ok (.iload_n 1, 1) := by decide +kernel
theorem dX11_tryErrands_109 : decode cX11_tryErrands 109 = .ok (.iconst 1, 1) := by decide +kernel
theorem dX11_tryErrands_110 : decode cX11_tryErrands 110 = .ok (.iadd, 1) := by decide +kernel
theorem dX11_tryErrands_111 : decode cX11_tryErrands 111 = .ok (.iload_n 2, 1) := by decide +kernel
theorem dX11_tryErrands_112 : decode cX11_tryErrands 112 = .ok (.iconst 1, 1) := by decide +kernel
theorem dX11_tryErrands_113 : decode cX11_tryErrands 113 = .ok (.iload_n 1, 1) := by decide +kernel
theorem dX11_tryErrands_114 : decode cX11_tryErrands 114 = .ok (.ishl, 1) := by decide +kernel
theorem dX11_tryErrands_115 : decode cX11_tryErrands 115 = .ok (.iconst 1, 1) := by decide +kernel
theorem dX11_tryErrands_116 : decode cX11_tryErrands 116 = .ok (.iload 4, 2) := by decide +kernel
theorem dX11_tryErrands_118 : decode cX11_tryErrands 118 = .ok (.ishl, 1) := by decide +kernel
theorem dX11_tryErrands_119 : decode cX11_tryErrands 119 = .ok (.ior, 1) := by decide +kernel
theorem dX11_tryErrands_120 : decode cX11_tryErrands 120 = .ok (.iconst (-1), 1) := by decide +kernel
theorem dX11_tryErrands_121 : decode cX11_tryErrands 121 = .ok (.ixor, 1) := by decide +kernel
theorem dX11_tryErrands_122 : decode cX11_tryErrands 122 = .ok (.iand, 1) := by decide +kernel
theorem dX11_tryErrands_123 : decode cX11_tryErrands 123 = .ok (.iload_n 3, 1) := by decide +kernel
theorem dX11_tryErrands_124 : decode cX11_tryErrands 124 = .ok (.aload_n 0, 1) := by decide +kernel
theorem dX11_tryErrands_125 : decode cX11_tryErrands 125 = .ok (.iload_n 1, 1) := by decide +kernel
theorem dX11_tryErrands_126 : decode cX11_tryErrands 126 = .ok (.iload 5, 2) := by decide +kernel
theorem dX11_tryErrands_128 : decode cX11_tryErrands 128 = .ok (.invokevirtual 354, 3) := by decide +kernel
theorem dX11_tryErrands_131 : decode cX11_tryErrands 131 = .ok (.iadd, 1) := by decide +kernel
theorem dX11_tryErrands_132 : decode cX11_tryErrands 132 = .ok (.aload_n 0, 1) := by decide +kernel
theorem dX11_tryErrands_133 : decode cX11_tryErrands 133 = .ok (.iload 4, 2) := by decide +kernel
theorem dX11_tryErrands_135 : decode cX11_tryErrands 135 = .ok (.iload 5, 2) := by decide +kernel
theorem dX11_tryErrands_137 : decode cX11_tryErrands 137 = .ok (.invokevirtual 354, 3) := by decide +kernel
theorem dX11_tryErrands_140 : decode cX11_tryErrands 140 = .ok (.iadd, 1) := by decide +kernel
theorem dX11_tryErrands_141 : decode cX11_tryErrands 141 = .ok (.invokevirtual 357, 3) := by decide +kernel
theorem dX11_tryErrands_144 : decode cX11_tryErrands 144 = .ok (.aload_n 0, 1) := by decide +kernel
theorem dX11_tryErrands_145 : decode cX11_tryErrands 145 = .ok (.getfield 44, 3) := by decide +kernel
theorem dX11_tryErrands_148 : decode cX11_tryErrands 148 = .ok (.iload 5, 2) := by decide +kernel
theorem dX11_tryErrands_150 : decode cX11_tryErrands 150 = .ok (.dup2, 1) := by decide +kernel
theorem dX11_tryErrands_151 : decode cX11_tryErrands 151 = .ok (.iaload, 1) := by decide +kernel
theorem dX11_tryErrands_152 : decode cX11_tryErrands 152 = .ok (.iconst 1, 1) := by decide +kernel
theorem dX11_tryErrands_153 : decode cX11_tryErrands 153 = .ok (.iadd, 1) := by decide +kernel
theorem dX11_tryErrands_154 : decode cX11_tryErrands 154 = .ok (.iastore, 1) := by decide +kernel
theorem dX11_tryErrands_155 : decode cX11_tryErrands 155 = .ok (.iinc 5 1, 3) := by decide +kernel
theorem dX11_tryErrands_158 : decode cX11_tryErrands 158 = .ok (.goto (-81), 3) := by decide +kernel
theorem dX11_tryErrands_161 : decode cX11_tryErrands 161 = .ok (.iinc 4 1, 3) := by decide +kernel
theorem dX11_tryErrands_164 : decode cX11_tryErrands 164 = .ok (.goto (-128), 3) := by decide +kernel
theorem dX11_tryErrands_167 : decode cX11_tryErrands 167 = .ok (.aload_n 0, 1) := by decide +kernel
theorem dX11_tryErrands_168 : decode cX11_tryErrands 168 = .ok (.iload_n 1, 1) := by decide +kernel
theorem dX11_tryErrands_169 : decode cX11_tryErrands 169 = .ok (.iconst 1, 1) := by decide +kernel
theorem dX11_tryErrands_170 : decode cX11_tryErrands 170 = .ok (.iadd, 1) := by decide +kernel
theorem dX11_tryErrands_171 : decode cX11_tryErrands 171 = .ok (.iload_n 2, 1) := by decide +kernel
theorem dX11_tryErrands_172 : decode cX11_tryErrands 172 = .ok (.iconst 1, 1) := by decide +kernel
theorem dX11_tryErrands_173 : decode cX11_tryErrands 173 = .ok (.iload_n 1, 1) := by decide +kernel
theorem dX11_tryErrands_174 : decode cX11_tryErrands 174 = .ok (.ishl, 1) := by decide +kernel
theorem dX11_tryErrands_175 : decode cX11_tryErrands 175 = .ok (.iconst (-1), 1) := by decide +kernel
theorem dX11_tryErrands_176 : decode cX11_tryErrands 176 = .ok (.ixor, 1) := by decide +kernel
theorem dX11_tryErrands_177 : decode cX11_tryErrands 177 = .ok (.iand, 1) := by decide +kernel
theorem dX11_tryErrands_178 : decode cX11_tryErrands 178 = .ok (.iload_n 3, 1) := by decide +kernel
theorem dX11_tryErrands_179 : decode cX11_tryErrands 179 = .ok (.invokevirtual 357, 3) := by decide +kernel
theorem dX11_tryErrands_182 : decode cX11_tryErrands 182 = .ok (.return_, 1) := by decide +kernel
theorem dX11_kept_0 : decode cX11_kept 0 = .ok (.aload_n 0, 1) := by decide +kernel
theorem dX11_kept_1 : decode cX11_kept 1 = .ok (.invokevirtual 168, 3) := by decide +kernel
theorem dX11_kept_4 : decode cX11_kept 4 = .ok (.aload_n 0, 1) := by decide +kernel
theorem dX11_kept_5 : decode cX11_kept 5 = .ok (.aload_n 0, 1) := by decide +kernel
theorem dX11_kept_6 : decode cX11_kept 6 = .ok (.getfield 181, 3) := by decide +kernel
theorem dX11_kept_9 : decode cX11_kept 9 = .ok (.iload_n 1, 1) := by decide +kernel
theorem dX11_kept_10 : decode cX11_kept 10 = .ok (.invokevirtual 303, 3) := by decide +kernel
theorem dX11_kept_13 : decode cX11_kept 13 = .ok (.istore_n 2, 1) := by decide +kernel
theorem dX11_kept_14 : decode cX11_kept 14 = .ok (.iload_n 2, 1) := by decide +kernel
theorem dX11_kept_15 : decode cX11_kept 15 = .ok (.ifCond .eq 9, 3) := by decide +kernel
theorem dX11_kept_18 : decode cX11_kept 18 = .ok (.aload_n 0, 1) := by decide +kernel
theorem dX11_kept_19 : decode cX11_kept 19 = .ok (.iload_n 2, 1) := by decide +kernel
theorem dX11_kept_20 : decode cX11_kept 20 = .ok (.invokevirtual 171, 3) := by decide +kernel
theorem dX11_kept_23 : decode cX11_kept 23 = .ok (.ireturn, 1) := by decide +kernel
theorem dX11_kept_24 : decode cX11_kept 24 = .ok (.aload_n 0, 1) := by decide +kernel
theorem dX11_kept_25 : decode cX11_kept 25 = .ok (.iconst 0, 1) := by decide +kernel
theorem dX11_kept_26 : decode cX11_kept 26 = .ok (.invokevirtual 326, 3) := by decide +kernel
theorem dX11_kept_29 : decode cX11_kept 29 = .ok (.istore_n 3, 1) := by decide +kernel
theorem dX11_kept_30 : decode cX11_kept 30 = .ok (.aload_n 0, 1) := by decide +kernel
theorem dX11_kept_31 : decode cX11_kept 31 = .ok (.iload_n 3, 1) := by decide +kernel
theorem dX11_kept_32 : decode cX11_kept 32 = .ok (.aload_n 0, 1) := by decide +kernel
theorem dX11_kept_33 : decode cX11_kept 33 = .ok (.iload_n 1, 1) := by decide +kernel
theorem dX11_kept_34 : decode cX11_kept 34 = .ok (.invokevirtual 307, 3) := by decide +kernel
theorem dX11_kept_37 : decode cX11_kept 37 = .ok (.invokevirtual 339, 3) := by decide +kernel
theorem dX11_kept_40 : decode cX11_kept 40 = .ok (.iconst 1, 1) := by decide +kernel
theorem dX11_kept_41 : decode cX11_kept 41 = .ok (.istore 4, 2) := by decide +kernel
theorem dX11_kept_43 : decode cX11_kept 43 = .ok (.iload 4, 2) := by decide +kernel
theorem dX11_kept_45 : decode cX11_kept 45 = .ok (.iconst 4, 1) := by decide +kernel
theorem dX11_kept_46 : decode cX11_kept 46 = .ok (.if_icmp .gt 22, 3) := by decide +kernel
theorem dX11_kept_49 : decode cX11_kept 49 = .ok (.aload_n 0, 1) := by decide +kernel
theorem dX11_kept_50 : decode cX11_kept 50 = .ok (.getfield 44, 3) := by decide +kernel
theorem dX11_kept_53 : decode cX11_kept 53 = .ok (.iload 4, 2) := by decide +kernel
theorem dX11_kept_55 : decode cX11_kept 55 = .ok (.aload_n 0, 1) := by decide +kernel
theorem dX11_kept_56 : decode cX11_kept 56 = .ok (.getfield 20, 3) := by decide +kernel
theorem dX11_kept_59 : decode cX11_kept 59 = .ok (.iconst 1, 1) := by decide +kernel
theorem dX11_kept_60 : decode cX11_kept 60 = .ok (.iaload, 1) := by decide +kernel
theorem dX11_kept_61 : decode cX11_kept 61 = .ok (.iastore, 1) := by decide +kernel
theorem dX11_kept_62 : decode cX11_kept 62 = .ok (.iinc 4 1, 3) := by decide +kernel
theorem dX11_kept_65 : decode cX11_kept 65 = .ok (.goto (-22), 3) := by decide +kernel
theorem dX11_kept_68 : decode cX11_kept 68 = .ok (.aload_n 0, 1) := by decide +kernel
theorem dX11_kept_69 : decode cX11_kept 69 = .ok (.iconst 0, 1) := by decide +kernel
theorem dX11_kept_70 : decode cX11_kept 70 = .ok (.putfield 351, 3) := by decide +kernel
theorem dX11_kept_73 : decode cX11_kept 73 = .ok (.aload_n 0, 1) := by decide +kernel
theorem dX11_kept_74 : decode cX11_kept 74 = .ok (.iconst 0, 1) := by decide +kernel
theorem dX11_kept_75 : decode cX11_kept 75 = .ok (.iload_n 3, 1) := by decide +kernel
theorem dX11_kept_76 : decode cX11_kept 76 = .ok (.iconst 0, 1) := by decide +kernel
theorem dX11_kept_77 : decode cX11_kept 77 = .ok (.invokevirtual 357, 3) := by decide +kernel
theorem dX11_kept_80 : decode cX11_kept 80 = .ok (.aload_n 0, 1) := by decide +kernel
theorem dX11_kept_81 : decode cX11_kept 81 = .ok (.getfield 351, 3) := by decide +kernel
theorem dX11_kept_84 : decode cX11_kept 84 = .ok (.ireturn, 1) := by decide +kernel
theorem dX11_wrongGot_0 : decode cX11_wrongGot 0 = .ok (.iconst 0, 1) := by decide +kernel
theorem dX11_wrongGot_1 : decode cX11_wrongGot 1 = .ok (.istore_n 2, 1) := by decide +kernel
theorem dX11_wrongGot_2 : decode cX11_wrongGot 2 = .ok (.iload_n 2, 1) := by decide +kernel
theorem dX11_wrongGot_3 : decode cX11_wrongGot 3 = .ok (.aload_n 0, 1) := by decide +kernel
theorem dX11_wrongGot_4 : decode cX11_wrongGot 4 = .ok (.getfield 20, 3) := by decide +kernel
theorem dX11_wrongGot_7 : decode cX11_wrongGot 7 = .ok (.bipush 7, 2) := by decide +kernel
theorem dX11_wrongGot_9 : decode cX11_wrongGot 9 = .ok (.iaload, 1) := by decide +kernel
theorem dX11_wrongGot_10 : decode cX11_wrongGot 10 = .ok (.if_icmp .ge 59, 3) := by decide +kernel
theorem dX11_wrongGot_13 : decode cX11_wrongGot 13 = .ok (.aload_n 0, 1) := by decide +kernel
theorem dX11_wrongGot_14 : decode cX11_wrongGot 14 = .ok (.aload_n 0, 1) := by decide +kernel
theorem dX11_wrongGot_15 : decode cX11_wrongGot 15 = .ok (.getfield 20, 3) := by decide +kernel
theorem dX11_wrongGot_18 : decode cX11_wrongGot 18 = .ok (.sipush 153, 3) := by decide +kernel
theorem dX11_wrongGot_21 : decode cX11_wrongGot 21 = .ok (.iconst 3, 1) := by decide +kernel
theorem dX11_wrongGot_22 : decode cX11_wrongGot 22 = .ok (.iload_n 2, 1) := by decide +kernel
theorem dX11_wrongGot_23 : decode cX11_wrongGot 23 = .ok (.imul, 1) := by decide +kernel
theorem dX11_wrongGot_24 : decode cX11_wrongGot 24 = .ok (.iadd, 1) := by decide +kernel
theorem dX11_wrongGot_25 : decode cX11_wrongGot 25 = .ok (.iaload, 1) := by decide +kernel
theorem dX11_wrongGot_26 : decode cX11_wrongGot 26 = .ok (.aload_n 0, 1) := by decide +kernel
theorem dX11_wrongGot_27 : decode cX11_wrongGot 27 = .ok (.getfield 20, 3) := by decide +kernel
theorem dX11_wrongGot_30 : decode cX11_wrongGot 30 = .ok (.sipush 153, 3) := by decide +kernel
theorem dX11_wrongGot_33 : decode cX11_wrongGot 33 = .ok (.iconst 3, 1) := by decide +kernel
theorem dX11_wrongGot_34 : decode cX11_wrongGot 34 = .ok (.iload_n 2, 1) := by decide +kernel
theorem dX11_wrongGot_35 : decode cX11_wrongGot 35 = .ok (.imul, 1) := by decide +kernel
theorem dX11_wrongGot_36 : decode cX11_wrongGot 36 = .ok (.iadd, 1) := by decide +kernel
theorem dX11_wrongGot_37 : decode cX11_wrongGot 37 = .ok (.iconst 1, 1) := by decide +kernel
theorem dX11_wrongGot_38 : decode cX11_wrongGot 38 = .ok (.iadd, 1) := by decide +kernel
theorem dX11_wrongGot_39 : decode cX11_wrongGot 39 = .ok (.iaload, 1) := by decide +kernel
theorem dX11_wrongGot_40 : decode cX11_wrongGot 40 = .ok (.iload_n 1, 1) := by decide +kernel
theorem dX11_wrongGot_41 : decode cX11_wrongGot 41 = .ok (.invokevirtual 313, 3) := by decide +kernel
theorem dX11_wrongGot_44 : decode cX11_wrongGot 44 = .ok (.aload_n 0, 1) := by decide +kernel
theorem dX11_wrongGot_45 : decode cX11_wrongGot 45 = .ok (.getfield 20, 3) := by decide +kernel
theorem dX11_wrongGot_48 : decode cX11_wrongGot 48 = .ok (.sipush 153, 3) := by decide +kernel
theorem dX11_wrongGot_51 : decode cX11_wrongGot 51 = .ok (.iconst 3, 1) := by decide +kernel
theorem dX11_wrongGot_52 : decode cX11_wrongGot 52 = .ok (.iload_n 2, 1) := by decide +kernel
theorem dX11_wrongGot_53 : decode cX11_wrongGot 53 = .ok (.imul, 1) := by decide +kernel
theorem dX11_wrongGot_54 : decode cX11_wrongGot 54 = .ok (.iadd, 1) := by decide +kernel
theorem dX11_wrongGot_55 : decode cX11_wrongGot 55 = .ok (.iconst 2, 1) := by decide +kernel
theorem dX11_wrongGot_56 : decode cX11_wrongGot 56 = .ok (.iadd, 1) := by decide +kernel
theorem dX11_wrongGot_57 : decode cX11_wrongGot 57 = .ok (.iaload, 1) := by decide +kernel
theorem dX11_wrongGot_58 : decode cX11_wrongGot 58 = .ok (.if_icmp .eq 5, 3) := by decide +kernel
theorem dX11_wrongGot_61 : decode cX11_wrongGot 61 = .ok (.iload_n 2, 1) := by decide +kernel
theorem dX11_wrongGot_62 : decode cX11_wrongGot 62 = .ok (.ireturn, 1) := by decide +kernel
theorem dX11_wrongGot_63 : decode cX11_wrongGot 63 = .ok (.iinc 2 1, 3) := by decide +kernel
theorem dX11_wrongGot_66 : decode cX11_wrongGot 66 = .ok (.goto (-64), 3) := by decide +kernel
theorem dX11_wrongGot_69 : decode cX11_wrongGot 69 = .ok (.bipush (-2), 2) := by decide +kernel
theorem dX11_wrongGot_71 : decode cX11_wrongGot 71 = .ok (.ireturn, 1) := by decide +kernel
theorem dX11_judge_0 : decode cX11_judge 0 = .ok (.aload_n 0, 1) := by decide +kernel
theorem dX11_judge_1 : decode cX11_judge 1 = .ok (.invokevirtual 168, 3) := by decide +kernel
theorem dX11_judge_4 : decode cX11_judge 4 = .ok (.aload_n 0, 1) := by decide +kernel
theorem dX11_judge_5 : decode cX11_judge 5 = .ok (.getfield 181, 3) := by decide +kernel
theorem dX11_judge_8 : decode cX11_judge 8 = .ok (.ifCond .eq 16, 3) := by decide +kernel
theorem dX11_judge_11 : decode cX11_judge 11 = .ok (.aload_n 0, 1) := by decide +kernel
theorem dX11_judge_12 : decode cX11_judge 12 = .ok (.aload_n 0, 1) := by decide +kernel
theorem dX11_judge_13 : decode cX11_judge 13 = .ok (.getfield 20, 3) := by decide +kernel
theorem dX11_judge_16 : decode cX11_judge 16 = .ok (.iconst 0, 1) := by decide +kernel
theorem dX11_judge_17 : decode cX11_judge 17 = .ok (.iaload, 1) := by decide +kernel
theorem dX11_judge_18 : decode cX11_judge 18 = .ok (.invokevirtual 360, 3) := by decide +kernel
theorem dX11_judge_21 : decode cX11_judge 21 = .ok (.goto 8, 3) := by decide +kernel
theorem dX11_judge_24 : decode cX11_judge 24 = .ok (.aload_n 0, 1) := by decide +kernel
theorem dX11_judge_25 : decode cX11_judge 25 = .ok (.iconst 1, 1) := by decide +kernel
theorem dX11_judge_26 : decode cX11_judge 26 = .ok (.invokevirtual 171, 3) := by decide +kernel
theorem dX11_judge_29 : decode cX11_judge 29 = .ok (.ireturn, 1) := by decide +kernel
theorem dX11_costOf_0 : decode cX11_costOf 0 = .ok (.aload_n 0, 1) := by decide +kernel
theorem dX11_costOf_1 : decode cX11_costOf 1 = .ok (.iload_n 1, 1) := by decide +kernel
theorem dX11_costOf_2 : decode cX11_costOf 2 = .ok (.iload_n 2, 1) := by decide +kernel
theorem dX11_costOf_3 : decode cX11_costOf 3 = .ok (.iload_n 3, 1) := by decide +kernel
theorem dX11_costOf_4 : decode cX11_costOf 4 = .ok (.invokevirtual 313, 3) := by decide +kernel
theorem dX11_costOf_7 : decode cX11_costOf 7 = .ok (.iconst 2, 1) := by decide +kernel
theorem dX11_costOf_8 : decode cX11_costOf 8 = .ok (.if_icmp .ne 7, 3) := by decide +kernel
theorem dX11_costOf_11 : decode cX11_costOf 11 = .ok (.iconst 0, 1) := by decide +kernel
theorem dX11_costOf_12 : decode cX11_costOf 12 = .ok (.goto 6, 3) := by decide +kernel
theorem dX11_costOf_15 : decode cX11_costOf 15 = .ok (.ldc_w 363, 3) := by decide +kernel
theorem dX11_costOf_18 : decode cX11_costOf 18 = .ok (.istore 4, 2) := by decide +kernel
theorem dX11_costOf_20 : decode cX11_costOf 20 = .ok (.iconst 0, 1) := by decide +kernel
theorem dX11_costOf_21 : decode cX11_costOf 21 = .ok (.istore 5, 2) := by decide +kernel
theorem dX11_costOf_23 : decode cX11_costOf 23 = .ok (.iload 5, 2) := by decide +kernel
theorem dX11_costOf_25 : decode cX11_costOf 25 = .ok (.aload_n 0, 1) := by decide +kernel
theorem dX11_costOf_26 : decode cX11_costOf 26 = .ok (.getfield 20, 3) := by decide +kernel
theorem dX11_costOf_29 : decode cX11_costOf 29 = .ok (.iconst 2, 1) := by decide +kernel
theorem dX11_costOf_30 : decode cX11_costOf 30 = .ok (.iaload, 1) := by decide +kernel
theorem dX11_costOf_31 : decode cX11_costOf 31 = .ok (.if_icmp .gt 200, 3) := by decide +kernel
theorem dX11_costOf_34 : decode cX11_costOf 34 = .ok (.iconst 0, 1) := by decide +kernel
theorem dX11_costOf_35 : decode cX11_costOf 35 = .ok (.istore 6, 2) := by decide +kernel
theorem dX11_costOf_37 : decode cX11_costOf 37 = .ok (.iload 6, 2) := by decide +kernel
theorem dX11_costOf_39 : decode cX11_costOf 39 = .ok (.aload_n 0, 1) := by decide +kernel
theorem dX11_costOf_40 : decode cX11_costOf 40 = .ok (.getfield 20, 3) := by decide +kernel
theorem dX11_costOf_43 : decode cX11_costOf 43 = .ok (.iconst 2, 1) := by decide +kernel
theorem dX11_costOf_44 : decode cX11_costOf 44 = .ok (.iaload, 1) := by decide +kernel
theorem dX11_costOf_45 : decode cX11_costOf 45 = .ok (.if_icmp .gt 180, 3) := by decide +kernel
theorem dX11_costOf_48 : decode cX11_costOf 48 = .ok (.iload 4, 2) := by decide +kernel
theorem dX11_costOf_50 : decode cX11_costOf 50 = .ok (.ifCond .le 175, 3) := by decide +kernel
theorem dX11_costOf_53 : decode cX11_costOf 53 = .ok (.iload 5, 2) := by decide +kernel
theorem dX11_costOf_55 : decode cX11_costOf 55 = .ok (.aload_n 0, 1) := by decide +kernel
theorem dX11_costOf_56 : decode cX11_costOf 56 = .ok (.getfield 20, 3) := by decide +kernel
theorem dX11_costOf_59 : decode cX11_costOf 59 = .ok (.iconst 2, 1) := by decide +kernel
theorem dX11_costOf_60 : decode cX11_costOf 60 = .ok (.iaload, 1) := by decide +kernel
theorem dX11_costOf_61 : decode cX11_costOf 61 = .ok (.if_icmp .eq 20, 3) := by decide +kernel
theorem dX11_costOf_64 : decode cX11_costOf 64 = .ok (.aload_n 0, 1) := by decide +kernel
theorem dX11_costOf_65 : decode cX11_costOf 65 = .ok (.getfield 26, 3) := by decide +kernel
theorem dX11_costOf_68 : decode cX11_costOf 68 = .ok (.bipush 8, 2) := by decide +kernel
theorem dX11_costOf_70 : decode cX11_costOf 70 = .ok (.iload_n 1, 1) := by decide +kernel
theorem dX11_costOf_71 : decode cX11_costOf 71 = .ok (.iadd, 1) := by decide +kernel
theorem dX11_costOf_72 : decode cX11_costOf 72 = .ok (.iaload, 1) := by decide +kernel
theorem dX11_costOf_73 : decode cX11_costOf 73 = .ok (.iload 5, 2) := by decide +kernel
theorem dX11_costOf_75 : decode cX11_costOf 75 = .ok (.invokestatic 266, 3) := by decide +kernel
theorem dX11_costOf_78 : decode cX11_costOf 78 = .ok (.ifCond .eq 7, 3) := by decide +kernel
theorem dX11_costOf_81 : decode cX11_costOf 81 = .ok (.iconst 0, 1) := by decide +kernel
theorem dX11_costOf_82 : decode cX11_costOf 82 = .ok (.goto 7, 3) := by decide +kernel
theorem dX11_costOf_85 : decode cX11_costOf 85 = .ok (.iconst 1, 1) := by decide +kernel
theorem dX11_costOf_86 : decode cX11_costOf 86 = .ok (.iload 5, 2) := by decide +kernel
theorem dX11_costOf_88 : decode cX11_costOf 88 = .ok (.ishl, 1) := by decide +kernel
theorem dX11_costOf_89 : decode cX11_costOf 89 = .ok (.istore 7, 2) := by decide +kernel
theorem dX11_costOf_91 : decode cX11_costOf 91 = .ok (.iload 6, 2) := by decide +kernel
theorem dX11_costOf_93 : decode cX11_costOf 93 = .ok (.aload_n 0, 1) := by decide +kernel
theorem dX11_costOf_94 : decode cX11_costOf 94 = .ok (.getfield 20, 3) := by decide +kernel
theorem dX11_costOf_97 : decode cX11_costOf 97 = .ok (.iconst 2, 1) := by decide +kernel
theorem dX11_costOf_98 : decode cX11_costOf 98 = .ok (.iaload, 1) := by decide +kernel
theorem dX11_costOf_99 : decode cX11_costOf 99 = .ok (.if_icmp .eq 20, 3) := by decide +kernel
theorem dX11_costOf_102 : decode cX11_costOf 102 = .ok (.aload_n 0, 1) := by decide +kernel
theorem dX11_costOf_103 : decode cX11_costOf 103 = .ok (.getfield 26, 3) := by decide +kernel
theorem dX11_costOf_106 : decode cX11_costOf 106 = .ok (.bipush 8, 2) := by decide +kernel
theorem dX11_costOf_108 : decode cX11_costOf 108 = .ok (.iload_n 2, 1) := by decide +kernel
theorem dX11_costOf_109 : decode cX11_costOf 109 = .ok (.iadd, 1) := by decide +kernel
theorem dX11_costOf_110 : decode cX11_costOf 110 = .ok (.iaload, 1) := by decide +kernel
theorem dX11_costOf_111 : decode cX11_costOf 111 = .ok (.iload 6, 2) := by decide +kernel
theorem dX11_costOf_113 : decode cX11_costOf 113 = .ok (.invokestatic 266, 3) := by decide +kernel
theorem dX11_costOf_116 : decode cX11_costOf 116 = .ok (.ifCond .eq 7, 3) := by decide +kernel
theorem dX11_costOf_119 : decode cX11_costOf 119 = .ok (.iconst 0, 1) := by decide +kernel
theorem dX11_costOf_120 : decode cX11_costOf 120 = .ok (.goto 7, 3) := by decide +kernel
theorem dX11_costOf_123 : decode cX11_costOf 123 = .ok (.iconst 1, 1) := by decide +kernel
theorem dX11_costOf_124 : decode cX11_costOf 124 = .ok (.iload 6, 2) := by decide +kernel
theorem dX11_costOf_126 : decode cX11_costOf 126 = .ok (.ishl, 1) := by decide +kernel
theorem dX11_costOf_127 : decode cX11_costOf 127 = .ok (.istore 8, 2) := by decide +kernel
theorem dX11_costOf_129 : decode cX11_costOf 129 = .ok (.iload 7, 2) := by decide +kernel
theorem dX11_costOf_131 : decode cX11_costOf 131 = .ok (.ifCond .ne 7, 3) := by decide +kernel
theorem dX11_costOf_134 : decode cX11_costOf 134 = .ok (.iconst 0, 1) := by decide +kernel
theorem dX11_costOf_135 : decode cX11_costOf 135 = .ok (.goto 9, 3) := by decide +kernel
theorem dX11_costOf_138 : decode cX11_costOf 138 = .ok (.aload_n 0, 1) := by decide +kernel
theorem dX11_costOf_139 : decode cX11_costOf 139 = .ok (.iload 5, 2) := by decide +kernel
theorem dX11_costOf_141 : decode cX11_costOf 141 = .ok (.invokevirtual 329, 3) := by decide +kernel
theorem dX11_costOf_144 : decode cX11_costOf 144 = .ok (.iload 8, 2) := by decide +kernel
theorem dX11_costOf_146 : decode cX11_costOf 146 = .ok (.ifCond .ne 7, 3) := by decide +kernel
theorem dX11_costOf_149 : decode cX11_costOf 149 = .ok (.iconst 0, 1) := by decide +kernel
theorem dX11_costOf_150 : decode cX11_costOf 150 = .ok (.goto 9, 3) := by decide +kernel
theorem dX11_costOf_153 : decode cX11_costOf 153 = .ok (.aload_n 0, 1) := by decide +kernel
theorem dX11_costOf_154 : decode cX11_costOf 154 = .ok (.iload 6, 2) := by decide +kernel
theorem dX11_costOf_156 : decode cX11_costOf 156 = .ok (.invokevirtual 329, 3) := by decide +kernel
theorem dX11_costOf_159 : decode cX11_costOf 159 = .ok (.iadd, 1) := by decide +kernel
theorem dX11_costOf_160 : decode cX11_costOf 160 = .ok (.istore 9, 2) := by decide +kernel
theorem dX11_costOf_162 : decode cX11_costOf 162 = .ok (.iload 9, 2) := by decide +kernel
theorem dX11_costOf_164 : decode cX11_costOf 164 = .ok (.iload 4, 2) := by decide +kernel
theorem dX11_costOf_166 : decode cX11_costOf 166 = .ok (.if_icmp .ge 53, 3) := by decide +kernel
theorem dX11_costOf_169 : decode cX11_costOf 169 = .ok (.aload_n 0, 1) := by decide +kernel
theorem dX11_costOf_170 : decode cX11_costOf 170 = .ok (.aload_n 0, 1) := by decide +kernel
theorem dX11_costOf_171 : decode cX11_costOf 171 = .ok (.iload_n 1, 1) := by decide +kernel
theorem dX11_costOf_172 : decode cX11_costOf 172 = .ok (.invokevirtual 287, 3) := by decide +kernel
theorem dX11_costOf_175 : decode cX11_costOf 175 = .ok (.aload_n 0, 1) := by decide +kernel
theorem dX11_costOf_176 : decode cX11_costOf 176 = .ok (.getfield 26, 3) := by decide +kernel
theorem dX11_costOf_179 : decode cX11_costOf 179 = .ok (.bipush 8, 2) := by decide +kernel
theorem dX11_costOf_181 : decode cX11_costOf 181 = .ok (.iload_n 1, 1) := by decide +kernel
theorem dX11_costOf_182 : decode cX11_costOf 182 = .ok (.iadd, 1) := by decide +kernel
theorem dX11_costOf_183 : decode cX11_costOf 183 = .ok (.iaload, 1) := by decide +kernel
theorem dX11_costOf_184 : decode cX11_costOf 184 = .ok (.iload 7, 2) := by decide +kernel
theorem dX11_costOf_186 : decode cX11_costOf 186 = .ok (.ior, 1) := by decide +kernel
theorem dX11_costOf_187 : decode cX11_costOf 187 = .ok (.aload_n 0, 1) := by decide +kernel
theorem dX11_costOf_188 : decode cX11_costOf 188 = .ok (.iload_n 2, 1) := by decide +kernel
theorem dX11_costOf_189 : decode cX11_costOf 189 = .ok (.invokevirtual 287, 3) := by decide +kernel
theorem dX11_costOf_192 : decode cX11_costOf 192 = .ok (.aload_n 0, 1) := by decide +kernel
theorem dX11_costOf_193 : decode cX11_costOf 193 = .ok (.getfield 26, 3) := by decide +kernel
theorem dX11_costOf_196 : decode cX11_costOf 196 = .ok (.bipush 8, 2) := by decide +kernel
theorem dX11_costOf_198 : decode cX11_costOf 198 = .ok (.iload_n 2, 1) := by decide +kernel
theorem dX11_costOf_199 : decode cX11_costOf 199 = .ok (.iadd, 1) := by decide +kernel
theorem dX11_costOf_200 : decode cX11_costOf 200 = .ok (.iaload, 1) := by decide +kernel
theorem dX11_costOf_201 : decode cX11_costOf 201 = .ok (.iload 8, 2) := by decide +kernel
theorem dX11_costOf_203 : decode cX11_costOf 203 = .ok (.ior, 1) := by decide +kernel
theorem dX11_costOf_204 : decode cX11_costOf 204 = .ok (.iload_n 3, 1) := by decide +kernel
theorem dX11_costOf_205 : decode cX11_costOf 205 = .ok (.invokevirtual 290, 3) := by decide +kernel
theorem dX11_costOf_208 : decode cX11_costOf 208 = .ok (.iconst 2, 1) := by decide +kernel
theorem dX11_costOf_209 : decode cX11_costOf 209 = .ok (.if_icmp .eq 6, 3) := by decide +kernel
theorem dX11_costOf_212 : decode cX11_costOf 212 = .ok (.goto 7, 3) := by decide +kernel
theorem dX11_costOf_215 : decode cX11_costOf 215 = .ok (.iload 9, 2) := by decide +kernel
theorem dX11_costOf_217 : decode cX11_costOf 217 = .ok (.istore 4, 2) := by decide +kernel
theorem dX11_costOf_219 : decode cX11_costOf 219 = .ok (.iinc 6 1, 3) := by decide +kernel
theorem dX11_costOf_222 : decode cX11_costOf 222 = .ok (.goto (-185), 3) := by decide +kernel
theorem dX11_costOf_225 : decode cX11_costOf 225 = .ok (.iinc 5 1, 3) := by decide +kernel
theorem dX11_costOf_228 : decode cX11_costOf 228 = .ok (.goto (-205), 3) := by decide +kernel
theorem dX11_costOf_231 : decode cX11_costOf 231 = .ok (.iload 4, 2) := by decide +kernel
theorem dX11_costOf_233 : decode cX11_costOf 233 = .ok (.ireturn, 1) := by decide +kernel
theorem dX11_tryCoins_0 : decode cX11_tryCoins 0 = .ok (.iload_n 2, 1) := by decide +kernel
theorem dX11_tryCoins_1 : decode cX11_tryCoins 1 = .ok (.aload_n 0, 1) := by decide +kernel
theorem dX11_tryCoins_2 : decode cX11_tryCoins 2 = .ok (.getfield 364, 3) := by decide +kernel
theorem dX11_tryCoins_5 : decode cX11_tryCoins 5 = .ok (.if_icmp .lt 4, 3) := by decide +kernel
theorem dX11_tryCoins_8 : decode cX11_tryCoins 8 = .ok (.return_, 1) := by decide +kernel
theorem dX11_tryCoins_9 : decode cX11_tryCoins 9 = .ok (.iload_n 1, 1) := by decide +kernel
theorem dX11_tryCoins_10 : decode cX11_tryCoins 10 = .ok (.ifCond .ne 9, 3) := by decide +kernel
theorem dX11_tryCoins_13 : decode cX11_tryCoins 13 = .ok (.aload_n 0, 1) := by decide +kernel
theorem dX11_tryCoins_14 : decode cX11_tryCoins 14 = .ok (.iload_n 2, 1) := by decide +kernel
theorem dX11_tryCoins_15 : decode cX11_tryCoins 15 = .ok (.putfield 364, 3) := by decide +kernel
theorem dX11_tryCoins_18 : decode cX11_tryCoins 18 = .ok (.return_, 1) := by decide +kernel
theorem dX11_tryCoins_19 : decode cX11_tryCoins 19 = .ok (.iconst 0, 1) := by decide +kernel
theorem dX11_tryCoins_20 : decode cX11_tryCoins 20 = .ok (.istore_n 3, 1) := by decide +kernel
theorem dX11_tryCoins_21 : decode cX11_tryCoins 21 = .ok (.iload_n 1, 1) := by decide +kernel
theorem dX11_tryCoins_22 : decode cX11_tryCoins 22 = .ok (.iload_n 3, 1) := by decide +kernel
theorem dX11_tryCoins_23 : decode cX11_tryCoins 23 = .ok (.invokestatic 266, 3) := by decide +kernel
theorem dX11_tryCoins_26 : decode cX11_tryCoins 26 = .ok (.ifCond .ne 9, 3) := by decide +kernel
theorem dX11_tryCoins_29 : decode cX11_tryCoins 29 = .ok (.iinc 3 1, 3) := by decide +kernel
theorem dX11_tryCoins_32 : decode cX11_tryCoins 32 = .ok (.goto (-11), 3) := by decide +kernel
theorem dX11_tryCoins_35 : decode cX11_tryCoins 35 = .ok (.iload_n 3, 1) := by decide +kernel
theorem dX11_tryCoins_36 : decode cX11_tryCoins 36 = .ok (.iconst 1, 1) := by decide +kernel
theorem dX11_tryCoins_37 : decode cX11_tryCoins 37 = .ok (.iadd, 1) := by decide +kernel
theorem dX11_tryCoins_38 : decode cX11_tryCoins 38 = .ok (.istore 4, 2) := by decide +kernel
theorem dX11_tryCoins_40 : decode cX11_tryCoins 40 = .ok (.iload 4, 2) := by decide +kernel
theorem dX11_tryCoins_42 : decode cX11_tryCoins 42 = .ok (.aload_n 0, 1) := by decide +kernel
theorem dX11_tryCoins_43 : decode cX11_tryCoins 43 = .ok (.getfield 20, 3) := by decide +kernel
theorem dX11_tryCoins_46 : decode cX11_tryCoins 46 = .ok (.iconst 3, 1) := by decide +kernel
theorem dX11_tryCoins_47 : decode cX11_tryCoins 47 = .ok (.iaload, 1) := by decide +kernel
theorem dX11_tryCoins_48 : decode cX11_tryCoins 48 = .ok (.if_icmp .ge 48, 3) := by decide +kernel
theorem dX11_tryCoins_51 : decode cX11_tryCoins 51 = .ok (.iload_n 1, 1) := by decide +kernel
theorem dX11_tryCoins_52 : decode cX11_tryCoins 52 = .ok (.iload 4, 2) := by decide +kernel
theorem dX11_tryCoins_54 : decode cX11_tryCoins 54 = .ok (.invokestatic 266, 3) := by decide +kernel
theorem dX11_tryCoins_57 : decode cX11_tryCoins 57 = .ok (.ifCond .eq 33, 3) := by decide +kernel
theorem dX11_tryCoins_60 : decode cX11_tryCoins 60 = .ok (.aload_n 0, 1) := by decide +kernel
theorem dX11_tryCoins_61 : decode cX11_tryCoins 61 = .ok (.iload_n 1, 1) := by decide +kernel
theorem dX11_tryCoins_62 : decode cX11_tryCoins 62 = .ok (.iconst 1, 1) := by decide +kernel
theorem dX11_tryCoins_63 : decode cX11_tryCoins 63 = .ok (.iload_n 3, 1) := by decide +kernel
theorem dX11_tryCoins_64 : decode cX11_tryCoins 64 = .ok (.ishl, 1) := by decide +kernel
theorem dX11_tryCoins_65 : decode cX11_tryCoins 65 = .ok (.iconst 1, 1) := by decide +kernel
theorem dX11_tryCoins_66 : decode cX11_tryCoins 66 = .ok (.iload 4, 2) := by decide +kernel
theorem dX11_tryCoins_68 : decode cX11_tryCoins 68 = .ok (.ishl, 1) := by decide +kernel
theorem dX11_tryCoins_69 : decode cX11_tryCoins 69 = .ok (.ior, 1) := by decide +kernel
theorem dX11_tryCoins_70 : decode cX11_tryCoins 70 = .ok (.iconst (-1), 1) := by decide +kernel
theorem dX11_tryCoins_71 : decode cX11_tryCoins 71 = .ok (.ixor, 1) := by decide +kernel
theorem dX11_tryCoins_72 : decode cX11_tryCoins 72 = .ok (.iand, 1) := by decide +kernel
theorem dX11_tryCoins_73 : decode cX11_tryCoins 73 = .ok (.iload_n 2, 1) := by decide +kernel
theorem dX11_tryCoins_74 : decode cX11_tryCoins 74 = .ok (.aload_n 0, 1) := by decide +kernel
theorem dX11_tryCoins_75 : decode cX11_tryCoins 75 = .ok (.getfield 47, 3) := by decide +kernel
theorem dX11_tryCoins_78 : decode cX11_tryCoins 78 = .ok (.bipush 8, 2) := by decide +kernel
theorem dX11_tryCoins_80 : decode cX11_tryCoins 80 = .ok (.iload_n 3, 1) := by decide +kernel
theorem dX11_tryCoins_81 : decode cX11_tryCoins 81 = .ok (.imul, 1) := by decide +kernel
theorem dX11_tryCoins_82 : decode cX11_tryCoins 82 = .ok (.iload 4, 2) := by decide +kernel
theorem dX11_tryCoins_84 : decode cX11_tryCoins 84 = .ok (.iadd, 1) := by decide +kernel
theorem dX11_tryCoins_85 : decode cX11_tryCoins 85 = .ok (.iaload, 1) := by decide +kernel
theorem dX11_tryCoins_86 : decode cX11_tryCoins 86 = .ok (.iadd, 1) := by decide +kernel
theorem dX11_tryCoins_87 : decode cX11_tryCoins 87 = .ok (.invokevirtual 367, 3) := by decide +kernel
theorem dX11_tryCoins_90 : decode cX11_tryCoins 90 = .ok (.iinc 4 1, 3) := by decide +kernel
theorem dX11_tryCoins_93 : decode cX11_tryCoins 93 = .ok (.goto (-53), 3) := by decide +kernel
theorem dX11_tryCoins_96 : decode cX11_tryCoins 96 = .ok (.return_, 1) := by decide +kernel
theorem dX11_coins_0 : decode cX11_coins 0 = .ok (.aload_n 0, 1) := by decide +kernel
theorem dX11_coins_1 : decode cX11_coins 1 = .ok (.invokevirtual 168, 3) := by decide +kernel
theorem dX11_coins_4 : decode cX11_coins 4 = .ok (.aload_n 0, 1) := by decide +kernel
theorem dX11_coins_5 : decode cX11_coins 5 = .ok (.iload_n 1, 1) := by decide +kernel
theorem dX11_coins_6 : decode cX11_coins 6 = .ok (.iload_n 2, 1) := by decide +kernel
theorem dX11_coins_7 : decode cX11_coins 7 = .ok (.invokevirtual 342, 3) := by decide +kernel
theorem dX11_coins_10 : decode cX11_coins 10 = .ok (.istore_n 3, 1) := by decide +kernel
theorem dX11_coins_11 : decode cX11_coins 11 = .ok (.iload_n 3, 1) := by decide +kernel
theorem dX11_coins_12 : decode cX11_coins 12 = .ok (.ifCond .eq 9, 3) := by decide +kernel
theorem dX11_coins_15 : decode cX11_coins 15 = .ok (.aload_n 0, 1) := by decide +kernel
theorem dX11_coins_16 : decode cX11_coins 16 = .ok (.iload_n 3, 1) := by decide +kernel
theorem dX11_coins_17 : decode cX11_coins 17 = .ok (.invokevirtual 171, 3) := by decide +kernel
theorem dX11_coins_20 : decode cX11_coins 20 = .ok (.ireturn, 1) := by decide +kernel
theorem dX11_coins_21 : decode cX11_coins 21 = .ok (.aload_n 0, 1) := by decide +kernel
theorem dX11_coins_22 : decode cX11_coins 22 = .ok (.iload_n 1, 1) := by decide +kernel
theorem dX11_coins_23 : decode cX11_coins 23 = .ok (.invokevirtual 326, 3) := by decide +kernel
theorem dX11_coins_26 : decode cX11_coins 26 = .ok (.istore 4, 2) := by decide +kernel
theorem dX11_coins_28 : decode cX11_coins 28 = .ok (.iconst 0, 1) := by decide +kernel
theorem dX11_coins_29 : decode cX11_coins 29 = .ok (.istore 5, 2) := by decide +kernel
theorem dX11_coins_31 : decode cX11_coins 31 = .ok (.iload 5, 2) := by decide +kernel
theorem dX11_coins_33 : decode cX11_coins 33 = .ok (.aload_n 0, 1) := by decide +kernel
theorem dX11_coins_34 : decode cX11_coins 34 = .ok (.getfield 20, 3) := by decide +kernel
theorem dX11_coins_37 : decode cX11_coins 37 = .ok (.iconst 3, 1) := by decide +kernel
theorem dX11_coins_38 : decode cX11_coins 38 = .ok (.iaload, 1) := by decide +kernel
theorem dX11_coins_39 : decode cX11_coins 39 = .ok (.if_icmp .ge 84, 3) := by decide +kernel
theorem dX11_coins_42 : decode cX11_coins 42 = .ok (.iload 5, 2) := by decide +kernel
theorem dX11_coins_44 : decode cX11_coins 44 = .ok (.iconst 1, 1) := by decide +kernel
theorem dX11_coins_45 : decode cX11_coins 45 = .ok (.iadd, 1) := by decide +kernel
theorem dX11_coins_46 : decode cX11_coins 46 = .ok (.istore 6, 2) := by decide +kernel
theorem dX11_coins_48 : decode cX11_coins 48 = .ok (.iload 6, 2) := by decide +kernel
theorem dX11_coins_50 : decode cX11_coins 50 = .ok (.aload_n 0, 1) := by decide +kernel
theorem dX11_coins_51 : decode cX11_coins 51 = .ok (.getfield 20, 3) := by decide +kernel
theorem dX11_coins_54 : decode cX11_coins 54 = .ok (.iconst 3, 1) := by decide +kernel
theorem dX11_coins_55 : decode cX11_coins 55 = .ok (.iaload, 1) := by decide +kernel
theorem dX11_coins_56 : decode cX11_coins 56 = .ok (.if_icmp .ge 61, 3) := by decide +kernel
theorem dX11_coins_59 : decode cX11_coins 59 = .ok (.aload_n 0, 1) := by decide +kernel
theorem dX11_coins_60 : decode cX11_coins 60 = .ok (.getfield 47, 3) := by decide +kernel
theorem dX11_coins_63 : decode cX11_coins 63 = .ok (.bipush 8, 2) := by decide +kernel
theorem dX11_coins_65 : decode cX11_coins 65 = .ok (.iload 5, 2) := by decide +kernel
theorem dX11_coins_67 : decode cX11_coins 67 = .ok (.imul, 1) := by decide +kernel
theorem dX11_coins_68 : decode cX11_coins 68 = .ok (.iload 6, 2) := by decide +kernel
theorem dX11_coins_70 : decode cX11_coins 70 = .ok (.iadd, 1) := by decide +kernel
theorem dX11_coins_71 : decode cX11_coins 71 = .ok (.iload 4, 2) := by decide +kernel
theorem dX11_coins_73 : decode cX11_coins 73 = .ok (.iload 5, 2) := by decide +kernel
theorem dX11_coins_75 : decode cX11_coins 75 = .ok (.invokestatic 266, 3) := by decide +kernel
theorem dX11_coins_78 : decode cX11_coins 78 = .ok (.ifCond .eq 29, 3) := by decide +kernel
theorem dX11_coins_81 : decode cX11_coins 81 = .ok (.iload 4, 2) := by decide +kernel
theorem dX11_coins_83 : decode cX11_coins 83 = .ok (.iload 6, 2) := by decide +kernel
theorem dX11_coins_85 : decode cX11_coins 85 = .ok (.invokestatic 266, 3) := by decide +kernel
theorem dX11_coins_88 : decode cX11_coins 88 = .ok (.ifCond .eq 19, 3) := by decide +kernel
theorem dX11_coins_91 : decode cX11_coins 91 = .ok (.aload_n 0, 1) := by decide +kernel
theorem dX11_coins_92 : decode cX11_coins 92 = .ok (.iload 5, 2) := by decide +kernel
theorem dX11_coins_94 : decode cX11_coins 94 = .ok (.iload 6, 2) := by decide +kernel
theorem dX11_coins_96 : decode cX11_coins 96 = .ok (.aload_n 0, 1) := by decide +kernel
theorem dX11_coins_97 : decode cX11_coins 97 = .ok (.iload_n 2, 1) := by decide +kernel
theorem dX11_coins_98 : decode cX11_coins 98 = .ok (.invokevirtual 307, 3) := by decide +kernel
theorem dX11_coins_101 : decode cX11_coins 101 = .ok (.invokevirtual 370, 3) := by decide +kernel
theorem dX11_coins_104 : decode cX11_coins 104 = .ok (.goto 6, 3) := by decide +kernel
theorem dX11_coins_107 : decode cX11_coins 107 = .ok (.ldc_w 363, 3) := by decide +kernel
theorem dX11_coins_110 : decode cX11_coins 110 = .ok (.iastore, 1) := by decide +kernel
theorem dX11_coins_111 : decode cX11_coins 111 = .ok (.iinc 6 1, 3) := by decide +kernel
theorem dX11_coins_114 : decode cX11_coins 114 = .ok (.goto (-66), 3) := by decide +kernel
theorem dX11_coins_117 : decode cX11_coins 117 = .ok (.iinc 5 1, 3) := by decide +kernel
theorem dX11_coins_120 : decode cX11_coins 120 = .ok (.goto (-89), 3) := by decide +kernel
theorem dX11_coins_123 : decode cX11_coins 123 = .ok (.aload_n 0, 1) := by decide +kernel
theorem dX11_coins_124 : decode cX11_coins 124 = .ok (.ldc_w 363, 3) := by decide +kernel
theorem dX11_coins_127 : decode cX11_coins 127 = .ok (.putfield 364, 3) := by decide +kernel
theorem dX11_coins_130 : decode cX11_coins 130 = .ok (.aload_n 0, 1) := by decide +kernel
theorem dX11_coins_131 : decode cX11_coins 131 = .ok (.iload 4, 2) := by decide +kernel
theorem dX11_coins_133 : decode cX11_coins 133 = .ok (.iconst 0, 1) := by decide +kernel
theorem dX11_coins_134 : decode cX11_coins 134 = .ok (.invokevirtual 367, 3) := by decide +kernel
theorem dX11_coins_137 : decode cX11_coins 137 = .ok (.aload_n 0, 1) := by decide +kernel
theorem dX11_coins_138 : decode cX11_coins 138 = .ok (.getfield 364, 3) := by decide +kernel
theorem dX11_coins_141 : decode cX11_coins 141 = .ok (.ldc_w 363, 3) := by decide +kernel
theorem dX11_coins_144 : decode cX11_coins 144 = .ok (.if_icmp .ne 8, 3) := by decide +kernel
theorem dX11_coins_147 : decode cX11_coins 147 = .ok (.bipush (-2), 2) := by decide +kernel
theorem dX11_coins_149 : decode cX11_coins 149 = .ok (.goto 7, 3) := by decide +kernel
theorem dX11_coins_152 : decode cX11_coins 152 = .ok (.aload_n 0, 1) := by decide +kernel
theorem dX11_coins_153 : decode cX11_coins 153 = .ok (.getfield 364, 3) := by decide +kernel
theorem dX11_coins_156 : decode cX11_coins 156 = .ok (.ireturn, 1) := by decide +kernel
theorem dX11_areAllPaired_0 : decode cX11_areAllPaired 0 = .ok (.iconst 0, 1) := by decide +kernel
theorem dX11_areAllPaired_1 : decode cX11_areAllPaired 1 = .ok (.istore 4, 2) := by decide +kernel
theorem dX11_areAllPaired_3 : decode cX11_areAllPaired 3 = .ok (.iload 4, 2) := by decide +kernel
theorem dX11_areAllPaired_5 : decode cX11_areAllPaired 5 = .ok (.aload_n 0, 1) := by decide +kernel
theorem dX11_areAllPaired_6 : decode cX11_areAllPaired 6 = .ok (.getfield 20, 3) := by decide +kernel
theorem dX11_areAllPaired_9 : decode cX11_areAllPaired 9 = .ok (.iconst 3, 1) := by decide +kernel
theorem dX11_areAllPaired_10 : decode cX11_areAllPaired 10 = .ok (.iaload, 1) := by decide +kernel
theorem dX11_areAllPaired_11 : decode cX11_areAllPaired 11 = .ok (.if_icmp .ge 124, 3) := by decide +kernel
theorem dX11_areAllPaired_14 : decode cX11_areAllPaired 14 = .ok (.aload_n 0, 1) := by decide +kernel
theorem dX11_areAllPaired_15 : decode cX11_areAllPaired 15 = .ok (.getfield 35, 3) := by decide +kernel
theorem dX11_areAllPaired_18 : decode cX11_areAllPaired 18 = .ok (.iload 4, 2) := by decide +kernel
theorem dX11_areAllPaired_20 : decode cX11_areAllPaired 20 = .ok (.iconst 0, 1) := by decide +kernel
theorem dX11_areAllPaired_21 : decode cX11_areAllPaired 21 = .ok (.iastore, 1) := by decide +kernel
theorem dX11_areAllPaired_22 : decode cX11_areAllPaired 22 = .ok (.iload 4, 2) := by decide +kernel
theorem dX11_areAllPaired_24 : decode cX11_areAllPaired 24 = .ok (.iconst 1, 1) := by decide +kernel
theorem dX11_areAllPaired_25 : decode cX11_areAllPaired 25 = .ok (.iadd, 1) := by decide +kernel
theorem dX11_areAllPaired_26 : decode cX11_areAllPaired 26 = .ok (.istore 5, 2) := by decide +kernel
theorem dX11_areAllPaired_28 : decode cX11_areAllPaired 28 = .ok (.iload 5, 2) := by decide +kernel
theorem dX11_areAllPaired_30 : decode cX11_areAllPaired 30 = .ok (.aload_n 0, 1) := by decide +kernel
theorem dX11_areAllPaired_31 : decode cX11_areAllPaired 31 = .ok (.getfield 20, 3) := by decide +kernel
theorem dX11_areAllPaired_34 : decode cX11_areAllPaired 34 = .ok (.iconst 3, 1) := by decide +kernel
theorem dX11_areAllPaired_35 : decode cX11_areAllPaired 35 = .ok (.iaload, 1) := by decide +kernel
theorem dX11_areAllPaired_36 : decode cX11_areAllPaired 36 = .ok (.if_icmp .ge 93, 3) := by decide +kernel
theorem dX11_areAllPaired_39 : decode cX11_areAllPaired 39 = .ok (.iload_n 1, 1) := by decide +kernel
theorem dX11_areAllPaired_40 : decode cX11_areAllPaired 40 = .ok (.iload 4, 2) := by decide +kernel
theorem dX11_areAllPaired_42 : decode cX11_areAllPaired 42 = .ok (.invokestatic 266, 3) := by decide +kernel
theorem dX11_areAllPaired_45 : decode cX11_areAllPaired 45 = .ok (.ifCond .eq 78, 3) := by decide +kernel
theorem dX11_areAllPaired_48 : decode cX11_areAllPaired 48 = .ok (.iload_n 1, 1) := by decide +kernel
theorem dX11_areAllPaired_49 : decode cX11_areAllPaired 49 = .ok (.iload 5, 2) := by decide +kernel
theorem dX11_areAllPaired_51 : decode cX11_areAllPaired 51 = .ok (.invokestatic 266, 3) := by decide +kernel
theorem dX11_areAllPaired_54 : decode cX11_areAllPaired 54 = .ok (.ifCond .ne 6, 3) := by decide +kernel
theorem dX11_areAllPaired_57 : decode cX11_areAllPaired 57 = .ok (.goto 66, 3) := by decide +kernel
theorem dX11_areAllPaired_60 : decode cX11_areAllPaired 60 = .ok (.aload_n 0, 1) := by decide +kernel
theorem dX11_areAllPaired_61 : decode cX11_areAllPaired 61 = .ok (.getfield 35, 3) := by decide +kernel
theorem dX11_areAllPaired_64 : decode cX11_areAllPaired 64 = .ok (.iload 4, 2) := by decide +kernel
theorem dX11_areAllPaired_66 : decode cX11_areAllPaired 66 = .ok (.dup2, 1) := by decide +kernel
theorem dX11_areAllPaired_67 : decode cX11_areAllPaired 67 = .ok (.iaload, 1) := by decide +kernel
theorem dX11_areAllPaired_68 : decode cX11_areAllPaired 68 = .ok (.aload_n 0, 1) := by decide +kernel
theorem dX11_areAllPaired_69 : decode cX11_areAllPaired 69 = .ok (.aload_n 0, 1) := by decide +kernel
theorem dX11_areAllPaired_70 : decode cX11_areAllPaired 70 = .ok (.iload 4, 2) := by decide +kernel
theorem dX11_areAllPaired_72 : decode cX11_areAllPaired 72 = .ok (.invokevirtual 287, 3) := by decide +kernel
theorem dX11_areAllPaired_75 : decode cX11_areAllPaired 75 = .ok (.aload_n 0, 1) := by decide +kernel
theorem dX11_areAllPaired_76 : decode cX11_areAllPaired 76 = .ok (.getfield 26, 3) := by decide +kernel
theorem dX11_areAllPaired_79 : decode cX11_areAllPaired 79 = .ok (.bipush 8, 2) := by decide +kernel
theorem dX11_areAllPaired_81 : decode cX11_areAllPaired 81 = .ok (.iload 4, 2) := by decide +kernel
theorem dX11_areAllPaired_83 : decode cX11_areAllPaired 83 = .ok (.iadd, 1) := by decide +kernel
theorem dX11_areAllPaired_84 : decode cX11_areAllPaired 84 = .ok (.iaload, 1) := by decide +kernel
theorem dX11_areAllPaired_85 : decode cX11_areAllPaired 85 = .ok (.iload_n 2, 1) := by decide +kernel
theorem dX11_areAllPaired_86 : decode cX11_areAllPaired 86 = .ok (.ior, 1) := by decide +kernel
theorem dX11_areAllPaired_87 : decode cX11_areAllPaired 87 = .ok (.aload_n 0, 1) := by decide +kernel
theorem dX11_areAllPaired_88 : decode cX11_areAllPaired 88 = .ok (.iload 5, 2) := by decide +kernel
theorem dX11_areAllPaired_90 : decode cX11_areAllPaired 90 = .ok (.invokevirtual 287, 3) := by decide +kernel
theorem dX11_areAllPaired_93 : decode cX11_areAllPaired 93 = .ok (.aload_n 0, 1) := by decide +kernel
theorem dX11_areAllPaired_94 : decode cX11_areAllPaired 94 = .ok (.getfield 26, 3) := by decide +kernel
theorem dX11_areAllPaired_97 : decode cX11_areAllPaired 97 = .ok (.bipush 8, 2) := by decide +kernel
theorem dX11_areAllPaired_99 : decode cX11_areAllPaired 99 = .ok (.iload 5, 2) := by decide +kernel
theorem dX11_areAllPaired_101 : decode cX11_areAllPaired 101 = .ok (.iadd, 1) := by decide +kernel
theorem dX11_areAllPaired_102 : decode cX11_areAllPaired 102 = .ok (.iaload, 1) := by decide +kernel
theorem dX11_areAllPaired_103 : decode cX11_areAllPaired 103 = .ok (.iload_n 2, 1) := by decide +kernel
theorem dX11_areAllPaired_104 : decode cX11_areAllPaired 104 = .ok (.ior, 1) := by decide +kernel
theorem dX11_areAllPaired_105 : decode cX11_areAllPaired 105 = .ok (.iload_n 3, 1) := by decide +kernel
theorem dX11_areAllPaired_106 : decode cX11_areAllPaired 106 = .ok (.invokevirtual 290, 3) := by decide +kernel
theorem dX11_areAllPaired_109 : decode cX11_areAllPaired 109 = .ok (.iconst 2, 1) := by decide +kernel
theorem dX11_areAllPaired_110 : decode cX11_areAllPaired 110 = .ok (.if_icmp .ne 10, 3) := by decide +kernel
theorem dX11_areAllPaired_113 : decode cX11_areAllPaired 113 = .ok (.iconst 1, 1) := by decide +kernel
theorem dX11_areAllPaired_114 : decode cX11_areAllPaired 114 = .ok (.iload 5, 2) := by decide +kernel
theorem dX11_areAllPaired_116 : decode cX11_areAllPaired 116 = .ok (.ishl, 1) := by decide +kernel
theorem dX11_areAllPaired_117 : decode cX11_areAllPaired 117 = .ok (.goto 4, 3) := by decide +kernel
theorem dX11_areAllPaired_120 : decode cX11_areAllPaired 120 = .ok (.iconst 0, 1) := by decide +kernel
theorem dX11_areAllPaired_121 : decode cX11_areAllPaired 121 = .ok (.ior, 1) := by decide +kernel
theorem dX11_areAllPaired_122 : decode cX11_areAllPaired 122 = .ok (.iastore, 1) := by decide +kernel
theorem dX11_areAllPaired_123 : decode cX11_areAllPaired 123 = .ok (.iinc 5 1, 3) := by decide +kernel
theorem dX11_areAllPaired_126 : decode cX11_areAllPaired 126 = .ok (.goto (-98), 3) := by decide +kernel
theorem dX11_areAllPaired_129 : decode cX11_areAllPaired 129 = .ok (.iinc 4 1, 3) := by decide +kernel
theorem dX11_areAllPaired_132 : decode cX11_areAllPaired 132 = .ok (.goto (-129), 3) := by decide +kernel
theorem dX11_areAllPaired_135 : decode cX11_areAllPaired 135 = .ok (.aload_n 0, 1) := by decide +kernel
theorem dX11_areAllPaired_136 : decode cX11_areAllPaired 136 = .ok (.iload_n 1, 1) := by decide +kernel
theorem dX11_areAllPaired_137 : decode cX11_areAllPaired 137 = .ok (.invokevirtual 373, 3) := by decide +kernel
theorem dX11_areAllPaired_140 : decode cX11_areAllPaired 140 = .ok (.ireturn, 1) := by decide +kernel
theorem dX11_isPaired_0 : decode cX11_isPaired 0 = .ok (.iload_n 1, 1) := by decide +kernel
theorem dX11_isPaired_1 : decode cX11_isPaired 1 = .ok (.ifCond .ne 5, 3) := by decide +kernel
theorem dX11_isPaired_4 : decode cX11_isPaired 4 = .ok (.iconst 1, 1) := by decide +kernel
theorem dX11_isPaired_5 : decode cX11_isPaired 5 = .ok (.ireturn, 1) := by decide +kernel
theorem dX11_isPaired_6 : decode cX11_isPaired 6 = .ok (.iconst 0, 1) := by decide +kernel
theorem dX11_isPaired_7 : decode cX11_isPaired 7 = .ok (.istore_n 2, 1) := by decide +kernel
theorem dX11_isPaired_8 : decode cX11_isPaired 8 = .ok (.iload_n 1, 1) := by decide +kernel
theorem dX11_isPaired_9 : decode cX11_isPaired 9 = .ok (.iload_n 2, 1) := by decide +kernel
theorem dX11_isPaired_10 : decode cX11_isPaired 10 = .ok (.invokestatic 266, 3) := by decide +kernel
theorem dX11_isPaired_13 : decode cX11_isPaired 13 = .ok (.ifCond .ne 9, 3) := by decide +kernel
theorem dX11_isPaired_16 : decode cX11_isPaired 16 = .ok (.iinc 2 1, 3) := by decide +kernel
theorem dX11_isPaired_19 : decode cX11_isPaired 19 = .ok (.goto (-11), 3) := by decide +kernel
theorem dX11_isPaired_22 : decode cX11_isPaired 22 = .ok (.iload_n 2, 1) := by decide +kernel
theorem dX11_isPaired_23 : decode cX11_isPaired 23 = .ok (.iconst 1, 1) := by decide +kernel
theorem dX11_isPaired_24 : decode cX11_isPaired 24 = .ok (.iadd, 1) := by decide +kernel
theorem dX11_isPaired_25 : decode cX11_isPaired 25 = .ok (.istore_n 3, 1) := by decide +kernel
theorem dX11_isPaired_26 : decode cX11_isPaired 26 = .ok (.iload_n 3, 1) := by decide +kernel
theorem dX11_isPaired_27 : decode cX11_isPaired 27 = .ok (.aload_n 0, 1) := by decide +kernel
theorem dX11_isPaired_28 : decode cX11_isPaired 28 = .ok (.getfield 20, 3) := by decide +kernel
theorem dX11_isPaired_31 : decode cX11_isPaired 31 = .ok (.iconst 3, 1) := by decide +kernel
theorem dX11_isPaired_32 : decode cX11_isPaired 32 = .ok (.iaload, 1) := by decide +kernel
theorem dX11_isPaired_33 : decode cX11_isPaired 33 = .ok (.if_icmp .ge 44, 3) := by decide +kernel
theorem dX11_isPaired_36 : decode cX11_isPaired 36 = .ok (.iload_n 1, 1) := by decide +kernel
theorem dX11_isPaired_37 : decode cX11_isPaired 37 = .ok (.aload_n 0, 1) := by decide +kernel
theorem dX11_isPaired_38 : decode cX11_isPaired 38 = .ok (.getfield 35, 3) := by decide +kernel
theorem dX11_isPaired_41 : decode cX11_isPaired 41 = .ok (.iload_n 2, 1) := by decide +kernel
theorem dX11_isPaired_42 : decode cX11_isPaired 42 = .ok (.iaload, 1) := by decide +kernel
theorem dX11_isPaired_43 : decode cX11_isPaired 43 = .ok (.iand, 1) := by decide +kernel
theorem dX11_isPaired_44 : decode cX11_isPaired 44 = .ok (.iload_n 3, 1) := by decide +kernel
theorem dX11_isPaired_45 : decode cX11_isPaired 45 = .ok (.invokestatic 266, 3) := by decide +kernel
theorem dX11_isPaired_48 : decode cX11_isPaired 48 = .ok (.ifCond .eq 23, 3) := by decide +kernel
theorem dX11_isPaired_51 : decode cX11_isPaired 51 = .ok (.aload_n 0, 1) := by decide +kernel
theorem dX11_isPaired_52 : decode cX11_isPaired 52 = .ok (.iload_n 1, 1) := by decide +kernel
theorem dX11_isPaired_53 : decode cX11_isPaired 53 = .ok (.iconst 1, 1) := by decide +kernel
theorem dX11_isPaired_54 : decode cX11_isPaired 54 = .ok (.iload_n 2, 1) := by decide +kernel
theorem dX11_isPaired_55 : decode cX11_isPaired 55 = .ok (.ishl, 1) := by decide +kernel
theorem dX11_isPaired_56 : decode cX11_isPaired 56 = .ok (.iconst 1, 1) := by decide +kernel
theorem dX11_isPaired_57 : decode cX11_isPaired 57 = .ok (.iload_n 3, 1) := by decide +kernel
theorem dX11_isPaired_58 : decode cX11_isPaired 58 = .ok (.ishl, 1) := by decide +kernel
theorem dX11_isPaired_59 : decode cX11_isPaired 59 = .ok (.ior, 1) := by decide +kernel
theorem dX11_isPaired_60 : decode cX11_isPaired 60 = .ok (.iconst (-1), 1) := by decide +kernel
theorem dX11_isPaired_61 : decode cX11_isPaired 61 = .ok (.ixor, 1) := by decide +kernel
theorem dX11_isPaired_62 : decode cX11_isPaired 62 = .ok (.iand, 1) := by decide +kernel
theorem dX11_isPaired_63 : decode cX11_isPaired 63 = .ok (.invokevirtual 373, 3) := by decide +kernel
theorem dX11_isPaired_66 : decode cX11_isPaired 66 = .ok (.ifCond .eq 5, 3) := by decide +kernel
theorem dX11_isPaired_69 : decode cX11_isPaired 69 = .ok (.iconst 1, 1) := by decide +kernel
theorem dX11_isPaired_70 : decode cX11_isPaired 70 = .ok (.ireturn, 1) := by decide +kernel
theorem dX11_isPaired_71 : decode cX11_isPaired 71 = .ok (.iinc 3 1, 3) := by decide +kernel
theorem dX11_isPaired_74 : decode cX11_isPaired 74 = .ok (.goto (-48), 3) := by decide +kernel
theorem dX11_isPaired_77 : decode cX11_isPaired 77 = .ok (.iconst 0, 1) := by decide +kernel
theorem dX11_isPaired_78 : decode cX11_isPaired 78 = .ok (.ireturn, 1) := by decide +kernel
