theorem dX10_init_0 : decode cX10_init 0 = .ok (.aload_n 0, 1) := by decide +kernel
theorem dX10_init_1 : decode cX10_init 1 = .ok (.invokespecial 3, 3) := by decide +kernel
theorem dX10_init_4 : decode cX10_init 4 = .ok (.aload_n 0, 1) := by decide +kernel
theorem dX10_init_5 : decode cX10_init 5 = .ok (.new 9, 3) := by decide +kernel
theorem dX10_init_8 : decode cX10_init 8 = .ok (.dup, 1) := by decide +kernel
theorem dX10_init_9 : decode cX10_init 9 = .ok (.invokespecial 11, 3) := by decide +kernel
theorem dX10_init_12 : decode cX10_init 12 = .ok (.putfield 12, 3) := by decide +kernel
theorem dX10_init_15 : decode cX10_init 15 = .ok (.aload_n 0, 1) := by decide +kernel
theorem dX10_init_16 : decode cX10_init 16 = .ok (.new 9, 3) := by decide +kernel
theorem dX10_init_19 : decode cX10_init 19 = .ok (.dup, 1) := by decide +kernel
theorem dX10_init_20 : decode cX10_init 20 = .ok (.invokespecial 11, 3) := by decide +kernel
theorem dX10_init_23 : decode cX10_init 23 = .ok (.putfield 18, 3) := by decide +kernel
theorem dX10_init_26 : decode cX10_init 26 = .ok (.aload_n 0, 1) := by decide +kernel
theorem dX10_init_27 : decode cX10_init 27 = .ok (.new 9, 3) := by decide +kernel
theorem dX10_init_30 : decode cX10_init 30 = .ok (.dup, 1) := by decide +kernel
theorem dX10_init_31 : decode cX10_init 31 = .ok (.invokespecial 11, 3) := by decide +kernel
theorem dX10_init_34 : decode cX10_init 34 = .ok (.putfield 21, 3) := by decide +kernel
theorem dX10_init_37 : decode cX10_init 37 = .ok (.aload_n 0, 1) := by decide +kernel
theorem dX10_init_38 : decode cX10_init 38 = .ok (.new 24, 3) := by decide +kernel
theorem dX10_init_41 : decode cX10_init 41 = .ok (.dup, 1) := by decide +kernel
theorem dX10_init_42 : decode cX10_init 42 = .ok (.invokespecial 26, 3) := by decide +kernel
theorem dX10_init_45 : decode cX10_init 45 = .ok (.putfield 27, 3) := by decide +kernel
theorem dX10_init_48 : decode cX10_init 48 = .ok (.aload_n 0, 1) := by decide +kernel
theorem dX10_init_49 : decode cX10_init 49 = .ok (.aload_n 0, 1) := by decide +kernel
theorem dX10_init_50 : decode cX10_init 50 = .ok (.getfield 27, 3) := by decide +kernel
theorem dX10_init_53 : decode cX10_init 53 = .ok (.getfield 31, 3) := by decide +kernel
theorem dX10_init_56 : decode cX10_init 56 = .ok (.putfield 35, 3) := by decide +kernel
theorem dX10_init_59 : decode cX10_init 59 = .ok (.aload_n 0, 1) := by decide +kernel
theorem dX10_init_60 : decode cX10_init 60 = .ok (.new 36, 3) := by decide +kernel
theorem dX10_init_63 : decode cX10_init 63 = .ok (.dup, 1) := by decide +kernel
theorem dX10_init_64 : decode cX10_init 64 = .ok (.invokespecial 38, 3) := by decide +kernel
theorem dX10_init_67 : decode cX10_init 67 = .ok (.putfield 39, 3) := by decide +kernel
theorem dX10_init_70 : decode cX10_init 70 = .ok (.aload_n 0, 1) := by decide +kernel
theorem dX10_init_71 : decode cX10_init 71 = .ok (.new 43, 3) := by decide +kernel
theorem dX10_init_74 : decode cX10_init 74 = .ok (.dup, 1) := by decide +kernel
theorem dX10_init_75 : decode cX10_init 75 = .ok (.invokespecial 45, 3) := by decide +kernel
theorem dX10_init_78 : decode cX10_init 78 = .ok (.putfield 46, 3) := by decide +kernel
theorem dX10_init_81 : decode cX10_init 81 = .ok (.aload_n 0, 1) := by decide +kernel
theorem dX10_init_82 : decode cX10_init 82 = .ok (.bipush 6, 2) := by decide +kernel
theorem dX10_init_84 : decode cX10_init 84 = .ok (.anewarray 50, 3) := by decide +kernel
theorem dX10_init_87 : decode cX10_init 87 = .ok (.putfield 52, 3) := by decide +kernel
theorem dX10_init_90 : decode cX10_init 90 = .ok (.iconst 0, 1) := by decide +kernel
theorem dX10_init_91 : decode cX10_init 91 = .ok (.istore_n 1, 1) := by decide +kernel
theorem dX10_init_92 : decode cX10_init 92 = .ok (.iload_n 1, 1) := by decide +kernel
theorem dX10_init_93 : decode cX10_init 93 = .ok (.bipush 6, 2) := by decide +kernel
theorem dX10_init_95 : decode cX10_init 95 = .ok (.if_icmp .ge 22, 3) := by decide +kernel
theorem dX10_init_98 : decode cX10_init 98 = .ok (.aload_n 0, 1) := by decide +kernel
theorem dX10_init_99 : decode cX10_init 99 = .ok (.getfield 52, 3) := by decide +kernel
theorem dX10_init_102 : decode cX10_init 102 = .ok (.iload_n 1, 1) := by decide +kernel
theorem dX10_init_103 : decode cX10_init 103 = .ok (.new 50, 3) := by decide +kernel
theorem dX10_init_106 : decode cX10_init 106 = .ok (.dup, 1) := by decide +kernel
theorem dX10_init_107 : decode cX10_init 107 = .ok (.invokespecial 56, 3) := by decide +kernel
theorem dX10_init_110 : decode cX10_init 110 = .ok (.aastore, 1) := by decide +kernel
theorem dX10_init_111 : decode cX10_init 111 = .ok (.iinc 1 1, 3) := by decide +kernel
theorem dX10_init_114 : decode cX10_init 114 = .ok (.goto (-22), 3) := by decide +kernel
theorem dX10_init_117 : decode cX10_init 117 = .ok (.return_, 1) := by decide +kernel
theorem dX10_guard_0 : decode cX10_guard 0 = .ok (.iload_n 1, 1) := by decide +kernel
theorem dX10_guard_1 : decode cX10_guard 1 = .ok (.invokestatic 57, 3) := by decide +kernel
theorem dX10_guard_4 : decode cX10_guard 4 = .ok (.ifCond .ne 5, 3) := by decide +kernel
theorem dX10_guard_7 : decode cX10_guard 7 = .ok (.iconst (-1), 1) := by decide +kernel
theorem dX10_guard_8 : decode cX10_guard 8 = .ok (.ireturn, 1) := by decide +kernel
theorem dX10_guard_9 : decode cX10_guard 9 = .ok (.iload_n 2, 1) := by decide +kernel
theorem dX10_guard_10 : decode cX10_guard 10 = .ok (.invokestatic 61, 3) := by decide +kernel
theorem dX10_guard_13 : decode cX10_guard 13 = .ok (.ifCond .eq 10, 3) := by decide +kernel
theorem dX10_guard_16 : decode cX10_guard 16 = .ok (.iload_n 3, 1) := by decide +kernel
theorem dX10_guard_17 : decode cX10_guard 17 = .ok (.invokestatic 64, 3) := by decide +kernel
theorem dX10_guard_20 : decode cX10_guard 20 = .ok (.ifCond .ne 6, 3) := by decide +kernel
theorem dX10_guard_23 : decode cX10_guard 23 = .ok (.bipush (-2), 2) := by decide +kernel
theorem dX10_guard_25 : decode cX10_guard 25 = .ok (.ireturn, 1) := by decide +kernel
theorem dX10_guard_26 : decode cX10_guard 26 = .ok (.aload_n 0, 1) := by decide +kernel
theorem dX10_guard_27 : decode cX10_guard 27 = .ok (.getfield 12, 3) := by decide +kernel
theorem dX10_guard_30 : decode cX10_guard 30 = .ok (.iload_n 1, 1) := by decide +kernel
theorem dX10_guard_31 : decode cX10_guard 31 = .ok (.iload_n 2, 1) := by decide +kernel
theorem dX10_guard_32 : decode cX10_guard 32 = .ok (.iload_n 3, 1) := by decide +kernel
theorem dX10_guard_33 : decode cX10_guard 33 = .ok (.invokevirtual 67, 3) := by decide +kernel
theorem dX10_guard_36 : decode cX10_guard 36 = .ok (.ireturn, 1) := by decide +kernel
theorem dX10_of_0 : decode cX10_of 0 = .ok (.aload_n 0, 1) := by decide +kernel
theorem dX10_of_1 : decode cX10_of 1 = .ok (.getfield 12, 3) := by decide +kernel
theorem dX10_of_4 : decode cX10_of 4 = .ok (.iload_n 1, 1) := by decide +kernel
theorem dX10_of_5 : decode cX10_of 5 = .ok (.invokevirtual 71, 3) := by decide +kernel
theorem dX10_of_8 : decode cX10_of 8 = .ok (.astore_n 3, 1) := by decide +kernel
theorem dX10_of_9 : decode cX10_of 9 = .ok (.aload_n 3, 1) := by decide +kernel
theorem dX10_of_10 : decode cX10_of 10 = .ok (.ifnonnull 7, 3) := by decide +kernel
theorem dX10_of_13 : decode cX10_of 13 = .ok (.sipush (-10001), 3) := by decide +kernel
theorem dX10_of_16 : decode cX10_of 16 = .ok (.ireturn, 1) := by decide +kernel
theorem dX10_of_17 : decode cX10_of 17 = .ok (.iload_n 2, 1) := by decide +kernel
theorem dX10_of_18 : decode cX10_of 18 = .ok (.tableswitch 101 0 6 #[42, 47, 52, 57, 62, 75, 88], 42) := by decide +kernel
theorem dX10_of_60 : decode cX10_of 60 = .ok (.aload_n 3, 1) := by decide +kernel
theorem dX10_of_61 : decode cX10_of 61 = .ok (.getfield 75, 3) := by decide +kernel
theorem dX10_of_64 : decode cX10_of 64 = .ok (.ireturn, 1) := by decide +kernel
theorem dX10_of_65 : decode cX10_of 65 = .ok (.aload_n 3, 1) := by decide +kernel
theorem dX10_of_66 : decode cX10_of 66 = .ok (.getfield 81, 3) := by decide +kernel
theorem dX10_of_69 : decode cX10_of 69 = .ok (.ireturn, 1) := by decide +kernel
theorem dX10_of_70 : decode cX10_of 70 = .ok (.aload_n 3, 1) := by decide +kernel
theorem dX10_of_71 : decode cX10_of 71 = .ok (.getfield 84, 3) := by decide +kernel
theorem dX10_of_74 : decode cX10_of 74 = .ok (.ireturn, 1) := by decide +kernel
theorem dX10_of_75 : decode cX10_of 75 = .ok (.aload_n 3, 1) := by decide +kernel
theorem dX10_of_76 : decode cX10_of 76 = .ok (.getfield 87, 3) := by decide +kernel
theorem dX10_of_79 : decode cX10_of 79 = .ok (.ireturn, 1) := by decide +kernel
theorem dX10_of_80 : decode cX10_of 80 = .ok (.aload_n 0, 1) := by decide +kernel
theorem dX10_of_81 : decode cX10_of 81 = .ok (.getfield 27, 3) := by decide +kernel
theorem dX10_of_84 : decode cX10_of 84 = .ok (.aload_n 0, 1) := by decide +kernel
theorem dX10_of_85 : decode cX10_of 85 = .ok (.getfield 12, 3) := by decide +kernel
theorem dX10_of_88 : decode cX10_of 88 = .ok (.iload_n 1, 1) := by decide +kernel
theorem dX10_of_89 : decode cX10_of 89 = .ok (.invokevirtual 90, 3) := by decide +kernel
theorem dX10_of_92 : decode cX10_of 92 = .ok (.ireturn, 1) := by decide +kernel
theorem dX10_of_93 : decode cX10_of 93 = .ok (.aload_n 0, 1) := by decide +kernel
theorem dX10_of_94 : decode cX10_of 94 = .ok (.getfield 27, 3) := by decide +kernel
theorem dX10_of_97 : decode cX10_of 97 = .ok (.aload_n 0, 1) := by decide +kernel
theorem dX10_of_98 : decode cX10_of 98 = .ok (.getfield 12, 3) := by decide +kernel
theorem dX10_of_101 : decode cX10_of 101 = .ok (.iload_n 1, 1) := by decide +kernel
theorem dX10_of_102 : decode cX10_of 102 = .ok (.invokevirtual 94, 3) := by decide +kernel
theorem dX10_of_105 : decode cX10_of 105 = .ok (.ireturn, 1) := by decide +kernel
theorem dX10_of_106 : decode cX10_of 106 = .ok (.aload_n 0, 1) := by decide +kernel
theorem dX10_of_107 : decode cX10_of 107 = .ok (.getfield 27, 3) := by decide +kernel
theorem dX10_of_110 : decode cX10_of 110 = .ok (.aload_n 0, 1) := by decide +kernel
theorem dX10_of_111 : decode cX10_of 111 = .ok (.getfield 12, 3) := by decide +kernel
theorem dX10_of_114 : decode cX10_of 114 = .ok (.iload_n 1, 1) := by decide +kernel
theorem dX10_of_115 : decode cX10_of 115 = .ok (.invokevirtual 97, 3) := by decide +kernel
theorem dX10_of_118 : decode cX10_of 118 = .ok (.ireturn, 1) := by decide +kernel
theorem dX10_of_119 : decode cX10_of 119 = .ok (.aload_n 0, 1) := by decide +kernel
theorem dX10_of_120 : decode cX10_of 120 = .ok (.aload_n 3, 1) := by decide +kernel
theorem dX10_of_121 : decode cX10_of 121 = .ok (.iload_n 1, 1) := by decide +kernel
theorem dX10_of_122 : decode cX10_of 122 = .ok (.iload_n 2, 1) := by decide +kernel
theorem dX10_of_123 : decode cX10_of 123 = .ok (.invokevirtual 100, 3) := by decide +kernel
theorem dX10_of_126 : decode cX10_of 126 = .ok (.ireturn, 1) := by decide +kernel
theorem dX10_ofQuestion_0 : decode cX10_ofQuestion 0 = .ok (.aload_n 0, 1) := by decide +kernel
theorem dX10_ofQuestion_1 : decode cX10_ofQuestion 1 = .ok (.getfield 12, 3) := by decide +kernel
theorem dX10_ofQuestion_4 : decode cX10_ofQuestion 4 = .ok (.iload_n 3, 1) := by decide +kernel
theorem dX10_ofQuestion_5 : decode cX10_ofQuestion 5 = .ok (.bipush 10, 2) := by decide +kernel
theorem dX10_ofQuestion_7 : decode cX10_ofQuestion 7 = .ok (.isub, 1) := by decide +kernel
theorem dX10_ofQuestion_8 : decode cX10_ofQuestion 8 = .ok (.invokevirtual 104, 3) := by decide +kernel
theorem dX10_ofQuestion_11 : decode cX10_ofQuestion 11 = .ok (.astore 4, 2) := by decide +kernel
theorem dX10_ofQuestion_13 : decode cX10_ofQuestion 13 = .ok (.aload 4, 2) := by decide +kernel
theorem dX10_ofQuestion_15 : decode cX10_ofQuestion 15 = .ok (.ifnull 25, 3) := by decide +kernel
theorem dX10_ofQuestion_18 : decode cX10_ofQuestion 18 = .ok (.aload_n 0, 1) := by decide +kernel
theorem dX10_ofQuestion_19 : decode cX10_ofQuestion 19 = .ok (.getfield 35, 3) := by decide +kernel
theorem dX10_ofQuestion_22 : decode cX10_ofQuestion 22 = .ok (.aload_n 0, 1) := by decide +kernel
theorem dX10_ofQuestion_23 : decode cX10_ofQuestion 23 = .ok (.getfield 12, 3) := by decide +kernel
theorem dX10_ofQuestion_26 : decode cX10_ofQuestion 26 = .ok (.iload_n 2, 1) := by decide +kernel
theorem dX10_ofQuestion_27 : decode cX10_ofQuestion 27 = .ok (.aload_n 1, 1) := by decide +kernel
theorem dX10_ofQuestion_28 : decode cX10_ofQuestion 28 = .ok (.getfield 84, 3) := by decide +kernel
theorem dX10_ofQuestion_31 : decode cX10_ofQuestion 31 = .ok (.aload 4, 2) := by decide +kernel
theorem dX10_ofQuestion_33 : decode cX10_ofQuestion 33 = .ok (.getfield 108, 3) := by decide +kernel
theorem dX10_ofQuestion_36 : decode cX10_ofQuestion 36 = .ok (.invokevirtual 113, 3) := by decide +kernel
theorem dX10_ofQuestion_39 : decode cX10_ofQuestion 39 = .ok (.ireturn, 1) := by decide +kernel
theorem dX10_ofQuestion_40 : decode cX10_ofQuestion 40 = .ok (.aload_n 0, 1) := by decide +kernel
theorem dX10_ofQuestion_41 : decode cX10_ofQuestion 41 = .ok (.getfield 12, 3) := by decide +kernel
theorem dX10_ofQuestion_44 : decode cX10_ofQuestion 44 = .ok (.iload_n 3, 1) := by decide +kernel
theorem dX10_ofQuestion_45 : decode cX10_ofQuestion 45 = .ok (.bipush 20, 2) := by decide +kernel
theorem dX10_ofQuestion_47 : decode cX10_ofQuestion 47 = .ok (.isub, 1) := by decide +kernel
theorem dX10_ofQuestion_48 : decode cX10_ofQuestion 48 = .ok (.invokevirtual 104, 3) := by decide +kernel
theorem dX10_ofQuestion_51 : decode cX10_ofQuestion 51 = .ok (.astore 5, 2) := by decide +kernel
theorem dX10_ofQuestion_53 : decode cX10_ofQuestion 53 = .ok (.aload 5, 2) := by decide +kernel
theorem dX10_ofQuestion_55 : decode cX10_ofQuestion 55 = .ok (.ifnull 21, 3) := by decide +kernel
theorem dX10_ofQuestion_58 : decode cX10_ofQuestion 58 = .ok (.aload_n 0, 1) := by decide +kernel
theorem dX10_ofQuestion_59 : decode cX10_ofQuestion 59 = .ok (.getfield 27, 3) := by decide +kernel
theorem dX10_ofQuestion_62 : decode cX10_ofQuestion 62 = .ok (.aload_n 0, 1) := by decide +kernel
theorem dX10_ofQuestion_63 : decode cX10_ofQuestion 63 = .ok (.getfield 12, 3) := by decide +kernel
theorem dX10_ofQuestion_66 : decode cX10_ofQuestion 66 = .ok (.iload_n 2, 1) := by decide +kernel
theorem dX10_ofQuestion_67 : decode cX10_ofQuestion 67 = .ok (.aload 5, 2) := by decide +kernel
theorem dX10_ofQuestion_69 : decode cX10_ofQuestion 69 = .ok (.getfield 108, 3) := by decide +kernel
theorem dX10_ofQuestion_72 : decode cX10_ofQuestion 72 = .ok (.invokevirtual 119, 3) := by decide +kernel
theorem dX10_ofQuestion_75 : decode cX10_ofQuestion 75 = .ok (.ireturn, 1) := by decide +kernel
theorem dX10_ofQuestion_76 : decode cX10_ofQuestion 76 = .ok (.sipush (-10001), 3) := by decide +kernel
theorem dX10_ofQuestion_79 : decode cX10_ofQuestion 79 = .ok (.ireturn, 1) := by decide +kernel
theorem dX10_question_0 : decode cX10_question 0 = .ok (.iload_n 1, 1) := by decide +kernel
theorem dX10_question_1 : decode cX10_question 1 = .ok (.invokestatic 64, 3) := by decide +kernel
theorem dX10_question_4 : decode cX10_question 4 = .ok (.ifCond .eq 10, 3) := by decide +kernel
theorem dX10_question_7 : decode cX10_question 7 = .ok (.iload_n 2, 1) := by decide +kernel
theorem dX10_question_8 : decode cX10_question 8 = .ok (.invokestatic 123, 3) := by decide +kernel
theorem dX10_question_11 : decode cX10_question 11 = .ok (.ifCond .ne 6, 3) := by decide +kernel
theorem dX10_question_14 : decode cX10_question 14 = .ok (.bipush (-2), 2) := by decide +kernel
theorem dX10_question_16 : decode cX10_question 16 = .ok (.ireturn, 1) := by decide +kernel
theorem dX10_question_17 : decode cX10_question 17 = .ok (.aload_n 0, 1) := by decide +kernel
theorem dX10_question_18 : decode cX10_question 18 = .ok (.getfield 12, 3) := by decide +kernel
theorem dX10_question_21 : decode cX10_question 21 = .ok (.iload_n 1, 1) := by decide +kernel
theorem dX10_question_22 : decode cX10_question 22 = .ok (.iload_n 2, 1) := by decide +kernel
theorem dX10_question_23 : decode cX10_question 23 = .ok (.invokevirtual 126, 3) := by decide +kernel
theorem dX10_question_26 : decode cX10_question 26 = .ok (.ireturn, 1) := by decide +kernel
theorem dX10_sack_0 : decode cX10_sack 0 = .ok (.aload_n 0, 1) := by decide +kernel
theorem dX10_sack_1 : decode cX10_sack 1 = .ok (.getfield 12, 3) := by decide +kernel
theorem dX10_sack_4 : decode cX10_sack 4 = .ok (.iload_n 1, 1) := by decide +kernel
theorem dX10_sack_5 : decode cX10_sack 5 = .ok (.invokevirtual 104, 3) := by decide +kernel
theorem dX10_sack_8 : decode cX10_sack 8 = .ok (.astore_n 3, 1) := by decide +kernel
theorem dX10_sack_9 : decode cX10_sack 9 = .ok (.aload_n 3, 1) := by decide +kernel
theorem dX10_sack_10 : decode cX10_sack 10 = .ok (.ifnonnull 5, 3) := by decide +kernel
theorem dX10_sack_13 : decode cX10_sack 13 = .ok (.iconst (-1), 1) := by decide +kernel
theorem dX10_sack_14 : decode cX10_sack 14 = .ok (.ireturn, 1) := by decide +kernel
theorem dX10_sack_15 : decode cX10_sack 15 = .ok (.iload_n 2, 1) := by decide +kernel
theorem dX10_sack_16 : decode cX10_sack 16 = .ok (.tableswitch 52 0 3 #[32, 37, 42, 47], 32) := by decide +kernel
theorem dX10_sack_48 : decode cX10_sack 48 = .ok (.aload_n 3, 1) := by decide +kernel
theorem dX10_sack_49 : decode cX10_sack 49 = .ok (.getfield 108, 3) := by decide +kernel
theorem dX10_sack_52 : decode cX10_sack 52 = .ok (.ireturn, 1) := by decide +kernel
theorem dX10_sack_53 : decode cX10_sack 53 = .ok (.aload_n 3, 1) := by decide +kernel
theorem dX10_sack_54 : decode cX10_sack 54 = .ok (.getfield 130, 3) := by decide +kernel
theorem dX10_sack_57 : decode cX10_sack 57 = .ok (.ireturn, 1) := by decide +kernel
theorem dX10_sack_58 : decode cX10_sack 58 = .ok (.aload_n 3, 1) := by decide +kernel
theorem dX10_sack_59 : decode cX10_sack 59 = .ok (.getfield 133, 3) := by decide +kernel
theorem dX10_sack_62 : decode cX10_sack 62 = .ok (.ireturn, 1) := by decide +kernel
theorem dX10_sack_63 : decode cX10_sack 63 = .ok (.aload_n 3, 1) := by decide +kernel
theorem dX10_sack_64 : decode cX10_sack 64 = .ok (.getfield 136, 3) := by decide +kernel
theorem dX10_sack_67 : decode cX10_sack 67 = .ok (.ireturn, 1) := by decide +kernel
theorem dX10_sack_68 : decode cX10_sack 68 = .ok (.iconst (-1), 1) := by decide +kernel
theorem dX10_sack_69 : decode cX10_sack 69 = .ok (.ireturn, 1) := by decide +kernel
theorem dX10_know_0 : decode cX10_know 0 = .ok (.aload_n 0, 1) := by decide +kernel
theorem dX10_know_1 : decode cX10_know 1 = .ok (.getfield 12, 3) := by decide +kernel
theorem dX10_know_4 : decode cX10_know 4 = .ok (.iload_n 1, 1) := by decide +kernel
theorem dX10_know_5 : decode cX10_know 5 = .ok (.invokevirtual 71, 3) := by decide +kernel
theorem dX10_know_8 : decode cX10_know 8 = .ok (.astore_n 3, 1) := by decide +kernel
theorem dX10_know_9 : decode cX10_know 9 = .ok (.aload_n 3, 1) := by decide +kernel
theorem dX10_know_10 : decode cX10_know 10 = .ok (.ifnonnull 5, 3) := by decide +kernel
theorem dX10_know_13 : decode cX10_know 13 = .ok (.iconst (-1), 1) := by decide +kernel
theorem dX10_know_14 : decode cX10_know 14 = .ok (.ireturn, 1) := by decide +kernel
theorem dX10_know_15 : decode cX10_know 15 = .ok (.iload_n 2, 1) := by decide +kernel
theorem dX10_know_16 : decode cX10_know 16 = .ok (.invokestatic 64, 3) := by decide +kernel
theorem dX10_know_19 : decode cX10_know 19 = .ok (.ifCond .ne 6, 3) := by decide +kernel
theorem dX10_know_22 : decode cX10_know 22 = .ok (.bipush (-2), 2) := by decide +kernel
theorem dX10_know_24 : decode cX10_know 24 = .ok (.ireturn, 1) := by decide +kernel
theorem dX10_know_25 : decode cX10_know 25 = .ok (.aload_n 3, 1) := by decide +kernel
theorem dX10_know_26 : decode cX10_know 26 = .ok (.getfield 84, 3) := by decide +kernel
theorem dX10_know_29 : decode cX10_know 29 = .ok (.istore 4, 2) := by decide +kernel
theorem dX10_know_31 : decode cX10_know 31 = .ok (.aload_n 3, 1) := by decide +kernel
theorem dX10_know_32 : decode cX10_know 32 = .ok (.iload_n 2, 1) := by decide +kernel
theorem dX10_know_33 : decode cX10_know 33 = .ok (.putfield 84, 3) := by decide +kernel
theorem dX10_know_36 : decode cX10_know 36 = .ok (.iload 4, 2) := by decide +kernel
theorem dX10_know_38 : decode cX10_know 38 = .ok (.ireturn, 1) := by decide +kernel
theorem dX10_tire_0 : decode cX10_tire 0 = .ok (.aload_n 0, 1) := by decide +kernel
theorem dX10_tire_1 : decode cX10_tire 1 = .ok (.getfield 12, 3) := by decide +kernel
theorem dX10_tire_4 : decode cX10_tire 4 = .ok (.iload_n 1, 1) := by decide +kernel
theorem dX10_tire_5 : decode cX10_tire 5 = .ok (.invokevirtual 71, 3) := by decide +kernel
theorem dX10_tire_8 : decode cX10_tire 8 = .ok (.astore_n 3, 1) := by decide +kernel
theorem dX10_tire_9 : decode cX10_tire 9 = .ok (.aload_n 3, 1) := by decide +kernel
theorem dX10_tire_10 : decode cX10_tire 10 = .ok (.ifnonnull 5, 3) := by decide +kernel
theorem dX10_tire_13 : decode cX10_tire 13 = .ok (.iconst (-1), 1) := by decide +kernel
theorem dX10_tire_14 : decode cX10_tire 14 = .ok (.ireturn, 1) := by decide +kernel
theorem dX10_tire_15 : decode cX10_tire 15 = .ok (.iload_n 2, 1) := by decide +kernel
theorem dX10_tire_16 : decode cX10_tire 16 = .ok (.invokestatic 123, 3) := by decide +kernel
theorem dX10_tire_19 : decode cX10_tire 19 = .ok (.ifCond .ne 6, 3) := by decide +kernel
theorem dX10_tire_22 : decode cX10_tire 22 = .ok (.bipush (-2), 2) := by decide +kernel
theorem dX10_tire_24 : decode cX10_tire 24 = .ok (.ireturn, 1) := by decide +kernel
theorem dX10_tire_25 : decode cX10_tire 25 = .ok (.aload_n 3, 1) := by decide +kernel
theorem dX10_tire_26 : decode cX10_tire 26 = .ok (.getfield 87, 3) := by decide +kernel
theorem dX10_tire_29 : decode cX10_tire 29 = .ok (.istore 4, 2) := by decide +kernel
theorem dX10_tire_31 : decode cX10_tire 31 = .ok (.aload_n 3, 1) := by decide +kernel
theorem dX10_tire_32 : decode cX10_tire 32 = .ok (.iload_n 2, 1) := by decide +kernel
theorem dX10_tire_33 : decode cX10_tire 33 = .ok (.putfield 87, 3) := by decide +kernel
theorem dX10_tire_36 : decode cX10_tire 36 = .ok (.iload 4, 2) := by decide +kernel
theorem dX10_tire_38 : decode cX10_tire 38 = .ok (.ireturn, 1) := by decide +kernel
theorem dX10_bring_0 : decode cX10_bring 0 = .ok (.aload_n 0, 1) := by decide +kernel
theorem dX10_bring_1 : decode cX10_bring 1 = .ok (.getfield 12, 3) := by decide +kernel
theorem dX10_bring_4 : decode cX10_bring 4 = .ok (.iload_n 1, 1) := by decide +kernel
theorem dX10_bring_5 : decode cX10_bring 5 = .ok (.invokevirtual 104, 3) := by decide +kernel
theorem dX10_bring_8 : decode cX10_bring 8 = .ok (.astore_n 3, 1) := by decide +kernel
theorem dX10_bring_9 : decode cX10_bring 9 = .ok (.aload_n 3, 1) := by decide +kernel
theorem dX10_bring_10 : decode cX10_bring 10 = .ok (.ifnonnull 5, 3) := by decide +kernel
theorem dX10_bring_13 : decode cX10_bring 13 = .ok (.iconst (-1), 1) := by decide +kernel
theorem dX10_bring_14 : decode cX10_bring 14 = .ok (.ireturn, 1) := by decide +kernel
theorem dX10_bring_15 : decode cX10_bring 15 = .ok (.iload_n 2, 1) := by decide +kernel
theorem dX10_bring_16 : decode cX10_bring 16 = .ok (.iconst (-1), 1) := by decide +kernel
theorem dX10_bring_17 : decode cX10_bring 17 = .ok (.if_icmp .eq 16, 3) := by decide +kernel
theorem dX10_bring_20 : decode cX10_bring 20 = .ok (.aload_n 0, 1) := by decide +kernel
theorem dX10_bring_21 : decode cX10_bring 21 = .ok (.getfield 12, 3) := by decide +kernel
theorem dX10_bring_24 : decode cX10_bring 24 = .ok (.iload_n 2, 1) := by decide +kernel
theorem dX10_bring_25 : decode cX10_bring 25 = .ok (.invokevirtual 71, 3) := by decide +kernel
theorem dX10_bring_28 : decode cX10_bring 28 = .ok (.ifnonnull 5, 3) := by decide +kernel
theorem dX10_bring_31 : decode cX10_bring 31 = .ok (.iconst (-1), 1) := by decide +kernel
theorem dX10_bring_32 : decode cX10_bring 32 = .ok (.ireturn, 1) := by decide +kernel
theorem dX10_bring_33 : decode cX10_bring 33 = .ok (.aload_n 3, 1) := by decide +kernel
theorem dX10_bring_34 : decode cX10_bring 34 = .ok (.getfield 136, 3) := by decide +kernel
theorem dX10_bring_37 : decode cX10_bring 37 = .ok (.istore 4, 2) := by decide +kernel
theorem dX10_bring_39 : decode cX10_bring 39 = .ok (.aload_n 3, 1) := by decide +kernel
theorem dX10_bring_40 : decode cX10_bring 40 = .ok (.iload_n 2, 1) := by decide +kernel
theorem dX10_bring_41 : decode cX10_bring 41 = .ok (.iconst (-1), 1) := by decide +kernel
theorem dX10_bring_42 : decode cX10_bring 42 = .ok (.if_icmp .ne 8, 3) := by decide +kernel
theorem dX10_bring_45 : decode cX10_bring 45 = .ok (.bipush (-5), 2) := by decide +kernel
theorem dX10_bring_47 : decode cX10_bring 47 = .ok (.goto 4, 3) := by decide +kernel
theorem dX10_bring_50 : decode cX10_bring 50 = .ok (.iload_n 2, 1) := by decide +kernel
theorem dX10_bring_51 : decode cX10_bring 51 = .ok (.putfield 136, 3) := by decide +kernel
theorem dX10_bring_54 : decode cX10_bring 54 = .ok (.iload 4, 2) := by decide +kernel
theorem dX10_bring_56 : decode cX10_bring 56 = .ok (.ireturn, 1) := by decide +kernel
theorem dX10_ask_0 : decode cX10_ask 0 = .ok (.aload_n 0, 1) := by decide +kernel
theorem dX10_ask_1 : decode cX10_ask 1 = .ok (.getfield 12, 3) := by decide +kernel
theorem dX10_ask_4 : decode cX10_ask 4 = .ok (.iload_n 1, 1) := by decide +kernel
theorem dX10_ask_5 : decode cX10_ask 5 = .ok (.invokevirtual 104, 3) := by decide +kernel
theorem dX10_ask_8 : decode cX10_ask 8 = .ok (.astore_n 3, 1) := by decide +kernel
theorem dX10_ask_9 : decode cX10_ask 9 = .ok (.aload_n 3, 1) := by decide +kernel
theorem dX10_ask_10 : decode cX10_ask 10 = .ok (.ifnull 14, 3) := by decide +kernel
theorem dX10_ask_13 : decode cX10_ask 13 = .ok (.aload_n 0, 1) := by decide +kernel
theorem dX10_ask_14 : decode cX10_ask 14 = .ok (.getfield 12, 3) := by decide +kernel
theorem dX10_ask_17 : decode cX10_ask 17 = .ok (.iload_n 2, 1) := by decide +kernel
theorem dX10_ask_18 : decode cX10_ask 18 = .ok (.invokevirtual 71, 3) := by decide +kernel
theorem dX10_ask_21 : decode cX10_ask 21 = .ok (.ifnonnull 5, 3) := by decide +kernel
theorem dX10_ask_24 : decode cX10_ask 24 = .ok (.iconst (-1), 1) := by decide +kernel
theorem dX10_ask_25 : decode cX10_ask 25 = .ok (.ireturn, 1) := by decide +kernel
theorem dX10_ask_26 : decode cX10_ask 26 = .ok (.aload_n 3, 1) := by decide +kernel
theorem dX10_ask_27 : decode cX10_ask 27 = .ok (.getfield 133, 3) := by decide +kernel
theorem dX10_ask_30 : decode cX10_ask 30 = .ok (.ifCond .eq 6, 3) := by decide +kernel
theorem dX10_ask_33 : decode cX10_ask 33 = .ok (.bipush (-3), 2) := by decide +kernel
theorem dX10_ask_35 : decode cX10_ask 35 = .ok (.ireturn, 1) := by decide +kernel
theorem dX10_ask_36 : decode cX10_ask 36 = .ok (.aload_n 0, 1) := by decide +kernel
theorem dX10_ask_37 : decode cX10_ask 37 = .ok (.getfield 35, 3) := by decide +kernel
theorem dX10_ask_40 : decode cX10_ask 40 = .ok (.aload_n 0, 1) := by decide +kernel
theorem dX10_ask_41 : decode cX10_ask 41 = .ok (.getfield 12, 3) := by decide +kernel
theorem dX10_ask_44 : decode cX10_ask 44 = .ok (.iload_n 1, 1) := by decide +kernel
theorem dX10_ask_45 : decode cX10_ask 45 = .ok (.iload_n 2, 1) := by decide +kernel
theorem dX10_ask_46 : decode cX10_ask 46 = .ok (.invokevirtual 139, 3) := by decide +kernel
theorem dX10_ask_49 : decode cX10_ask 49 = .ok (.aload_n 3, 1) := by decide +kernel
theorem dX10_ask_50 : decode cX10_ask 50 = .ok (.getfield 133, 3) := by decide +kernel
theorem dX10_ask_53 : decode cX10_ask 53 = .ok (.ireturn, 1) := by decide +kernel
theorem dX10_row_0 : decode cX10_row 0 = .ok (.aload_n 0, 1) := by decide +kernel
theorem dX10_row_1 : decode cX10_row 1 = .ok (.getfield 12, 3) := by decide +kernel
theorem dX10_row_4 : decode cX10_row 4 = .ok (.iload_n 1, 1) := by decide +kernel
theorem dX10_row_5 : decode cX10_row 5 = .ok (.invokevirtual 71, 3) := by decide +kernel
theorem dX10_row_8 : decode cX10_row 8 = .ok (.astore 4, 2) := by decide +kernel
theorem dX10_row_10 : decode cX10_row 10 = .ok (.aload 4, 2) := by decide +kernel
theorem dX10_row_12 : decode cX10_row 12 = .ok (.ifnull 12, 3) := by decide +kernel
theorem dX10_row_15 : decode cX10_row 15 = .ok (.iload_n 2, 1) := by decide +kernel
theorem dX10_row_16 : decode cX10_row 16 = .ok (.ifCond .lt 8, 3) := by decide +kernel
theorem dX10_row_19 : decode cX10_row 19 = .ok (.iload_n 2, 1) := by decide +kernel
theorem dX10_row_20 : decode cX10_row 20 = .ok (.iconst 4, 1) := by decide +kernel
theorem dX10_row_21 : decode cX10_row 21 = .ok (.if_icmp .lt 5, 3) := by decide +kernel
theorem dX10_row_24 : decode cX10_row 24 = .ok (.iconst (-1), 1) := by decide +kernel
theorem dX10_row_25 : decode cX10_row 25 = .ok (.ireturn, 1) := by decide +kernel
theorem dX10_row_26 : decode cX10_row 26 = .ok (.iload_n 3, 1) := by decide +kernel
theorem dX10_row_27 : decode cX10_row 27 = .ok (.invokestatic 61, 3) := by decide +kernel
theorem dX10_row_30 : decode cX10_row 30 = .ok (.ifCond .ne 6, 3) := by decide +kernel
theorem dX10_row_33 : decode cX10_row 33 = .ok (.bipush (-2), 2) := by decide +kernel
theorem dX10_row_35 : decode cX10_row 35 = .ok (.ireturn, 1) := by decide +kernel
theorem dX10_row_36 : decode cX10_row 36 = .ok (.aload 4, 2) := by decide +kernel
theorem dX10_row_38 : decode cX10_row 38 = .ok (.getfield 75, 3) := by decide +kernel
theorem dX10_row_41 : decode cX10_row 41 = .ok (.bipush 6, 2) := by decide +kernel
theorem dX10_row_43 : decode cX10_row 43 = .ok (.if_icmp .eq 6, 3) := by decide +kernel
theorem dX10_row_46 : decode cX10_row 46 = .ok (.bipush (-3), 2) := by decide +kernel
theorem dX10_row_48 : decode cX10_row 48 = .ok (.ireturn, 1) := by decide +kernel
theorem dX10_row_49 : decode cX10_row 49 = .ok (.aload 4, 2) := by decide +kernel
theorem dX10_row_51 : decode cX10_row 51 = .ok (.iload_n 2, 1) := by decide +kernel
theorem dX10_row_52 : decode cX10_row 52 = .ok (.iload_n 3, 1) := by decide +kernel
theorem dX10_row_53 : decode cX10_row 53 = .ok (.invokevirtual 143, 3) := by decide +kernel
theorem dX10_row_56 : decode cX10_row 56 = .ok (.ireturn, 1) := by decide +kernel
theorem dX10_feed_0 : decode cX10_feed 0 = .ok (.iload_n 1, 1) := by decide +kernel
theorem dX10_feed_1 : decode cX10_feed 1 = .ok (.ifCond .lt 9, 3) := by decide +kernel
theorem dX10_feed_4 : decode cX10_feed 4 = .ok (.iload_n 1, 1) := by decide +kernel
theorem dX10_feed_5 : decode cX10_feed 5 = .ok (.bipush 127, 2) := by decide +kernel
theorem dX10_feed_7 : decode cX10_feed 7 = .ok (.if_icmp .le 6, 3) := by decide +kernel
theorem dX10_feed_10 : decode cX10_feed 10 = .ok (.bipush (-2), 2) := by decide +kernel
theorem dX10_feed_12 : decode cX10_feed 12 = .ok (.ireturn, 1) := by decide +kernel
theorem dX10_feed_13 : decode cX10_feed 13 = .ok (.aload_n 0, 1) := by decide +kernel
theorem dX10_feed_14 : decode cX10_feed 14 = .ok (.getfield 39, 3) := by decide +kernel
theorem dX10_feed_17 : decode cX10_feed 17 = .ok (.iload_n 1, 1) := by decide +kernel
theorem dX10_feed_18 : decode cX10_feed 18 = .ok (.invokevirtual 146, 3) := by decide +kernel
theorem dX10_feed_21 : decode cX10_feed 21 = .ok (.ireturn, 1) := by decide +kernel
theorem dX10_border_0 : decode cX10_border 0 = .ok (.aload_n 0, 1) := by decide +kernel
theorem dX10_border_1 : decode cX10_border 1 = .ok (.getfield 35, 3) := by decide +kernel
theorem dX10_border_4 : decode cX10_border 4 = .ok (.invokevirtual 150, 3) := by decide +kernel
theorem dX10_border_7 : decode cX10_border 7 = .ok (.astore_n 1, 1) := by decide +kernel
theorem dX10_border_8 : decode cX10_border 8 = .ok (.aload_n 1, 1) := by decide +kernel
theorem dX10_border_9 : decode cX10_border 9 = .ok (.ifnonnull 6, 3) := by decide +kernel
theorem dX10_border_12 : decode cX10_border 12 = .ok (.bipush (-4), 2) := by decide +kernel
theorem dX10_border_14 : decode cX10_border 14 = .ok (.ireturn, 1) := by decide +kernel
theorem dX10_border_15 : decode cX10_border 15 = .ok (.aload_n 0, 1) := by decide +kernel
theorem dX10_border_16 : decode cX10_border 16 = .ok (.getfield 39, 3) := by decide +kernel
theorem dX10_border_19 : decode cX10_border 19 = .ok (.aload_n 1, 1) := by decide +kernel
theorem dX10_border_20 : decode cX10_border 20 = .ok (.invokevirtual 154, 3) := by decide +kernel
theorem dX10_border_23 : decode cX10_border 23 = .ok (.istore_n 2, 1) := by decide +kernel
theorem dX10_border_24 : decode cX10_border 24 = .ok (.iload_n 2, 1) := by decide +kernel
theorem dX10_border_25 : decode cX10_border 25 = .ok (.ifCond .lt 8, 3) := by decide +kernel
theorem dX10_border_28 : decode cX10_border 28 = .ok (.bipush (-10), 2) := by decide +kernel
theorem dX10_border_30 : decode cX10_border 30 = .ok (.iload_n 2, 1) := by decide +kernel
theorem dX10_border_31 : decode cX10_border 31 = .ok (.isub, 1) := by decide +kernel
theorem dX10_border_32 : decode cX10_border 32 = .ok (.ireturn, 1) := by decide +kernel
theorem dX10_border_33 : decode cX10_border 33 = .ok (.aload_n 0, 1) := by decide +kernel
theorem dX10_border_34 : decode cX10_border 34 = .ok (.getfield 12, 3) := by decide +kernel
theorem dX10_border_37 : decode cX10_border 37 = .ok (.aload_n 1, 1) := by decide +kernel
theorem dX10_border_38 : decode cX10_border 38 = .ok (.putfield 158, 3) := by decide +kernel
theorem dX10_border_41 : decode cX10_border 41 = .ok (.aload_n 0, 1) := by decide +kernel
theorem dX10_border_42 : decode cX10_border 42 = .ok (.getfield 35, 3) := by decide +kernel
theorem dX10_border_45 : decode cX10_border 45 = .ok (.invokevirtual 162, 3) := by decide +kernel
theorem dX10_border_48 : decode cX10_border 48 = .ok (.ireturn, 1) := by decide +kernel
theorem dX10_told_0 : decode cX10_told 0 = .ok (.iload_n 1, 1) := by decide +kernel
theorem dX10_told_1 : decode cX10_told 1 = .ok (.tableswitch 107 0 6 #[43, 51, 59, 67, 75, 83, 95], 43) := by decide +kernel
theorem dX10_told_44 : decode cX10_told 44 = .ok (.aload_n 0, 1) := by decide +kernel
theorem dX10_told_45 : decode cX10_told 45 = .ok (.getfield 12, 3) := by decide +kernel
theorem dX10_told_48 : decode cX10_told 48 = .ok (.getfield 166, 3) := by decide +kernel
theorem dX10_told_51 : decode cX10_told 51 = .ok (.ireturn, 1) := by decide +kernel
theorem dX10_told_52 : decode cX10_told 52 = .ok (.aload_n 0, 1) := by decide +kernel
theorem dX10_told_53 : decode cX10_told 53 = .ok (.getfield 12, 3) := by decide +kernel
theorem dX10_told_56 : decode cX10_told 56 = .ok (.invokevirtual 169, 3) := by decide +kernel
theorem dX10_told_59 : decode cX10_told 59 = .ok (.ireturn, 1) := by decide +kernel
theorem dX10_told_60 : decode cX10_told 60 = .ok (.aload_n 0, 1) := by decide +kernel
theorem dX10_told_61 : decode cX10_told 61 = .ok (.getfield 12, 3) := by decide +kernel
theorem dX10_told_64 : decode cX10_told 64 = .ok (.invokevirtual 172, 3) := by decide +kernel
theorem dX10_told_67 : decode cX10_told 67 = .ok (.ireturn, 1) := by decide +kernel
theorem dX10_told_68 : decode cX10_told 68 = .ok (.aload_n 0, 1) := by decide +kernel
theorem dX10_told_69 : decode cX10_told 69 = .ok (.getfield 12, 3) := by decide +kernel
theorem dX10_told_72 : decode cX10_told 72 = .ok (.invokevirtual 175, 3) := by decide +kernel
theorem dX10_told_75 : decode cX10_told 75 = .ok (.ireturn, 1) := by decide +kernel
theorem dX10_told_76 : decode cX10_told 76 = .ok (.aload_n 0, 1) := by decide +kernel
theorem dX10_told_77 : decode cX10_told 77 = .ok (.getfield 12, 3) := by decide +kernel
theorem dX10_told_80 : decode cX10_told 80 = .ok (.invokevirtual 178, 3) := by decide +kernel
theorem dX10_told_83 : decode cX10_told 83 = .ok (.ireturn, 1) := by decide +kernel
theorem dX10_told_84 : decode cX10_told 84 = .ok (.aload_n 0, 1) := by decide +kernel
theorem dX10_told_85 : decode cX10_told 85 = .ok (.getfield 27, 3) := by decide +kernel
theorem dX10_told_88 : decode cX10_told 88 = .ok (.aload_n 0, 1) := by decide +kernel
theorem dX10_told_89 : decode cX10_told 89 = .ok (.getfield 12, 3) := by decide +kernel
theorem dX10_told_92 : decode cX10_told 92 = .ok (.invokevirtual 181, 3) := by decide +kernel
theorem dX10_told_95 : decode cX10_told 95 = .ok (.ireturn, 1) := by decide +kernel
theorem dX10_told_96 : decode cX10_told 96 = .ok (.aload_n 0, 1) := by decide +kernel
theorem dX10_told_97 : decode cX10_told 97 = .ok (.getfield 27, 3) := by decide +kernel
theorem dX10_told_100 : decode cX10_told 100 = .ok (.aload_n 0, 1) := by decide +kernel
theorem dX10_told_101 : decode cX10_told 101 = .ok (.getfield 12, 3) := by decide +kernel
theorem dX10_told_104 : decode cX10_told 104 = .ok (.invokevirtual 185, 3) := by decide +kernel
theorem dX10_told_107 : decode cX10_told 107 = .ok (.ireturn, 1) := by decide +kernel
theorem dX10_told_108 : decode cX10_told 108 = .ok (.aload_n 0, 1) := by decide +kernel
theorem dX10_told_109 : decode cX10_told 109 = .ok (.getfield 12, 3) := by decide +kernel
theorem dX10_told_112 : decode cX10_told 112 = .ok (.iload_n 1, 1) := by decide +kernel
theorem dX10_told_113 : decode cX10_told 113 = .ok (.bipush 10, 2) := by decide +kernel
theorem dX10_told_115 : decode cX10_told 115 = .ok (.isub, 1) := by decide +kernel
theorem dX10_told_116 : decode cX10_told 116 = .ok (.invokevirtual 104, 3) := by decide +kernel
theorem dX10_told_119 : decode cX10_told 119 = .ok (.ifnonnull 7, 3) := by decide +kernel
theorem dX10_told_122 : decode cX10_told 122 = .ok (.iconst (-1), 1) := by decide +kernel
theorem dX10_told_123 : decode cX10_told 123 = .ok (.goto 18, 3) := by decide +kernel
theorem dX10_told_126 : decode cX10_told 126 = .ok (.aload_n 0, 1) := by decide +kernel
theorem dX10_told_127 : decode cX10_told 127 = .ok (.getfield 27, 3) := by decide +kernel
theorem dX10_told_130 : decode cX10_told 130 = .ok (.aload_n 0, 1) := by decide +kernel
theorem dX10_told_131 : decode cX10_told 131 = .ok (.getfield 12, 3) := by decide +kernel
theorem dX10_told_134 : decode cX10_told 134 = .ok (.iload_n 1, 1) := by decide +kernel
theorem dX10_told_135 : decode cX10_told 135 = .ok (.bipush 10, 2) := by decide +kernel
theorem dX10_told_137 : decode cX10_told 137 = .ok (.isub, 1) := by decide +kernel
theorem dX10_told_138 : decode cX10_told 138 = .ok (.invokevirtual 188, 3) := by decide +kernel
theorem dX10_told_141 : decode cX10_told 141 = .ok (.ireturn, 1) := by decide +kernel
theorem dX10_pass_0 : decode cX10_pass 0 = .ok (.iload_n 1, 1) := by decide +kernel
theorem dX10_pass_1 : decode cX10_pass 1 = .ok (.invokestatic 191, 3) := by decide +kernel
theorem dX10_pass_4 : decode cX10_pass 4 = .ok (.ifCond .ne 6, 3) := by decide +kernel
theorem dX10_pass_7 : decode cX10_pass 7 = .ok (.bipush (-2), 2) := by decide +kernel
theorem dX10_pass_9 : decode cX10_pass 9 = .ok (.ireturn, 1) := by decide +kernel
theorem dX10_pass_10 : decode cX10_pass 10 = .ok (.aload_n 0, 1) := by decide +kernel
theorem dX10_pass_11 : decode cX10_pass 11 = .ok (.getfield 12, 3) := by decide +kernel
theorem dX10_pass_14 : decode cX10_pass 14 = .ok (.getfield 166, 3) := by decide +kernel
theorem dX10_pass_17 : decode cX10_pass 17 = .ok (.iload_n 1, 1) := by decide +kernel
theorem dX10_pass_18 : decode cX10_pass 18 = .ok (.iadd, 1) := by decide +kernel
theorem dX10_pass_19 : decode cX10_pass 19 = .ok (.sipush 9999, 3) := by decide +kernel
theorem dX10_pass_22 : decode cX10_pass 22 = .ok (.if_icmp .le 6, 3) := by decide +kernel
theorem dX10_pass_25 : decode cX10_pass 25 = .ok (.bipush (-3), 2) := by decide +kernel
theorem dX10_pass_27 : decode cX10_pass 27 = .ok (.ireturn, 1) := by decide +kernel
theorem dX10_pass_28 : decode cX10_pass 28 = .ok (.aload_n 0, 1) := by decide +kernel
theorem dX10_pass_29 : decode cX10_pass 29 = .ok (.getfield 35, 3) := by decide +kernel
theorem dX10_pass_32 : decode cX10_pass 32 = .ok (.aload_n 0, 1) := by decide +kernel
theorem dX10_pass_33 : decode cX10_pass 33 = .ok (.getfield 12, 3) := by decide +kernel
theorem dX10_pass_36 : decode cX10_pass 36 = .ok (.iload_n 1, 1) := by decide +kernel
theorem dX10_pass_37 : decode cX10_pass 37 = .ok (.invokevirtual 194, 3) := by decide +kernel
theorem dX10_pass_40 : decode cX10_pass 40 = .ok (.aload_n 0, 1) := by decide +kernel
theorem dX10_pass_41 : decode cX10_pass 41 = .ok (.getfield 12, 3) := by decide +kernel
theorem dX10_pass_44 : decode cX10_pass 44 = .ok (.getfield 166, 3) := by decide +kernel
theorem dX10_pass_47 : decode cX10_pass 47 = .ok (.ireturn, 1) := by decide +kernel
theorem dX10_on_0 : decode cX10_on 0 = .ok (.aload_n 0, 1) := by decide +kernel
theorem dX10_on_1 : decode cX10_on 1 = .ok (.getfield 12, 3) := by decide +kernel
theorem dX10_on_4 : decode cX10_on 4 = .ok (.iload_n 2, 1) := by decide +kernel
theorem dX10_on_5 : decode cX10_on 5 = .ok (.bipush 10, 2) := by decide +kernel
theorem dX10_on_7 : decode cX10_on 7 = .ok (.isub, 1) := by decide +kernel
theorem dX10_on_8 : decode cX10_on 8 = .ok (.invokevirtual 71, 3) := by decide +kernel
theorem dX10_on_11 : decode cX10_on 11 = .ok (.astore_n 3, 1) := by decide +kernel
theorem dX10_on_12 : decode cX10_on 12 = .ok (.aload_n 0, 1) := by decide +kernel
theorem dX10_on_13 : decode cX10_on 13 = .ok (.getfield 12, 3) := by decide +kernel
theorem dX10_on_16 : decode cX10_on 16 = .ok (.iload_n 2, 1) := by decide +kernel
theorem dX10_on_17 : decode cX10_on 17 = .ok (.bipush 20, 2) := by decide +kernel
theorem dX10_on_19 : decode cX10_on 19 = .ok (.isub, 1) := by decide +kernel
theorem dX10_on_20 : decode cX10_on 20 = .ok (.invokevirtual 71, 3) := by decide +kernel
theorem dX10_on_23 : decode cX10_on 23 = .ok (.astore 4, 2) := by decide +kernel
theorem dX10_on_25 : decode cX10_on 25 = .ok (.aload_n 0, 1) := by decide +kernel
theorem dX10_on_26 : decode cX10_on 26 = .ok (.getfield 12, 3) := by decide +kernel
theorem dX10_on_29 : decode cX10_on 29 = .ok (.iload_n 2, 1) := by decide +kernel
theorem dX10_on_30 : decode cX10_on 30 = .ok (.bipush 30, 2) := by decide +kernel
theorem dX10_on_32 : decode cX10_on 32 = .ok (.isub, 1) := by decide +kernel
theorem dX10_on_33 : decode cX10_on 33 = .ok (.invokevirtual 104, 3) := by decide +kernel
theorem dX10_on_36 : decode cX10_on 36 = .ok (.astore 5, 2) := by decide +kernel
theorem dX10_on_38 : decode cX10_on 38 = .ok (.iload_n 2, 1) := by decide +kernel
theorem dX10_on_39 : decode cX10_on 39 = .ok (.ifCond .eq 19, 3) := by decide +kernel
theorem dX10_on_42 : decode cX10_on 42 = .ok (.aload_n 3, 1) := by decide +kernel
theorem dX10_on_43 : decode cX10_on 43 = .ok (.ifnonnull 15, 3) := by decide +kernel
theorem dX10_on_46 : decode cX10_on 46 = .ok (.aload 4, 2) := by decide +kernel
theorem dX10_on_48 : decode cX10_on 48 = .ok (.ifnonnull 10, 3) := by decide +kernel
theorem dX10_on_51 : decode cX10_on 51 = .ok (.aload 5, 2) := by decide +kernel
theorem dX10_on_53 : decode cX10_on 53 = .ok (.ifnonnull 5, 3) := by decide +kernel
theorem dX10_on_56 : decode cX10_on 56 = .ok (.iconst (-1), 1) := by decide +kernel
theorem dX10_on_57 : decode cX10_on 57 = .ok (.ireturn, 1) := by decide +kernel
theorem dX10_on_58 : decode cX10_on 58 = .ok (.iload_n 1, 1) := by decide +kernel
theorem dX10_on_59 : decode cX10_on 59 = .ok (.invokestatic 191, 3) := by decide +kernel
theorem dX10_on_62 : decode cX10_on 62 = .ok (.ifCond .ne 6, 3) := by decide +kernel
theorem dX10_on_65 : decode cX10_on 65 = .ok (.bipush (-2), 2) := by decide +kernel
theorem dX10_on_67 : decode cX10_on 67 = .ok (.ireturn, 1) := by decide +kernel
theorem dX10_on_68 : decode cX10_on 68 = .ok (.aload_n 0, 1) := by decide +kernel
theorem dX10_on_69 : decode cX10_on 69 = .ok (.getfield 21, 3) := by decide +kernel
theorem dX10_on_72 : decode cX10_on 72 = .ok (.aload_n 0, 1) := by decide +kernel
theorem dX10_on_73 : decode cX10_on 73 = .ok (.getfield 12, 3) := by decide +kernel
theorem dX10_on_76 : decode cX10_on 76 = .ok (.invokevirtual 198, 3) := by decide +kernel
theorem dX10_on_79 : decode cX10_on 79 = .ok (.aload_n 0, 1) := by decide +kernel
theorem dX10_on_80 : decode cX10_on 80 = .ok (.getfield 35, 3) := by decide +kernel
theorem dX10_on_83 : decode cX10_on 83 = .ok (.aload_n 0, 1) := by decide +kernel
theorem dX10_on_84 : decode cX10_on 84 = .ok (.getfield 21, 3) := by decide +kernel
theorem dX10_on_87 : decode cX10_on 87 = .ok (.iload_n 1, 1) := by decide +kernel
theorem dX10_on_88 : decode cX10_on 88 = .ok (.invokevirtual 194, 3) := by decide +kernel
theorem dX10_on_91 : decode cX10_on 91 = .ok (.aload_n 0, 1) := by decide +kernel
theorem dX10_on_92 : decode cX10_on 92 = .ok (.iload_n 2, 1) := by decide +kernel
theorem dX10_on_93 : decode cX10_on 93 = .ok (.invokevirtual 202, 3) := by decide +kernel
theorem dX10_on_96 : decode cX10_on 96 = .ok (.ireturn, 1) := by decide +kernel
theorem dX10_onTried_0 : decode cX10_onTried 0 = .ok (.aload_n 0, 1) := by decide +kernel
theorem dX10_onTried_1 : decode cX10_onTried 1 = .ok (.getfield 21, 3) := by decide +kernel
theorem dX10_onTried_4 : decode cX10_onTried 4 = .ok (.iload_n 1, 1) := by decide +kernel
theorem dX10_onTried_5 : decode cX10_onTried 5 = .ok (.bipush 10, 2) := by decide +kernel
theorem dX10_onTried_7 : decode cX10_onTried 7 = .ok (.isub, 1) := by decide +kernel
theorem dX10_onTried_8 : decode cX10_onTried 8 = .ok (.invokevirtual 71, 3) := by decide +kernel
theorem dX10_onTried_11 : decode cX10_onTried 11 = .ok (.astore_n 2, 1) := by decide +kernel
theorem dX10_onTried_12 : decode cX10_onTried 12 = .ok (.aload_n 2, 1) := by decide +kernel
theorem dX10_onTried_13 : decode cX10_onTried 13 = .ok (.ifnull 8, 3) := by decide +kernel
theorem dX10_onTried_16 : decode cX10_onTried 16 = .ok (.aload_n 2, 1) := by decide +kernel
theorem dX10_onTried_17 : decode cX10_onTried 17 = .ok (.getfield 84, 3) := by decide +kernel
theorem dX10_onTried_20 : decode cX10_onTried 20 = .ok (.ireturn, 1) := by decide +kernel
theorem dX10_onTried_21 : decode cX10_onTried 21 = .ok (.aload_n 0, 1) := by decide +kernel
theorem dX10_onTried_22 : decode cX10_onTried 22 = .ok (.getfield 21, 3) := by decide +kernel
theorem dX10_onTried_25 : decode cX10_onTried 25 = .ok (.iload_n 1, 1) := by decide +kernel
theorem dX10_onTried_26 : decode cX10_onTried 26 = .ok (.bipush 20, 2) := by decide +kernel
theorem dX10_onTried_28 : decode cX10_onTried 28 = .ok (.isub, 1) := by decide +kernel
theorem dX10_onTried_29 : decode cX10_onTried 29 = .ok (.invokevirtual 71, 3) := by decide +kernel
theorem dX10_onTried_32 : decode cX10_onTried 32 = .ok (.astore_n 3, 1) := by decide +kernel
theorem dX10_onTried_33 : decode cX10_onTried 33 = .ok (.aload_n 3, 1) := by decide +kernel
theorem dX10_onTried_34 : decode cX10_onTried 34 = .ok (.ifnull 8, 3) := by decide +kernel
theorem dX10_onTried_37 : decode cX10_onTried 37 = .ok (.aload_n 3, 1) := by decide +kernel
theorem dX10_onTried_38 : decode cX10_onTried 38 = .ok (.getfield 87, 3) := by decide +kernel
theorem dX10_onTried_41 : decode cX10_onTried 41 = .ok (.ireturn, 1) := by decide +kernel
theorem dX10_onTried_42 : decode cX10_onTried 42 = .ok (.aload_n 0, 1) := by decide +kernel
theorem dX10_onTried_43 : decode cX10_onTried 43 = .ok (.getfield 21, 3) := by decide +kernel
theorem dX10_onTried_46 : decode cX10_onTried 46 = .ok (.iload_n 1, 1) := by decide +kernel
theorem dX10_onTried_47 : decode cX10_onTried 47 = .ok (.bipush 30, 2) := by decide +kernel
theorem dX10_onTried_49 : decode cX10_onTried 49 = .ok (.isub, 1) := by decide +kernel
theorem dX10_onTried_50 : decode cX10_onTried 50 = .ok (.invokevirtual 104, 3) := by decide +kernel
theorem dX10_onTried_53 : decode cX10_onTried 53 = .ok (.astore 4, 2) := by decide +kernel
theorem dX10_onTried_55 : decode cX10_onTried 55 = .ok (.aload 4, 2) := by decide +kernel
theorem dX10_onTried_57 : decode cX10_onTried 57 = .ok (.ifnull 9, 3) := by decide +kernel
theorem dX10_onTried_60 : decode cX10_onTried 60 = .ok (.aload 4, 2) := by decide +kernel
theorem dX10_onTried_62 : decode cX10_onTried 62 = .ok (.getfield 133, 3) := by decide +kernel
theorem dX10_onTried_65 : decode cX10_onTried 65 = .ok (.ireturn, 1) := by decide +kernel
theorem dX10_onTried_66 : decode cX10_onTried 66 = .ok (.aload_n 0, 1) := by decide +kernel
theorem dX10_onTried_67 : decode cX10_onTried 67 = .ok (.getfield 21, 3) := by decide +kernel
theorem dX10_onTried_70 : decode cX10_onTried 70 = .ok (.invokevirtual 172, 3) := by decide +kernel
theorem dX10_onTried_73 : decode cX10_onTried 73 = .ok (.ireturn, 1) := by decide +kernel
theorem dX10_hear_0 : decode cX10_hear 0 = .ok (.iload_n 1, 1) := by decide +kernel
theorem dX10_hear_1 : decode cX10_hear 1 = .ok (.iconst (-1), 1) := by decide +kernel
theorem dX10_hear_2 : decode cX10_hear 2 = .ok (.if_icmp .ne 14, 3) := by decide +kernel
theorem dX10_hear_5 : decode cX10_hear 5 = .ok (.aload_n 0, 1) := by decide +kernel
theorem dX10_hear_6 : decode cX10_hear 6 = .ok (.getfield 12, 3) := by decide +kernel
theorem dX10_hear_9 : decode cX10_hear 9 = .ok (.getfield 205, 3) := by decide +kernel
theorem dX10_hear_12 : decode cX10_hear 12 = .ok (.invokevirtual 209, 3) := by decide +kernel
theorem dX10_hear_15 : decode cX10_hear 15 = .ok (.ireturn, 1) := by decide +kernel
theorem dX10_hear_16 : decode cX10_hear 16 = .ok (.aload_n 0, 1) := by decide +kernel
theorem dX10_hear_17 : decode cX10_hear 17 = .ok (.getfield 12, 3) := by decide +kernel
theorem dX10_hear_20 : decode cX10_hear 20 = .ok (.iload_n 1, 1) := by decide +kernel
theorem dX10_hear_21 : decode cX10_hear 21 = .ok (.invokevirtual 71, 3) := by decide +kernel
theorem dX10_hear_24 : decode cX10_hear 24 = .ok (.ifnull 14, 3) := by decide +kernel
theorem dX10_hear_27 : decode cX10_hear 27 = .ok (.aload_n 0, 1) := by decide +kernel
theorem dX10_hear_28 : decode cX10_hear 28 = .ok (.getfield 12, 3) := by decide +kernel
theorem dX10_hear_31 : decode cX10_hear 31 = .ok (.iload_n 2, 1) := by decide +kernel
theorem dX10_hear_32 : decode cX10_hear 32 = .ok (.invokevirtual 104, 3) := by decide +kernel
theorem dX10_hear_35 : decode cX10_hear 35 = .ok (.ifnonnull 5, 3) := by decide +kernel
theorem dX10_hear_38 : decode cX10_hear 38 = .ok (.iconst (-1), 1) := by decide +kernel
theorem dX10_hear_39 : decode cX10_hear 39 = .ok (.ireturn, 1) := by decide +kernel
theorem dX10_hear_40 : decode cX10_hear 40 = .ok (.aload_n 0, 1) := by decide +kernel
theorem dX10_hear_41 : decode cX10_hear 41 = .ok (.getfield 12, 3) := by decide +kernel
theorem dX10_hear_44 : decode cX10_hear 44 = .ok (.getfield 205, 3) := by decide +kernel
theorem dX10_hear_47 : decode cX10_hear 47 = .ok (.iload_n 1, 1) := by decide +kernel
theorem dX10_hear_48 : decode cX10_hear 48 = .ok (.iload_n 2, 1) := by decide +kernel
theorem dX10_hear_49 : decode cX10_hear 49 = .ok (.iload_n 3, 1) := by decide +kernel
theorem dX10_hear_50 : decode cX10_hear 50 = .ok (.ifCond .eq 7, 3) := by decide +kernel
theorem dX10_hear_53 : decode cX10_hear 53 = .ok (.iconst 1, 1) := by decide +kernel
theorem dX10_hear_54 : decode cX10_hear 54 = .ok (.goto 4, 3) := by decide +kernel
theorem dX10_hear_57 : decode cX10_hear 57 = .ok (.iconst 0, 1) := by decide +kernel
theorem dX10_hear_58 : decode cX10_hear 58 = .ok (.invokevirtual 214, 3) := by decide +kernel
theorem dX10_hear_61 : decode cX10_hear 61 = .ok (.ireturn, 1) := by decide +kernel
theorem dX10_can_0 : decode cX10_can 0 = .ok (.aload_n 0, 1) := by decide +kernel
theorem dX10_can_1 : decode cX10_can 1 = .ok (.getfield 12, 3) := by decide +kernel
theorem dX10_can_4 : decode cX10_can 4 = .ok (.iload_n 1, 1) := by decide +kernel
theorem dX10_can_5 : decode cX10_can 5 = .ok (.invokevirtual 71, 3) := by decide +kernel
theorem dX10_can_8 : decode cX10_can 8 = .ok (.ifnonnull 5, 3) := by decide +kernel
theorem dX10_can_11 : decode cX10_can 11 = .ok (.iconst (-1), 1) := by decide +kernel
theorem dX10_can_12 : decode cX10_can 12 = .ok (.ireturn, 1) := by decide +kernel
theorem dX10_can_13 : decode cX10_can 13 = .ok (.iload_n 2, 1) := by decide +kernel
theorem dX10_can_14 : decode cX10_can 14 = .ok (.lookupswitch 52 #[(0, 26), (1, 39)], 26) := by decide +kernel
theorem dX10_can_40 : decode cX10_can 40 = .ok (.aload_n 0, 1) := by decide +kernel
theorem dX10_can_41 : decode cX10_can 41 = .ok (.getfield 27, 3) := by decide +kernel
theorem dX10_can_44 : decode cX10_can 44 = .ok (.aload_n 0, 1) := by decide +kernel
theorem dX10_can_45 : decode cX10_can 45 = .ok (.getfield 12, 3) := by decide +kernel
theorem dX10_can_48 : decode cX10_can 48 = .ok (.iload_n 1, 1) := by decide +kernel
theorem dX10_can_49 : decode cX10_can 49 = .ok (.invokevirtual 216, 3) := by decide +kernel
theorem dX10_can_52 : decode cX10_can 52 = .ok (.ireturn, 1) := by decide +kernel
theorem dX10_can_53 : decode cX10_can 53 = .ok (.aload_n 0, 1) := by decide +kernel
theorem dX10_can_54 : decode cX10_can 54 = .ok (.getfield 27, 3) := by decide +kernel
theorem dX10_can_57 : decode cX10_can 57 = .ok (.aload_n 0, 1) := by decide +kernel
theorem dX10_can_58 : decode cX10_can 58 = .ok (.getfield 12, 3) := by decide +kernel
theorem dX10_can_61 : decode cX10_can 61 = .ok (.iload_n 1, 1) := by decide +kernel
theorem dX10_can_62 : decode cX10_can 62 = .ok (.invokevirtual 219, 3) := by decide +kernel
theorem dX10_can_65 : decode cX10_can 65 = .ok (.ireturn, 1) := by decide +kernel
theorem dX10_can_66 : decode cX10_can 66 = .ok (.iconst (-1), 1) := by decide +kernel
theorem dX10_can_67 : decode cX10_can 67 = .ok (.ireturn, 1) := by decide +kernel
theorem dX10_odds_0 : decode cX10_odds 0 = .ok (.aload_n 0, 1) := by decide +kernel
theorem dX10_odds_1 : decode cX10_odds 1 = .ok (.getfield 12, 3) := by decide +kernel
theorem dX10_odds_4 : decode cX10_odds 4 = .ok (.iload_n 1, 1) := by decide +kernel
theorem dX10_odds_5 : decode cX10_odds 5 = .ok (.invokevirtual 71, 3) := by decide +kernel
theorem dX10_odds_8 : decode cX10_odds 8 = .ok (.astore 4, 2) := by decide +kernel
theorem dX10_odds_10 : decode cX10_odds 10 = .ok (.aload_n 0, 1) := by decide +kernel
theorem dX10_odds_11 : decode cX10_odds 11 = .ok (.getfield 12, 3) := by decide +kernel
theorem dX10_odds_14 : decode cX10_odds 14 = .ok (.iload_n 2, 1) := by decide +kernel
theorem dX10_odds_15 : decode cX10_odds 15 = .ok (.invokevirtual 104, 3) := by decide +kernel
theorem dX10_odds_18 : decode cX10_odds 18 = .ok (.astore 5, 2) := by decide +kernel
theorem dX10_odds_20 : decode cX10_odds 20 = .ok (.aload 4, 2) := by decide +kernel
theorem dX10_odds_22 : decode cX10_odds 22 = .ok (.ifnull 15, 3) := by decide +kernel
theorem dX10_odds_25 : decode cX10_odds 25 = .ok (.aload 5, 2) := by decide +kernel
theorem dX10_odds_27 : decode cX10_odds 27 = .ok (.ifnull 10, 3) := by decide +kernel
theorem dX10_odds_30 : decode cX10_odds 30 = .ok (.iload_n 3, 1) := by decide +kernel
theorem dX10_odds_31 : decode cX10_odds 31 = .ok (.invokestatic 222, 3) := by decide +kernel
theorem dX10_odds_34 : decode cX10_odds 34 = .ok (.ifCond .ne 7, 3) := by decide +kernel
theorem dX10_odds_37 : decode cX10_odds 37 = .ok (.ldc2_w 225, 3) := by decide +kernel
theorem dX10_odds_40 : decode cX10_odds 40 = .ok (.lreturn, 1) := by decide +kernel
theorem dX10_odds_41 : decode cX10_odds 41 = .ok (.iload_n 3, 1) := by decide +kernel
theorem dX10_odds_42 : decode cX10_odds 42 = .ok (.aload_n 0, 1) := by decide +kernel
theorem dX10_odds_43 : decode cX10_odds 43 = .ok (.getfield 27, 3) := by decide +kernel
theorem dX10_odds_46 : decode cX10_odds 46 = .ok (.aload_n 0, 1) := by decide +kernel
theorem dX10_odds_47 : decode cX10_odds 47 = .ok (.getfield 12, 3) := by decide +kernel
theorem dX10_odds_50 : decode cX10_odds 50 = .ok (.iload_n 1, 1) := by decide +kernel
theorem dX10_odds_51 : decode cX10_odds 51 = .ok (.aload 5, 2) := by decide +kernel
theorem dX10_odds_53 : decode cX10_odds 53 = .ok (.getfield 108, 3) := by decide +kernel
theorem dX10_odds_56 : decode cX10_odds 56 = .ok (.invokevirtual 227, 3) := by decide +kernel
theorem dX10_odds_59 : decode cX10_odds 59 = .ok (.bipush 12, 2) := by decide +kernel
theorem dX10_odds_61 : decode cX10_odds 61 = .ok (.invokestatic 230, 3) := by decide +kernel
theorem dX10_odds_64 : decode cX10_odds 64 = .ok (.lreturn, 1) := by decide +kernel
theorem dX10_mean_0 : decode cX10_mean 0 = .ok (.iload_n 1, 1) := by decide +kernel
theorem dX10_mean_1 : decode cX10_mean 1 = .ok (.invokestatic 222, 3) := by decide +kernel
theorem dX10_mean_4 : decode cX10_mean 4 = .ok (.ifCond .eq 13, 3) := by decide +kernel
theorem dX10_mean_7 : decode cX10_mean 7 = .ok (.aload_n 0, 1) := by decide +kernel
theorem dX10_mean_8 : decode cX10_mean 8 = .ok (.getfield 12, 3) := by decide +kernel
theorem dX10_mean_11 : decode cX10_mean 11 = .ok (.getfield 234, 3) := by decide +kernel
theorem dX10_mean_14 : decode cX10_mean 14 = .ok (.ifCond .ne 7, 3) := by decide +kernel
theorem dX10_mean_17 : decode cX10_mean 17 = .ok (.ldc2_w 225, 3) := by decide +kernel
theorem dX10_mean_20 : decode cX10_mean 20 = .ok (.lreturn, 1) := by decide +kernel
theorem dX10_mean_21 : decode cX10_mean 21 = .ok (.iload_n 1, 1) := by decide +kernel
theorem dX10_mean_22 : decode cX10_mean 22 = .ok (.aload_n 0, 1) := by decide +kernel
theorem dX10_mean_23 : decode cX10_mean 23 = .ok (.getfield 12, 3) := by decide +kernel
theorem dX10_mean_26 : decode cX10_mean 26 = .ok (.invokevirtual 237, 3) := by decide +kernel
theorem dX10_mean_29 : decode cX10_mean 29 = .ok (.aload_n 0, 1) := by decide +kernel
theorem dX10_mean_30 : decode cX10_mean 30 = .ok (.getfield 12, 3) := by decide +kernel
theorem dX10_mean_33 : decode cX10_mean 33 = .ok (.getfield 234, 3) := by decide +kernel
theorem dX10_mean_36 : decode cX10_mean 36 = .ok (.invokestatic 230, 3) := by decide +kernel
theorem dX10_mean_39 : decode cX10_mean 39 = .ok (.lreturn, 1) := by decide +kernel
theorem dX10_plan_0 : decode cX10_plan 0 = .ok (.iload_n 1, 1) := by decide +kernel
theorem dX10_plan_1 : decode cX10_plan 1 = .ok (.iconst (-1), 1) := by decide +kernel
theorem dX10_plan_2 : decode cX10_plan 2 = .ok (.if_icmp .ne 14, 3) := by decide +kernel
theorem dX10_plan_5 : decode cX10_plan 5 = .ok (.aload_n 0, 1) := by decide +kernel
theorem dX10_plan_6 : decode cX10_plan 6 = .ok (.getfield 12, 3) := by decide +kernel
theorem dX10_plan_9 : decode cX10_plan 9 = .ok (.getfield 240, 3) := by decide +kernel
theorem dX10_plan_12 : decode cX10_plan 12 = .ok (.invokevirtual 209, 3) := by decide +kernel
theorem dX10_plan_15 : decode cX10_plan 15 = .ok (.ireturn, 1) := by decide +kernel
theorem dX10_plan_16 : decode cX10_plan 16 = .ok (.aload_n 0, 1) := by decide +kernel
theorem dX10_plan_17 : decode cX10_plan 17 = .ok (.iload_n 1, 1) := by decide +kernel
theorem dX10_plan_18 : decode cX10_plan 18 = .ok (.iload_n 2, 1) := by decide +kernel
theorem dX10_plan_19 : decode cX10_plan 19 = .ok (.invokevirtual 243, 3) := by decide +kernel
theorem dX10_plan_22 : decode cX10_plan 22 = .ok (.ifCond .ne 5, 3) := by decide +kernel
theorem dX10_plan_25 : decode cX10_plan 25 = .ok (.iconst (-1), 1) := by decide +kernel
theorem dX10_plan_26 : decode cX10_plan 26 = .ok (.ireturn, 1) := by decide +kernel
theorem dX10_plan_27 : decode cX10_plan 27 = .ok (.aload_n 0, 1) := by decide +kernel
theorem dX10_plan_28 : decode cX10_plan 28 = .ok (.getfield 12, 3) := by decide +kernel
theorem dX10_plan_31 : decode cX10_plan 31 = .ok (.getfield 240, 3) := by decide +kernel
theorem dX10_plan_34 : decode cX10_plan 34 = .ok (.iload_n 1, 1) := by decide +kernel
theorem dX10_plan_35 : decode cX10_plan 35 = .ok (.iload_n 2, 1) := by decide +kernel
theorem dX10_plan_36 : decode cX10_plan 36 = .ok (.iconst 0, 1) := by decide +kernel
theorem dX10_plan_37 : decode cX10_plan 37 = .ok (.invokevirtual 214, 3) := by decide +kernel
theorem dX10_plan_40 : decode cX10_plan 40 = .ok (.ireturn, 1) := by decide +kernel
theorem dX10_isPlanned_0 : decode cX10_isPlanned 0 = .ok (.iload_n 1, 1) := by decide +kernel
theorem dX10_isPlanned_1 : decode cX10_isPlanned 1 = .ok (.tableswitch 105 0 3 #[31, 33, 71, 88], 31) := by decide +kernel
theorem dX10_isPlanned_32 : decode cX10_isPlanned 32 = .ok (.iconst 1, 1) := by decide +kernel
theorem dX10_isPlanned_33 : decode cX10_isPlanned 33 = .ok (.ireturn, 1) := by decide +kernel
theorem dX10_isPlanned_34 : decode cX10_isPlanned 34 = .ok (.iload_n 2, 1) := by decide +kernel
theorem dX10_isPlanned_35 : decode cX10_isPlanned 35 = .ok (.ifCond .lt 35, 3) := by decide +kernel
theorem dX10_isPlanned_38 : decode cX10_isPlanned 38 = .ok (.aload_n 0, 1) := by decide +kernel
theorem dX10_isPlanned_39 : decode cX10_isPlanned 39 = .ok (.getfield 12, 3) := by decide +kernel
theorem dX10_isPlanned_42 : decode cX10_isPlanned 42 = .ok (.iload_n 2, 1) := by decide +kernel
theorem dX10_isPlanned_43 : decode cX10_isPlanned 43 = .ok (.bipush 10, 2) := by decide +kernel
theorem dX10_isPlanned_45 : decode cX10_isPlanned 45 = .ok (.idiv, 1) := by decide +kernel
theorem dX10_isPlanned_46 : decode cX10_isPlanned 46 = .ok (.invokevirtual 104, 3) := by decide +kernel
theorem dX10_isPlanned_49 : decode cX10_isPlanned 49 = .ok (.ifnull 21, 3) := by decide +kernel
theorem dX10_isPlanned_52 : decode cX10_isPlanned 52 = .ok (.aload_n 0, 1) := by decide +kernel
theorem dX10_isPlanned_53 : decode cX10_isPlanned 53 = .ok (.getfield 12, 3) := by decide +kernel
theorem dX10_isPlanned_56 : decode cX10_isPlanned 56 = .ok (.iload_n 2, 1) := by decide +kernel
theorem dX10_isPlanned_57 : decode cX10_isPlanned 57 = .ok (.bipush 10, 2) := by decide +kernel
theorem dX10_isPlanned_59 : decode cX10_isPlanned 59 = .ok (.irem, 1) := by decide +kernel
theorem dX10_isPlanned_60 : decode cX10_isPlanned 60 = .ok (.invokevirtual 71, 3) := by decide +kernel
theorem dX10_isPlanned_63 : decode cX10_isPlanned 63 = .ok (.ifnull 7, 3) := by decide +kernel
theorem dX10_isPlanned_66 : decode cX10_isPlanned 66 = .ok (.iconst 1, 1) := by decide +kernel
theorem dX10_isPlanned_67 : decode cX10_isPlanned 67 = .ok (.goto 4, 3) := by decide +kernel
theorem dX10_isPlanned_70 : decode cX10_isPlanned 70 = .ok (.iconst 0, 1) := by decide +kernel
theorem dX10_isPlanned_71 : decode cX10_isPlanned 71 = .ok (.ireturn, 1) := by decide +kernel
theorem dX10_isPlanned_72 : decode cX10_isPlanned 72 = .ok (.aload_n 0, 1) := by decide +kernel
theorem dX10_isPlanned_73 : decode cX10_isPlanned 73 = .ok (.getfield 12, 3) := by decide +kernel
theorem dX10_isPlanned_76 : decode cX10_isPlanned 76 = .ok (.iload_n 2, 1) := by decide +kernel
theorem dX10_isPlanned_77 : decode cX10_isPlanned 77 = .ok (.invokevirtual 71, 3) := by decide +kernel
theorem dX10_isPlanned_80 : decode cX10_isPlanned 80 = .ok (.ifnull 7, 3) := by decide +kernel
theorem dX10_isPlanned_83 : decode cX10_isPlanned 83 = .ok (.iconst 1, 1) := by decide +kernel
theorem dX10_isPlanned_84 : decode cX10_isPlanned 84 = .ok (.goto 4, 3) := by decide +kernel
theorem dX10_isPlanned_87 : decode cX10_isPlanned 87 = .ok (.iconst 0, 1) := by decide +kernel
theorem dX10_isPlanned_88 : decode cX10_isPlanned 88 = .ok (.ireturn, 1) := by decide +kernel
theorem dX10_isPlanned_89 : decode cX10_isPlanned 89 = .ok (.aload_n 0, 1) := by decide +kernel
theorem dX10_isPlanned_90 : decode cX10_isPlanned 90 = .ok (.getfield 12, 3) := by decide +kernel
theorem dX10_isPlanned_93 : decode cX10_isPlanned 93 = .ok (.iload_n 2, 1) := by decide +kernel
theorem dX10_isPlanned_94 : decode cX10_isPlanned 94 = .ok (.invokevirtual 104, 3) := by decide +kernel
theorem dX10_isPlanned_97 : decode cX10_isPlanned 97 = .ok (.ifnull 7, 3) := by decide +kernel
theorem dX10_isPlanned_100 : decode cX10_isPlanned 100 = .ok (.iconst 1, 1) := by decide +kernel
theorem dX10_isPlanned_101 : decode cX10_isPlanned 101 = .ok (.goto 4, 3) := by decide +kernel
theorem dX10_isPlanned_104 : decode cX10_isPlanned 104 = .ok (.iconst 0, 1) := by decide +kernel
theorem dX10_isPlanned_105 : decode cX10_isPlanned 105 = .ok (.ireturn, 1) := by decide +kernel
theorem dX10_isPlanned_106 : decode cX10_isPlanned 106 = .ok (.iconst 0, 1) := by decide +kernel
theorem dX10_isPlanned_107 : decode cX10_isPlanned 107 = .ok (.ireturn, 1) := by decide +kernel
theorem dX10_ends_0 : decode cX10_ends 0 = .ok (.iload_n 1, 1) := by decide +kernel
theorem dX10_ends_1 : decode cX10_ends 1 = .ok (.ifCond .eq 10, 3) := by decide +kernel
theorem dX10_ends_4 : decode cX10_ends 4 = .ok (.iload_n 1, 1) := by decide +kernel
theorem dX10_ends_5 : decode cX10_ends 5 = .ok (.iconst 1, 1) := by decide +kernel
theorem dX10_ends_6 : decode cX10_ends 6 = .ok (.if_icmp .eq 5, 3) := by decide +kernel
theorem dX10_ends_9 : decode cX10_ends 9 = .ok (.iconst (-1), 1) := by decide +kernel
theorem dX10_ends_10 : decode cX10_ends 10 = .ok (.ireturn, 1) := by decide +kernel
theorem dX10_ends_11 : decode cX10_ends 11 = .ok (.aload_n 0, 1) := by decide +kernel
theorem dX10_ends_12 : decode cX10_ends 12 = .ok (.getfield 21, 3) := by decide +kernel
theorem dX10_ends_15 : decode cX10_ends 15 = .ok (.aload_n 0, 1) := by decide +kernel
theorem dX10_ends_16 : decode cX10_ends 16 = .ok (.getfield 12, 3) := by decide +kernel
theorem dX10_ends_19 : decode cX10_ends 19 = .ok (.invokevirtual 198, 3) := by decide +kernel
theorem dX10_ends_22 : decode cX10_ends 22 = .ok (.iconst 0, 1) := by decide +kernel
theorem dX10_ends_23 : decode cX10_ends 23 = .ok (.istore_n 2, 1) := by decide +kernel
theorem dX10_ends_24 : decode cX10_ends 24 = .ok (.iload_n 2, 1) := by decide +kernel
theorem dX10_ends_25 : decode cX10_ends 25 = .ok (.aload_n 0, 1) := by decide +kernel
theorem dX10_ends_26 : decode cX10_ends 26 = .ok (.getfield 21, 3) := by decide +kernel
theorem dX10_ends_29 : decode cX10_ends 29 = .ok (.getfield 240, 3) := by decide +kernel
theorem dX10_ends_32 : decode cX10_ends 32 = .ok (.getfield 247, 3) := by decide +kernel
theorem dX10_ends_35 : decode cX10_ends 35 = .ok (.if_icmp .ge 42, 3) := by decide +kernel
theorem dX10_ends_38 : decode cX10_ends 38 = .ok (.aload_n 0, 1) := by decide +kernel
theorem dX10_ends_39 : decode cX10_ends 39 = .ok (.getfield 35, 3) := by decide +kernel
theorem dX10_ends_42 : decode cX10_ends 42 = .ok (.aload_n 0, 1) := by decide +kernel
theorem dX10_ends_43 : decode cX10_ends 43 = .ok (.getfield 21, 3) := by decide +kernel
theorem dX10_ends_46 : decode cX10_ends 46 = .ok (.aload_n 0, 1) := by decide +kernel
theorem dX10_ends_47 : decode cX10_ends 47 = .ok (.getfield 21, 3) := by decide +kernel
theorem dX10_ends_50 : decode cX10_ends 50 = .ok (.getfield 240, 3) := by decide +kernel
theorem dX10_ends_53 : decode cX10_ends 53 = .ok (.iload_n 2, 1) := by decide +kernel
theorem dX10_ends_54 : decode cX10_ends 54 = .ok (.invokevirtual 250, 3) := by decide +kernel
theorem dX10_ends_57 : decode cX10_ends 57 = .ok (.aload_n 0, 1) := by decide +kernel
theorem dX10_ends_58 : decode cX10_ends 58 = .ok (.getfield 21, 3) := by decide +kernel
theorem dX10_ends_61 : decode cX10_ends 61 = .ok (.getfield 240, 3) := by decide +kernel
theorem dX10_ends_64 : decode cX10_ends 64 = .ok (.iload_n 2, 1) := by decide +kernel
theorem dX10_ends_65 : decode cX10_ends 65 = .ok (.invokevirtual 253, 3) := by decide +kernel
theorem dX10_ends_68 : decode cX10_ends 68 = .ok (.invokevirtual 256, 3) := by decide +kernel
theorem dX10_ends_71 : decode cX10_ends 71 = .ok (.iinc 2 1, 3) := by decide +kernel
theorem dX10_ends_74 : decode cX10_ends 74 = .ok (.goto (-50), 3) := by decide +kernel
theorem dX10_ends_77 : decode cX10_ends 77 = .ok (.iload_n 1, 1) := by decide +kernel
theorem dX10_ends_78 : decode cX10_ends 78 = .ok (.ifCond .ne 13, 3) := by decide +kernel
theorem dX10_ends_81 : decode cX10_ends 81 = .ok (.aload_n 0, 1) := by decide +kernel
theorem dX10_ends_82 : decode cX10_ends 82 = .ok (.getfield 21, 3) := by decide +kernel
theorem dX10_ends_85 : decode cX10_ends 85 = .ok (.invokevirtual 172, 3) := by decide +kernel
theorem dX10_ends_88 : decode cX10_ends 88 = .ok (.goto 10, 3) := by decide +kernel
theorem dX10_ends_91 : decode cX10_ends 91 = .ok (.aload_n 0, 1) := by decide +kernel
theorem dX10_ends_92 : decode cX10_ends 92 = .ok (.getfield 21, 3) := by decide +kernel
theorem dX10_ends_95 : decode cX10_ends 95 = .ok (.invokevirtual 175, 3) := by decide +kernel
theorem dX10_ends_98 : decode cX10_ends 98 = .ok (.ireturn, 1) := by decide +kernel
theorem dX10_book_0 : decode cX10_book 0 = .ok (.iload_n 1, 1) := by decide +kernel
theorem dX10_book_1 : decode cX10_book 1 = .ok (.iconst (-1), 1) := by decide +kernel
theorem dX10_book_2 : decode cX10_book 2 = .ok (.if_icmp .ne 14, 3) := by decide +kernel
theorem dX10_book_5 : decode cX10_book 5 = .ok (.aload_n 0, 1) := by decide +kernel
theorem dX10_book_6 : decode cX10_book 6 = .ok (.getfield 12, 3) := by decide +kernel
theorem dX10_book_9 : decode cX10_book 9 = .ok (.getfield 259, 3) := by decide +kernel
theorem dX10_book_12 : decode cX10_book 12 = .ok (.invokevirtual 209, 3) := by decide +kernel
theorem dX10_book_15 : decode cX10_book 15 = .ok (.ireturn, 1) := by decide +kernel
theorem dX10_book_16 : decode cX10_book 16 = .ok (.aload_n 0, 1) := by decide +kernel
theorem dX10_book_17 : decode cX10_book 17 = .ok (.getfield 12, 3) := by decide +kernel
theorem dX10_book_20 : decode cX10_book 20 = .ok (.iload_n 1, 1) := by decide +kernel
theorem dX10_book_21 : decode cX10_book 21 = .ok (.invokevirtual 104, 3) := by decide +kernel
theorem dX10_book_24 : decode cX10_book 24 = .ok (.ifnonnull 5, 3) := by decide +kernel
theorem dX10_book_27 : decode cX10_book 27 = .ok (.iconst (-1), 1) := by decide +kernel
theorem dX10_book_28 : decode cX10_book 28 = .ok (.ireturn, 1) := by decide +kernel
theorem dX10_book_29 : decode cX10_book 29 = .ok (.iload_n 2, 1) := by decide +kernel
theorem dX10_book_30 : decode cX10_book 30 = .ok (.invokestatic 123, 3) := by decide +kernel
theorem dX10_book_33 : decode cX10_book 33 = .ok (.ifCond .ne 6, 3) := by decide +kernel
theorem dX10_book_36 : decode cX10_book 36 = .ok (.bipush (-2), 2) := by decide +kernel
theorem dX10_book_38 : decode cX10_book 38 = .ok (.ireturn, 1) := by decide +kernel
theorem dX10_book_39 : decode cX10_book 39 = .ok (.aload_n 0, 1) := by decide +kernel
theorem dX10_book_40 : decode cX10_book 40 = .ok (.getfield 12, 3) := by decide +kernel
theorem dX10_book_43 : decode cX10_book 43 = .ok (.getfield 259, 3) := by decide +kernel
theorem dX10_book_46 : decode cX10_book 46 = .ok (.iload_n 1, 1) := by decide +kernel
theorem dX10_book_47 : decode cX10_book 47 = .ok (.iload_n 2, 1) := by decide +kernel
theorem dX10_book_48 : decode cX10_book 48 = .ok (.iconst 0, 1) := by decide +kernel
theorem dX10_book_49 : decode cX10_book 49 = .ok (.invokevirtual 214, 3) := by decide +kernel
theorem dX10_book_52 : decode cX10_book 52 = .ok (.ireturn, 1) := by decide +kernel
theorem dX10_looked_0 : decode cX10_looked 0 = .ok (.iconst 0, 1) := by decide +kernel
theorem dX10_looked_1 : decode cX10_looked 1 = .ok (.istore_n 1, 1) := by decide +kernel
theorem dX10_looked_2 : decode cX10_looked 2 = .ok (.iload_n 1, 1) := by decide +kernel
theorem dX10_looked_3 : decode cX10_looked 3 = .ok (.aload_n 0, 1) := by decide +kernel
theorem dX10_looked_4 : decode cX10_looked 4 = .ok (.getfield 12, 3) := by decide +kernel
theorem dX10_looked_7 : decode cX10_looked 7 = .ok (.getfield 259, 3) := by decide +kernel
theorem dX10_looked_10 : decode cX10_looked 10 = .ok (.getfield 247, 3) := by decide +kernel
theorem dX10_looked_13 : decode cX10_looked 13 = .ok (.if_icmp .ge 52, 3) := by decide +kernel
theorem dX10_looked_16 : decode cX10_looked 16 = .ok (.aload_n 0, 1) := by decide +kernel
theorem dX10_looked_17 : decode cX10_looked 17 = .ok (.getfield 12, 3) := by decide +kernel
theorem dX10_looked_20 : decode cX10_looked 20 = .ok (.aload_n 0, 1) := by decide +kernel
theorem dX10_looked_21 : decode cX10_looked 21 = .ok (.getfield 12, 3) := by decide +kernel
theorem dX10_looked_24 : decode cX10_looked 24 = .ok (.getfield 259, 3) := by decide +kernel
theorem dX10_looked_27 : decode cX10_looked 27 = .ok (.iload_n 1, 1) := by decide +kernel
theorem dX10_looked_28 : decode cX10_looked 28 = .ok (.invokevirtual 250, 3) := by decide +kernel
theorem dX10_looked_31 : decode cX10_looked 31 = .ok (.invokevirtual 104, 3) := by decide +kernel
theorem dX10_looked_34 : decode cX10_looked 34 = .ok (.astore_n 2, 1) := by decide +kernel
theorem dX10_looked_35 : decode cX10_looked 35 = .ok (.aload_n 2, 1) := by decide +kernel
theorem dX10_looked_36 : decode cX10_looked 36 = .ok (.ifnull 21, 3) := by decide +kernel
theorem dX10_looked_39 : decode cX10_looked 39 = .ok (.aload_n 2, 1) := by decide +kernel
theorem dX10_looked_40 : decode cX10_looked 40 = .ok (.getfield 130, 3) := by decide +kernel
theorem dX10_looked_43 : decode cX10_looked 43 = .ok (.aload_n 0, 1) := by decide +kernel
theorem dX10_looked_44 : decode cX10_looked 44 = .ok (.getfield 12, 3) := by decide +kernel
theorem dX10_looked_47 : decode cX10_looked 47 = .ok (.getfield 259, 3) := by decide +kernel
theorem dX10_looked_50 : decode cX10_looked 50 = .ok (.iload_n 1, 1) := by decide +kernel
theorem dX10_looked_51 : decode cX10_looked 51 = .ok (.invokevirtual 253, 3) := by decide +kernel
theorem dX10_looked_54 : decode cX10_looked 54 = .ok (.if_icmp .eq 5, 3) := by decide +kernel
theorem dX10_looked_57 : decode cX10_looked 57 = .ok (.iload_n 1, 1) := by decide +kernel
theorem dX10_looked_58 : decode cX10_looked 58 = .ok (.ireturn, 1) := by decide +kernel
theorem dX10_looked_59 : decode cX10_looked 59 = .ok (.iinc 1 1, 3) := by decide +kernel
theorem dX10_looked_62 : decode cX10_looked 62 = .ok (.goto (-60), 3) := by decide +kernel
theorem dX10_looked_65 : decode cX10_looked 65 = .ok (.bipush (-5), 2) := by decide +kernel
theorem dX10_looked_67 : decode cX10_looked 67 = .ok (.ireturn, 1) := by decide +kernel
theorem dX10_judge_0 : decode cX10_judge 0 = .ok (.aload_n 0, 1) := by decide +kernel
theorem dX10_judge_1 : decode cX10_judge 1 = .ok (.iload_n 1, 1) := by decide +kernel
theorem dX10_judge_2 : decode cX10_judge 2 = .ok (.invokevirtual 262, 3) := by decide +kernel
theorem dX10_judge_5 : decode cX10_judge 5 = .ok (.astore_n 3, 1) := by decide +kernel
theorem dX10_judge_6 : decode cX10_judge 6 = .ok (.aload_n 3, 1) := by decide +kernel
theorem dX10_judge_7 : decode cX10_judge 7 = .ok (.ifnonnull 5, 3) := by decide +kernel
theorem dX10_judge_10 : decode cX10_judge 10 = .ok (.iconst (-1), 1) := by decide +kernel
theorem dX10_judge_11 : decode cX10_judge 11 = .ok (.ireturn, 1) := by decide +kernel
theorem dX10_judge_12 : decode cX10_judge 12 = .ok (.aload_n 3, 1) := by decide +kernel
theorem dX10_judge_13 : decode cX10_judge 13 = .ok (.invokevirtual 266, 3) := by decide +kernel
theorem dX10_judge_16 : decode cX10_judge 16 = .ok (.ifCond .eq 14, 3) := by decide +kernel
theorem dX10_judge_19 : decode cX10_judge 19 = .ok (.aload_n 3, 1) := by decide +kernel
theorem dX10_judge_20 : decode cX10_judge 20 = .ok (.getfield 270, 3) := by decide +kernel
theorem dX10_judge_23 : decode cX10_judge 23 = .ok (.iconst 1, 1) := by decide +kernel
theorem dX10_judge_24 : decode cX10_judge 24 = .ok (.if_icmp .eq 6, 3) := by decide +kernel
theorem dX10_judge_27 : decode cX10_judge 27 = .ok (.bipush (-12), 2) := by decide +kernel
theorem dX10_judge_29 : decode cX10_judge 29 = .ok (.ireturn, 1) := by decide +kernel
theorem dX10_judge_30 : decode cX10_judge 30 = .ok (.iconst 0, 1) := by decide +kernel
theorem dX10_judge_31 : decode cX10_judge 31 = .ok (.istore 4, 2) := by decide +kernel
theorem dX10_judge_33 : decode cX10_judge 33 = .ok (.iload 4, 2) := by decide +kernel
theorem dX10_judge_35 : decode cX10_judge 35 = .ok (.aload_n 0, 1) := by decide +kernel
theorem dX10_judge_36 : decode cX10_judge 36 = .ok (.getfield 12, 3) := by decide +kernel
theorem dX10_judge_39 : decode cX10_judge 39 = .ok (.getfield 234, 3) := by decide +kernel
theorem dX10_judge_42 : decode cX10_judge 42 = .ok (.if_icmp .ge 67, 3) := by decide +kernel
theorem dX10_judge_45 : decode cX10_judge 45 = .ok (.aload_n 0, 1) := by decide +kernel
theorem dX10_judge_46 : decode cX10_judge 46 = .ok (.getfield 12, 3) := by decide +kernel
theorem dX10_judge_49 : decode cX10_judge 49 = .ok (.iload 4, 2) := by decide +kernel
theorem dX10_judge_51 : decode cX10_judge 51 = .ok (.invokevirtual 71, 3) := by decide +kernel
theorem dX10_judge_54 : decode cX10_judge 54 = .ok (.astore 5, 2) := by decide +kernel
theorem dX10_judge_56 : decode cX10_judge 56 = .ok (.aload 5, 2) := by decide +kernel
theorem dX10_judge_58 : decode cX10_judge 58 = .ok (.ifnull 18, 3) := by decide +kernel
theorem dX10_judge_61 : decode cX10_judge 61 = .ok (.iload_n 2, 1) := by decide +kernel
theorem dX10_judge_62 : decode cX10_judge 62 = .ok (.ifCond .lt 14, 3) := by decide +kernel
theorem dX10_judge_65 : decode cX10_judge 65 = .ok (.iload_n 2, 1) := by decide +kernel
theorem dX10_judge_66 : decode cX10_judge 66 = .ok (.aload_n 3, 1) := by decide +kernel
theorem dX10_judge_67 : decode cX10_judge 67 = .ok (.getfield 273, 3) := by decide +kernel
theorem dX10_judge_70 : decode cX10_judge 70 = .ok (.iload 4, 2) := by decide +kernel
theorem dX10_judge_72 : decode cX10_judge 72 = .ok (.isub, 1) := by decide +kernel
theorem dX10_judge_73 : decode cX10_judge 73 = .ok (.if_icmp .lt 9, 3) := by decide +kernel
theorem dX10_judge_76 : decode cX10_judge 76 = .ok (.bipush 100, 2) := by decide +kernel
theorem dX10_judge_78 : decode cX10_judge 78 = .ok (.iload 4, 2) := by decide +kernel
theorem dX10_judge_80 : decode cX10_judge 80 = .ok (.iadd, 1) := by decide +kernel
theorem dX10_judge_81 : decode cX10_judge 81 = .ok (.ireturn, 1) := by decide +kernel
theorem dX10_judge_82 : decode cX10_judge 82 = .ok (.aload_n 3, 1) := by decide +kernel
theorem dX10_judge_83 : decode cX10_judge 83 = .ok (.iload_n 2, 1) := by decide +kernel
theorem dX10_judge_84 : decode cX10_judge 84 = .ok (.iload 4, 2) := by decide +kernel
theorem dX10_judge_86 : decode cX10_judge 86 = .ok (.iadd, 1) := by decide +kernel
theorem dX10_judge_87 : decode cX10_judge 87 = .ok (.invokevirtual 274, 3) := by decide +kernel
theorem dX10_judge_90 : decode cX10_judge 90 = .ok (.aload 5, 2) := by decide +kernel
theorem dX10_judge_92 : decode cX10_judge 92 = .ok (.getfield 84, 3) := by decide +kernel
theorem dX10_judge_95 : decode cX10_judge 95 = .ok (.i2l, 1) := by decide +kernel
theorem dX10_judge_96 : decode cX10_judge 96 = .ok (.lcmp, 1) := by decide +kernel
theorem dX10_judge_97 : decode cX10_judge 97 = .ok (.ifCond .eq 6, 3) := by decide +kernel
theorem dX10_judge_100 : decode cX10_judge 100 = .ok (.iload 4, 2) := by decide +kernel
theorem dX10_judge_102 : decode cX10_judge 102 = .ok (.ireturn, 1) := by decide +kernel
theorem dX10_judge_103 : decode cX10_judge 103 = .ok (.iinc 4 1, 3) := by decide +kernel
theorem dX10_judge_106 : decode cX10_judge 106 = .ok (.goto (-73), 3) := by decide +kernel
theorem dX10_judge_109 : decode cX10_judge 109 = .ok (.bipush (-5), 2) := by decide +kernel
theorem dX10_judge_111 : decode cX10_judge 111 = .ok (.ireturn, 1) := by decide +kernel
theorem dX10_image_0 : decode cX10_image 0 = .ok (.aload_n 0, 1) := by decide +kernel
theorem dX10_image_1 : decode cX10_image 1 = .ok (.getfield 18, 3) := by decide +kernel
theorem dX10_image_4 : decode cX10_image 4 = .ok (.aload_n 0, 1) := by decide +kernel
theorem dX10_image_5 : decode cX10_image 5 = .ok (.getfield 12, 3) := by decide +kernel
theorem dX10_image_8 : decode cX10_image 8 = .ok (.invokevirtual 198, 3) := by decide +kernel
theorem dX10_image_11 : decode cX10_image 11 = .ok (.aload_n 0, 1) := by decide +kernel
theorem dX10_image_12 : decode cX10_image 12 = .ok (.iconst 1, 1) := by decide +kernel
theorem dX10_image_13 : decode cX10_image 13 = .ok (.putfield 278, 3) := by decide +kernel
theorem dX10_image_16 : decode cX10_image 16 = .ok (.aload_n 0, 1) := by decide +kernel
theorem dX10_image_17 : decode cX10_image 17 = .ok (.getfield 12, 3) := by decide +kernel
theorem dX10_image_20 : decode cX10_image 20 = .ok (.getfield 234, 3) := by decide +kernel
theorem dX10_image_23 : decode cX10_image 23 = .ok (.ireturn, 1) := by decide +kernel
theorem dX10_undo_0 : decode cX10_undo 0 = .ok (.aload_n 0, 1) := by decide +kernel
theorem dX10_undo_1 : decode cX10_undo 1 = .ok (.getfield 278, 3) := by decide +kernel
theorem dX10_undo_4 : decode cX10_undo 4 = .ok (.ifCond .ne 6, 3) := by decide +kernel
theorem dX10_undo_7 : decode cX10_undo 7 = .ok (.bipush (-3), 2) := by decide +kernel
theorem dX10_undo_9 : decode cX10_undo 9 = .ok (.ireturn, 1) := by decide +kernel
theorem dX10_undo_10 : decode cX10_undo 10 = .ok (.aload_n 0, 1) := by decide +kernel
theorem dX10_undo_11 : decode cX10_undo 11 = .ok (.getfield 12, 3) := by decide +kernel
theorem dX10_undo_14 : decode cX10_undo 14 = .ok (.aload_n 0, 1) := by decide +kernel
theorem dX10_undo_15 : decode cX10_undo 15 = .ok (.getfield 18, 3) := by decide +kernel
theorem dX10_undo_18 : decode cX10_undo 18 = .ok (.invokevirtual 198, 3) := by decide +kernel
theorem dX10_undo_21 : decode cX10_undo 21 = .ok (.aload_n 0, 1) := by decide +kernel
theorem dX10_undo_22 : decode cX10_undo 22 = .ok (.getfield 12, 3) := by decide +kernel
theorem dX10_undo_25 : decode cX10_undo 25 = .ok (.getfield 234, 3) := by decide +kernel
theorem dX10_undo_28 : decode cX10_undo 28 = .ok (.ireturn, 1) := by decide +kernel
theorem dX10_act_0 : decode cX10_act 0 = .ok (.aload_n 0, 1) := by decide +kernel
theorem dX10_act_1 : decode cX10_act 1 = .ok (.getfield 46, 3) := by decide +kernel
theorem dX10_act_4 : decode cX10_act 4 = .ok (.invokevirtual 282, 3) := by decide +kernel
theorem dX10_act_7 : decode cX10_act 7 = .ok (.aload_n 0, 1) := by decide +kernel
theorem dX10_act_8 : decode cX10_act 8 = .ok (.getfield 12, 3) := by decide +kernel
theorem dX10_act_11 : decode cX10_act 11 = .ok (.iload_n 1, 1) := by decide +kernel
theorem dX10_act_12 : decode cX10_act 12 = .ok (.invokevirtual 71, 3) := by decide +kernel
theorem dX10_act_15 : decode cX10_act 15 = .ok (.astore 4, 2) := by decide +kernel
theorem dX10_act_17 : decode cX10_act 17 = .ok (.aload 4, 2) := by decide +kernel
theorem dX10_act_19 : decode cX10_act 19 = .ok (.ifnull 12, 3) := by decide +kernel
theorem dX10_act_22 : decode cX10_act 22 = .ok (.iload_n 2, 1) := by decide +kernel
theorem dX10_act_23 : decode cX10_act 23 = .ok (.ifCond .lt 8, 3) := by decide +kernel
theorem dX10_act_26 : decode cX10_act 26 = .ok (.iload_n 2, 1) := by decide +kernel
theorem dX10_act_27 : decode cX10_act 27 = .ok (.iconst 3, 1) := by decide +kernel
theorem dX10_act_28 : decode cX10_act 28 = .ok (.if_icmp .lt 5, 3) := by decide +kernel
theorem dX10_act_31 : decode cX10_act 31 = .ok (.iconst 0, 1) := by decide +kernel
theorem dX10_act_32 : decode cX10_act 32 = .ok (.ireturn, 1) := by decide +kernel
theorem dX10_act_33 : decode cX10_act 33 = .ok (.aload_n 0, 1) := by decide +kernel
theorem dX10_act_34 : decode cX10_act 34 = .ok (.getfield 46, 3) := by decide +kernel
theorem dX10_act_37 : decode cX10_act 37 = .ok (.aload 4, 2) := by decide +kernel
theorem dX10_act_39 : decode cX10_act 39 = .ok (.iload_n 1, 1) := by decide +kernel
theorem dX10_act_40 : decode cX10_act 40 = .ok (.iload_n 2, 1) := by decide +kernel
theorem dX10_act_41 : decode cX10_act 41 = .ok (.iload_n 3, 1) := by decide +kernel
theorem dX10_act_42 : decode cX10_act 42 = .ok (.invokevirtual 285, 3) := by decide +kernel
theorem dX10_act_45 : decode cX10_act 45 = .ok (.ireturn, 1) := by decide +kernel
theorem dX10_trace_0 : decode cX10_trace 0 = .ok (.aload_n 0, 1) := by decide +kernel
theorem dX10_trace_1 : decode cX10_trace 1 = .ok (.getfield 46, 3) := by decide +kernel
theorem dX10_trace_4 : decode cX10_trace 4 = .ok (.iload_n 1, 1) := by decide +kernel
theorem dX10_trace_5 : decode cX10_trace 5 = .ok (.invokevirtual 289, 3) := by decide +kernel
theorem dX10_trace_8 : decode cX10_trace 8 = .ok (.ireturn, 1) := by decide +kernel
theorem dX10_taken_0 : decode cX10_taken 0 = .ok (.iload_n 2, 1) := by decide +kernel
theorem dX10_taken_1 : decode cX10_taken 1 = .ok (.invokestatic 57, 3) := by decide +kernel
theorem dX10_taken_4 : decode cX10_taken 4 = .ok (.ifCond .ne 6, 3) := by decide +kernel
theorem dX10_taken_7 : decode cX10_taken 7 = .ok (.bipush (-2), 2) := by decide +kernel
theorem dX10_taken_9 : decode cX10_taken 9 = .ok (.ireturn, 1) := by decide +kernel
theorem dX10_taken_10 : decode cX10_taken 10 = .ok (.aload_n 0, 1) := by decide +kernel
theorem dX10_taken_11 : decode cX10_taken 11 = .ok (.getfield 12, 3) := by decide +kernel
theorem dX10_taken_14 : decode cX10_taken 14 = .ok (.iload_n 1, 1) := by decide +kernel
theorem dX10_taken_15 : decode cX10_taken 15 = .ok (.invokevirtual 71, 3) := by decide +kernel
theorem dX10_taken_18 : decode cX10_taken 18 = .ok (.astore_n 3, 1) := by decide +kernel
theorem dX10_taken_19 : decode cX10_taken 19 = .ok (.aload_n 3, 1) := by decide +kernel
theorem dX10_taken_20 : decode cX10_taken 20 = .ok (.ifnonnull 6, 3) := by decide +kernel
theorem dX10_taken_23 : decode cX10_taken 23 = .ok (.bipush (-11), 2) := by decide +kernel
theorem dX10_taken_25 : decode cX10_taken 25 = .ok (.ireturn, 1) := by decide +kernel
theorem dX10_taken_26 : decode cX10_taken 26 = .ok (.aload_n 3, 1) := by decide +kernel
theorem dX10_taken_27 : decode cX10_taken 27 = .ok (.getfield 75, 3) := by decide +kernel
theorem dX10_taken_30 : decode cX10_taken 30 = .ok (.iload_n 2, 1) := by decide +kernel
theorem dX10_taken_31 : decode cX10_taken 31 = .ok (.invokestatic 292, 3) := by decide +kernel
theorem dX10_taken_34 : decode cX10_taken 34 = .ok (.ifCond .eq 10, 3) := by decide +kernel
theorem dX10_taken_37 : decode cX10_taken 37 = .ok (.aload_n 3, 1) := by decide +kernel
theorem dX10_taken_38 : decode cX10_taken 38 = .ok (.getfield 75, 3) := by decide +kernel
theorem dX10_taken_41 : decode cX10_taken 41 = .ok (.goto 5, 3) := by decide +kernel
theorem dX10_taken_44 : decode cX10_taken 44 = .ok (.bipush (-12), 2) := by decide +kernel
theorem dX10_taken_46 : decode cX10_taken 46 = .ok (.ireturn, 1) := by decide +kernel
theorem dX10_count_0 : decode cX10_count 0 = .ok (.iload_n 1, 1) := by decide +kernel
theorem dX10_count_1 : decode cX10_count 1 = .ok (.tableswitch 120 0 7 #[47, 55, 63, 71, 82, 93, 104, 112], 47) := by decide +kernel
theorem dX10_count_48 : decode cX10_count 48 = .ok (.aload_n 0, 1) := by decide +kernel
theorem dX10_count_49 : decode cX10_count 49 = .ok (.getfield 12, 3) := by decide +kernel
theorem dX10_count_52 : decode cX10_count 52 = .ok (.getfield 234, 3) := by decide +kernel
theorem dX10_count_55 : decode cX10_count 55 = .ok (.ireturn, 1) := by decide +kernel
theorem dX10_count_56 : decode cX10_count 56 = .ok (.aload_n 0, 1) := by decide +kernel
theorem dX10_count_57 : decode cX10_count 57 = .ok (.getfield 12, 3) := by decide +kernel
theorem dX10_count_60 : decode cX10_count 60 = .ok (.getfield 295, 3) := by decide +kernel
theorem dX10_count_63 : decode cX10_count 63 = .ok (.ireturn, 1) := by decide +kernel
theorem dX10_count_64 : decode cX10_count 64 = .ok (.aload_n 0, 1) := by decide +kernel
theorem dX10_count_65 : decode cX10_count 65 = .ok (.getfield 35, 3) := by decide +kernel
theorem dX10_count_68 : decode cX10_count 68 = .ok (.getfield 298, 3) := by decide +kernel
theorem dX10_count_71 : decode cX10_count 71 = .ok (.ireturn, 1) := by decide +kernel
theorem dX10_count_72 : decode cX10_count 72 = .ok (.aload_n 0, 1) := by decide +kernel
theorem dX10_count_73 : decode cX10_count 73 = .ok (.getfield 12, 3) := by decide +kernel
theorem dX10_count_76 : decode cX10_count 76 = .ok (.getfield 205, 3) := by decide +kernel
theorem dX10_count_79 : decode cX10_count 79 = .ok (.getfield 247, 3) := by decide +kernel
theorem dX10_count_82 : decode cX10_count 82 = .ok (.ireturn, 1) := by decide +kernel
theorem dX10_count_83 : decode cX10_count 83 = .ok (.aload_n 0, 1) := by decide +kernel
theorem dX10_count_84 : decode cX10_count 84 = .ok (.getfield 12, 3) := by decide +kernel
theorem dX10_count_87 : decode cX10_count 87 = .ok (.getfield 240, 3) := by decide +kernel
theorem dX10_count_90 : decode cX10_count 90 = .ok (.getfield 247, 3) := by decide +kernel
theorem dX10_count_93 : decode cX10_count 93 = .ok (.ireturn, 1) := by decide +kernel
theorem dX10_count_94 : decode cX10_count 94 = .ok (.aload_n 0, 1) := by decide +kernel
theorem dX10_count_95 : decode cX10_count 95 = .ok (.getfield 12, 3) := by decide +kernel
theorem dX10_count_98 : decode cX10_count 98 = .ok (.getfield 259, 3) := by decide +kernel
theorem dX10_count_101 : decode cX10_count 101 = .ok (.getfield 247, 3) := by decide +kernel
theorem dX10_count_104 : decode cX10_count 104 = .ok (.ireturn, 1) := by decide +kernel
theorem dX10_count_105 : decode cX10_count 105 = .ok (.aload_n 0, 1) := by decide +kernel
theorem dX10_count_106 : decode cX10_count 106 = .ok (.getfield 39, 3) := by decide +kernel
theorem dX10_count_109 : decode cX10_count 109 = .ok (.getfield 301, 3) := by decide +kernel
theorem dX10_count_112 : decode cX10_count 112 = .ok (.ireturn, 1) := by decide +kernel
theorem dX10_count_113 : decode cX10_count 113 = .ok (.aload_n 0, 1) := by decide +kernel
theorem dX10_count_114 : decode cX10_count 114 = .ok (.getfield 46, 3) := by decide +kernel
theorem dX10_count_117 : decode cX10_count 117 = .ok (.getfield 304, 3) := by decide +kernel
theorem dX10_count_120 : decode cX10_count 120 = .ok (.ireturn, 1) := by decide +kernel
theorem dX10_count_121 : decode cX10_count 121 = .ok (.bipush (-2), 2) := by decide +kernel
theorem dX10_count_123 : decode cX10_count 123 = .ok (.ireturn, 1) := by decide +kernel
theorem dX10_tape_0 : decode cX10_tape 0 = .ok (.aload_n 0, 1) := by decide +kernel
theorem dX10_tape_1 : decode cX10_tape 1 = .ok (.iload_n 1, 1) := by decide +kernel
theorem dX10_tape_2 : decode cX10_tape 2 = .ok (.invokevirtual 262, 3) := by decide +kernel
theorem dX10_tape_5 : decode cX10_tape 5 = .ok (.astore 4, 2) := by decide +kernel
theorem dX10_tape_7 : decode cX10_tape 7 = .ok (.aload 4, 2) := by decide +kernel
theorem dX10_tape_9 : decode cX10_tape 9 = .ok (.ifnonnull 5, 3) := by decide +kernel
theorem dX10_tape_12 : decode cX10_tape 12 = .ok (.iconst (-1), 1) := by decide +kernel
theorem dX10_tape_13 : decode cX10_tape 13 = .ok (.ireturn, 1) := by decide +kernel
theorem dX10_tape_14 : decode cX10_tape 14 = .ok (.iload_n 2, 1) := by decide +kernel
theorem dX10_tape_15 : decode cX10_tape 15 = .ok (.iconst (-1), 1) := by decide +kernel
theorem dX10_tape_16 : decode cX10_tape 16 = .ok (.if_icmp .lt 8, 3) := by decide +kernel
theorem dX10_tape_19 : decode cX10_tape 19 = .ok (.iload_n 2, 1) := by decide +kernel
theorem dX10_tape_20 : decode cX10_tape 20 = .ok (.iconst 5, 1) := by decide +kernel
theorem dX10_tape_21 : decode cX10_tape 21 = .ok (.if_icmp .lt 6, 3) := by decide +kernel
theorem dX10_tape_24 : decode cX10_tape 24 = .ok (.bipush (-2), 2) := by decide +kernel
theorem dX10_tape_26 : decode cX10_tape 26 = .ok (.ireturn, 1) := by decide +kernel
theorem dX10_tape_27 : decode cX10_tape 27 = .ok (.iload_n 2, 1) := by decide +kernel
theorem dX10_tape_28 : decode cX10_tape 28 = .ok (.iconst (-1), 1) := by decide +kernel
theorem dX10_tape_29 : decode cX10_tape 29 = .ok (.if_icmp .ne 12, 3) := by decide +kernel
theorem dX10_tape_32 : decode cX10_tape 32 = .ok (.aload 4, 2) := by decide +kernel
theorem dX10_tape_34 : decode cX10_tape 34 = .ok (.iconst (-1), 1) := by decide +kernel
theorem dX10_tape_35 : decode cX10_tape 35 = .ok (.iconst 0, 1) := by decide +kernel
theorem dX10_tape_36 : decode cX10_tape 36 = .ok (.invokevirtual 307, 3) := by decide +kernel
theorem dX10_tape_39 : decode cX10_tape 39 = .ok (.iconst 1, 1) := by decide +kernel
theorem dX10_tape_40 : decode cX10_tape 40 = .ok (.ireturn, 1) := by decide +kernel
theorem dX10_tape_41 : decode cX10_tape 41 = .ok (.iload_n 3, 1) := by decide +kernel
theorem dX10_tape_42 : decode cX10_tape 42 = .ok (.bipush 60, 2) := by decide +kernel
theorem dX10_tape_44 : decode cX10_tape 44 = .ok (.if_icmp .le 6, 3) := by decide +kernel
theorem dX10_tape_47 : decode cX10_tape 47 = .ok (.bipush (-2), 2) := by decide +kernel
theorem dX10_tape_49 : decode cX10_tape 49 = .ok (.ireturn, 1) := by decide +kernel
theorem dX10_tape_50 : decode cX10_tape 50 = .ok (.iload_n 3, 1) := by decide +kernel
theorem dX10_tape_51 : decode cX10_tape 51 = .ok (.ifCond .ge 6, 3) := by decide +kernel
theorem dX10_tape_54 : decode cX10_tape 54 = .ok (.bipush (-14), 2) := by decide +kernel
theorem dX10_tape_56 : decode cX10_tape 56 = .ok (.ireturn, 1) := by decide +kernel
theorem dX10_tape_57 : decode cX10_tape 57 = .ok (.aload 4, 2) := by decide +kernel
theorem dX10_tape_59 : decode cX10_tape 59 = .ok (.iload_n 2, 1) := by decide +kernel
theorem dX10_tape_60 : decode cX10_tape 60 = .ok (.iload_n 3, 1) := by decide +kernel
theorem dX10_tape_61 : decode cX10_tape 61 = .ok (.invokevirtual 307, 3) := by decide +kernel
theorem dX10_tape_64 : decode cX10_tape 64 = .ok (.iconst 1, 1) := by decide +kernel
theorem dX10_tape_65 : decode cX10_tape 65 = .ok (.ireturn, 1) := by decide +kernel
theorem dX10_item_0 : decode cX10_item 0 = .ok (.aload_n 0, 1) := by decide +kernel
theorem dX10_item_1 : decode cX10_item 1 = .ok (.iload_n 1, 1) := by decide +kernel
theorem dX10_item_2 : decode cX10_item 2 = .ok (.invokevirtual 262, 3) := by decide +kernel
theorem dX10_item_5 : decode cX10_item 5 = .ok (.astore 5, 2) := by decide +kernel
theorem dX10_item_7 : decode cX10_item 7 = .ok (.aload 5, 2) := by decide +kernel
theorem dX10_item_9 : decode cX10_item 9 = .ok (.ifnonnull 5, 3) := by decide +kernel
theorem dX10_item_12 : decode cX10_item 12 = .ok (.iconst (-1), 1) := by decide +kernel
theorem dX10_item_13 : decode cX10_item 13 = .ok (.ireturn, 1) := by decide +kernel
theorem dX10_item_14 : decode cX10_item 14 = .ok (.aload 5, 2) := by decide +kernel
theorem dX10_item_16 : decode cX10_item 16 = .ok (.invokevirtual 266, 3) := by decide +kernel
theorem dX10_item_19 : decode cX10_item 19 = .ok (.ifCond .ne 6, 3) := by decide +kernel
theorem dX10_item_22 : decode cX10_item 22 = .ok (.bipush (-11), 2) := by decide +kernel
theorem dX10_item_24 : decode cX10_item 24 = .ok (.ireturn, 1) := by decide +kernel
theorem dX10_item_25 : decode cX10_item 25 = .ok (.aload 5, 2) := by decide +kernel
theorem dX10_item_27 : decode cX10_item 27 = .ok (.iload_n 2, 1) := by decide +kernel
theorem dX10_item_28 : decode cX10_item 28 = .ok (.invokevirtual 311, 3) := by decide +kernel
theorem dX10_item_31 : decode cX10_item 31 = .ok (.ifCond .ne 6, 3) := by decide +kernel
theorem dX10_item_34 : decode cX10_item 34 = .ok (.bipush (-13), 2) := by decide +kernel
theorem dX10_item_36 : decode cX10_item 36 = .ok (.ireturn, 1) := by decide +kernel
theorem dX10_item_37 : decode cX10_item 37 = .ok (.aload 5, 2) := by decide +kernel
theorem dX10_item_39 : decode cX10_item 39 = .ok (.iload_n 2, 1) := by decide +kernel
theorem dX10_item_40 : decode cX10_item 40 = .ok (.lload_n 3, 1) := by decide +kernel
theorem dX10_item_41 : decode cX10_item 41 = .ok (.invokevirtual 314, 3) := by decide +kernel
theorem dX10_item_44 : decode cX10_item 44 = .ok (.iconst 1, 1) := by decide +kernel
theorem dX10_item_45 : decode cX10_item 45 = .ok (.ireturn, 1) := by decide +kernel
theorem dX10_read_0 : decode cX10_read 0 = .ok (.aload_n 0, 1) := by decide +kernel
theorem dX10_read_1 : decode cX10_read 1 = .ok (.iload_n 1, 1) := by decide +kernel
theorem dX10_read_2 : decode cX10_read 2 = .ok (.invokevirtual 262, 3) := by decide +kernel
theorem dX10_read_5 : decode cX10_read 5 = .ok (.astore_n 3, 1) := by decide +kernel
theorem dX10_read_6 : decode cX10_read 6 = .ok (.aload_n 3, 1) := by decide +kernel
theorem dX10_read_7 : decode cX10_read 7 = .ok (.ifnull 18, 3) := by decide +kernel
theorem dX10_read_10 : decode cX10_read 10 = .ok (.aload_n 3, 1) := by decide +kernel
theorem dX10_read_11 : decode cX10_read 11 = .ok (.invokevirtual 266, 3) := by decide +kernel
theorem dX10_read_14 : decode cX10_read 14 = .ok (.ifCond .eq 11, 3) := by decide +kernel
theorem dX10_read_17 : decode cX10_read 17 = .ok (.aload_n 3, 1) := by decide +kernel
theorem dX10_read_18 : decode cX10_read 18 = .ok (.iload_n 2, 1) := by decide +kernel
theorem dX10_read_19 : decode cX10_read 19 = .ok (.invokevirtual 311, 3) := by decide +kernel
theorem dX10_read_22 : decode cX10_read 22 = .ok (.ifCond .ne 7, 3) := by decide +kernel
theorem dX10_read_25 : decode cX10_read 25 = .ok (.ldc2_w 225, 3) := by decide +kernel
theorem dX10_read_28 : decode cX10_read 28 = .ok (.lreturn, 1) := by decide +kernel
theorem dX10_read_29 : decode cX10_read 29 = .ok (.aload_n 3, 1) := by decide +kernel
theorem dX10_read_30 : decode cX10_read 30 = .ok (.iload_n 2, 1) := by decide +kernel
theorem dX10_read_31 : decode cX10_read 31 = .ok (.invokevirtual 274, 3) := by decide +kernel
theorem dX10_read_34 : decode cX10_read 34 = .ok (.lreturn, 1) := by decide +kernel
theorem dX10_shift_0 : decode cX10_shift 0 = .ok (.aload_n 0, 1) := by decide +kernel
theorem dX10_shift_1 : decode cX10_shift 1 = .ok (.iload_n 1, 1) := by decide +kernel
theorem dX10_shift_2 : decode cX10_shift 2 = .ok (.invokevirtual 262, 3) := by decide +kernel
theorem dX10_shift_5 : decode cX10_shift 5 = .ok (.astore 6, 2) := by decide +kernel
theorem dX10_shift_7 : decode cX10_shift 7 = .ok (.aload_n 0, 1) := by decide +kernel
theorem dX10_shift_8 : decode cX10_shift 8 = .ok (.iload_n 3, 1) := by decide +kernel
theorem dX10_shift_9 : decode cX10_shift 9 = .ok (.invokevirtual 262, 3) := by decide +kernel
theorem dX10_shift_12 : decode cX10_shift 12 = .ok (.astore 7, 2) := by decide +kernel
theorem dX10_shift_14 : decode cX10_shift 14 = .ok (.aload 6, 2) := by decide +kernel
theorem dX10_shift_16 : decode cX10_shift 16 = .ok (.ifnull 8, 3) := by decide +kernel
theorem dX10_shift_19 : decode cX10_shift 19 = .ok (.aload 7, 2) := by decide +kernel
theorem dX10_shift_21 : decode cX10_shift 21 = .ok (.ifnonnull 5, 3) := by decide +kernel
theorem dX10_shift_24 : decode cX10_shift 24 = .ok (.iconst (-1), 1) := by decide +kernel
theorem dX10_shift_25 : decode cX10_shift 25 = .ok (.ireturn, 1) := by decide +kernel
theorem dX10_shift_26 : decode cX10_shift 26 = .ok (.aload 6, 2) := by decide +kernel
theorem dX10_shift_28 : decode cX10_shift 28 = .ok (.invokevirtual 266, 3) := by decide +kernel
theorem dX10_shift_31 : decode cX10_shift 31 = .ok (.ifCond .eq 11, 3) := by decide +kernel
theorem dX10_shift_34 : decode cX10_shift 34 = .ok (.aload 7, 2) := by decide +kernel
theorem dX10_shift_36 : decode cX10_shift 36 = .ok (.invokevirtual 266, 3) := by decide +kernel
theorem dX10_shift_39 : decode cX10_shift 39 = .ok (.ifCond .ne 6, 3) := by decide +kernel
theorem dX10_shift_42 : decode cX10_shift 42 = .ok (.bipush (-11), 2) := by decide +kernel
theorem dX10_shift_44 : decode cX10_shift 44 = .ok (.ireturn, 1) := by decide +kernel
theorem dX10_shift_45 : decode cX10_shift 45 = .ok (.aload 6, 2) := by decide +kernel
theorem dX10_shift_47 : decode cX10_shift 47 = .ok (.getfield 270, 3) := by decide +kernel
theorem dX10_shift_50 : decode cX10_shift 50 = .ok (.aload 7, 2) := by decide +kernel
theorem dX10_shift_52 : decode cX10_shift 52 = .ok (.getfield 270, 3) := by decide +kernel
theorem dX10_shift_55 : decode cX10_shift 55 = .ok (.if_icmp .eq 6, 3) := by decide +kernel
theorem dX10_shift_58 : decode cX10_shift 58 = .ok (.bipush (-12), 2) := by decide +kernel
theorem dX10_shift_60 : decode cX10_shift 60 = .ok (.ireturn, 1) := by decide +kernel
theorem dX10_shift_61 : decode cX10_shift 61 = .ok (.aload 6, 2) := by decide +kernel
theorem dX10_shift_63 : decode cX10_shift 63 = .ok (.iload_n 2, 1) := by decide +kernel
theorem dX10_shift_64 : decode cX10_shift 64 = .ok (.iload 5, 2) := by decide +kernel
theorem dX10_shift_66 : decode cX10_shift 66 = .ok (.invokevirtual 318, 3) := by decide +kernel
theorem dX10_shift_69 : decode cX10_shift 69 = .ok (.ifCond .eq 15, 3) := by decide +kernel
theorem dX10_shift_72 : decode cX10_shift 72 = .ok (.aload 7, 2) := by decide +kernel
theorem dX10_shift_74 : decode cX10_shift 74 = .ok (.iload 4, 2) := by decide +kernel
theorem dX10_shift_76 : decode cX10_shift 76 = .ok (.iload 5, 2) := by decide +kernel
theorem dX10_shift_78 : decode cX10_shift 78 = .ok (.invokevirtual 318, 3) := by decide +kernel
theorem dX10_shift_81 : decode cX10_shift 81 = .ok (.ifCond .ne 6, 3) := by decide +kernel
theorem dX10_shift_84 : decode cX10_shift 84 = .ok (.bipush (-13), 2) := by decide +kernel
theorem dX10_shift_86 : decode cX10_shift 86 = .ok (.ireturn, 1) := by decide +kernel
theorem dX10_shift_87 : decode cX10_shift 87 = .ok (.aload 6, 2) := by decide +kernel
theorem dX10_shift_89 : decode cX10_shift 89 = .ok (.getfield 321, 3) := by decide +kernel
theorem dX10_shift_92 : decode cX10_shift 92 = .ok (.iload_n 2, 1) := by decide +kernel
theorem dX10_shift_93 : decode cX10_shift 93 = .ok (.aload 7, 2) := by decide +kernel
theorem dX10_shift_95 : decode cX10_shift 95 = .ok (.getfield 321, 3) := by decide +kernel
theorem dX10_shift_98 : decode cX10_shift 98 = .ok (.iload 4, 2) := by decide +kernel
theorem dX10_shift_100 : decode cX10_shift 100 = .ok (.iload 5, 2) := by decide +kernel
theorem dX10_shift_102 : decode cX10_shift 102 = .ok (.invokestatic 325, 3) := by decide +kernel
theorem dX10_shift_105 : decode cX10_shift 105 = .ok (.iload 5, 2) := by decide +kernel
theorem dX10_shift_107 : decode cX10_shift 107 = .ok (.ireturn, 1) := by decide +kernel
theorem dX10_tapeAt_0 : decode cX10_tapeAt 0 = .ok (.iload_n 1, 1) := by decide +kernel
theorem dX10_tapeAt_1 : decode cX10_tapeAt 1 = .ok (.ifCond .lt 12, 3) := by decide +kernel
theorem dX10_tapeAt_4 : decode cX10_tapeAt 4 = .ok (.iload_n 1, 1) := by decide +kernel
theorem dX10_tapeAt_5 : decode cX10_tapeAt 5 = .ok (.aload_n 0, 1) := by decide +kernel
theorem dX10_tapeAt_6 : decode cX10_tapeAt 6 = .ok (.getfield 52, 3) := by decide +kernel
theorem dX10_tapeAt_9 : decode cX10_tapeAt 9 = .ok (.arraylength, 1) := by decide +kernel
theorem dX10_tapeAt_10 : decode cX10_tapeAt 10 = .ok (.if_icmp .lt 7, 3) := by decide +kernel
theorem dX10_tapeAt_13 : decode cX10_tapeAt 13 = .ok (.aconst_null, 1) := by decide +kernel
theorem dX10_tapeAt_14 : decode cX10_tapeAt 14 = .ok (.goto 9, 3) := by decide +kernel
theorem dX10_tapeAt_17 : decode cX10_tapeAt 17 = .ok (.aload_n 0, 1) := by decide +kernel
theorem dX10_tapeAt_18 : decode cX10_tapeAt 18 = .ok (.getfield 52, 3) := by decide +kernel
theorem dX10_tapeAt_21 : decode cX10_tapeAt 21 = .ok (.iload_n 1, 1) := by decide +kernel
theorem dX10_tapeAt_22 : decode cX10_tapeAt 22 = .ok (.aaload, 1) := by decide +kernel
theorem dX10_tapeAt_23 : decode cX10_tapeAt 23 = .ok (.areturn, 1) := by decide +kernel
theorem dX10_isKind_0 : decode cX10_isKind 0 = .ok (.iload_n 0, 1) := by decide +kernel
theorem dX10_isKind_1 : decode cX10_isKind 1 = .ok (.ifCond .lt 13, 3) := by decide +kernel
theorem dX10_isKind_4 : decode cX10_isKind 4 = .ok (.iload_n 0, 1) := by decide +kernel
theorem dX10_isKind_5 : decode cX10_isKind 5 = .ok (.bipush 7, 2) := by decide +kernel
theorem dX10_isKind_7 : decode cX10_isKind 7 = .ok (.if_icmp .ge 7, 3) := by decide +kernel
theorem dX10_isKind_10 : decode cX10_isKind 10 = .ok (.iconst 1, 1) := by decide +kernel
theorem dX10_isKind_11 : decode cX10_isKind 11 = .ok (.goto 4, 3) := by decide +kernel
theorem dX10_isKind_14 : decode cX10_isKind 14 = .ok (.iconst 0, 1) := by decide +kernel
theorem dX10_isKind_15 : decode cX10_isKind 15 = .ok (.ireturn, 1) := by decide +kernel
theorem dX10_isDigit_0 : decode cX10_isDigit 0 = .ok (.iload_n 0, 1) := by decide +kernel
theorem dX10_isDigit_1 : decode cX10_isDigit 1 = .ok (.ifCond .lt 13, 3) := by decide +kernel
theorem dX10_isDigit_4 : decode cX10_isDigit 4 = .ok (.iload_n 0, 1) := by decide +kernel
theorem dX10_isDigit_5 : decode cX10_isDigit 5 = .ok (.bipush 9, 2) := by decide +kernel
theorem dX10_isDigit_7 : decode cX10_isDigit 7 = .ok (.if_icmp .gt 7, 3) := by decide +kernel
theorem dX10_isDigit_10 : decode cX10_isDigit 10 = .ok (.iconst 1, 1) := by decide +kernel
theorem dX10_isDigit_11 : decode cX10_isDigit 11 = .ok (.goto 4, 3) := by decide +kernel
theorem dX10_isDigit_14 : decode cX10_isDigit 14 = .ok (.iconst 0, 1) := by decide +kernel
theorem dX10_isDigit_15 : decode cX10_isDigit 15 = .ok (.ireturn, 1) := by decide +kernel
theorem dX10_isUpTo99_0 : decode cX10_isUpTo99 0 = .ok (.iload_n 0, 1) := by decide +kernel
theorem dX10_isUpTo99_1 : decode cX10_isUpTo99 1 = .ok (.ifCond .lt 13, 3) := by decide +kernel
theorem dX10_isUpTo99_4 : decode cX10_isUpTo99 4 = .ok (.iload_n 0, 1) := by decide +kernel
theorem dX10_isUpTo99_5 : decode cX10_isUpTo99 5 = .ok (.bipush 99, 2) := by decide +kernel
theorem dX10_isUpTo99_7 : decode cX10_isUpTo99 7 = .ok (.if_icmp .gt 7, 3) := by decide +kernel
theorem dX10_isUpTo99_10 : decode cX10_isUpTo99 10 = .ok (.iconst 1, 1) := by decide +kernel
theorem dX10_isUpTo99_11 : decode cX10_isUpTo99 11 = .ok (.goto 4, 3) := by decide +kernel
theorem dX10_isUpTo99_14 : decode cX10_isUpTo99 14 = .ok (.iconst 0, 1) := by decide +kernel
theorem dX10_isUpTo99_15 : decode cX10_isUpTo99 15 = .ok (.ireturn, 1) := by decide +kernel
theorem dX10_isSet_0 : decode cX10_isSet 0 = .ok (.iload_n 0, 1) := by decide +kernel
theorem dX10_isSet_1 : decode cX10_isSet 1 = .ok (.ifCond .lt 14, 3) := by decide +kernel
theorem dX10_isSet_4 : decode cX10_isSet 4 = .ok (.iload_n 0, 1) := by decide +kernel
theorem dX10_isSet_5 : decode cX10_isSet 5 = .ok (.sipush 4096, 3) := by decide +kernel
theorem dX10_isSet_8 : decode cX10_isSet 8 = .ok (.if_icmp .ge 7, 3) := by decide +kernel
theorem dX10_isSet_11 : decode cX10_isSet 11 = .ok (.iconst 1, 1) := by decide +kernel
theorem dX10_isSet_12 : decode cX10_isSet 12 = .ok (.goto 4, 3) := by decide +kernel
theorem dX10_isSet_15 : decode cX10_isSet 15 = .ok (.iconst 0, 1) := by decide +kernel
theorem dX10_isSet_16 : decode cX10_isSet 16 = .ok (.ireturn, 1) := by decide +kernel
theorem dX10_isHours_0 : decode cX10_isHours 0 = .ok (.iload_n 0, 1) := by decide +kernel
theorem dX10_isHours_1 : decode cX10_isHours 1 = .ok (.ifCond .lt 13, 3) := by decide +kernel
theorem dX10_isHours_4 : decode cX10_isHours 4 = .ok (.iload_n 0, 1) := by decide +kernel
theorem dX10_isHours_5 : decode cX10_isHours 5 = .ok (.bipush 60, 2) := by decide +kernel
theorem dX10_isHours_7 : decode cX10_isHours 7 = .ok (.if_icmp .gt 7, 3) := by decide +kernel
theorem dX10_isHours_10 : decode cX10_isHours 10 = .ok (.iconst 1, 1) := by decide +kernel
theorem dX10_isHours_11 : decode cX10_isHours 11 = .ok (.goto 4, 3) := by decide +kernel
theorem dX10_isHours_14 : decode cX10_isHours 14 = .ok (.iconst 0, 1) := by decide +kernel
theorem dX10_isHours_15 : decode cX10_isHours 15 = .ok (.ireturn, 1) := by decide +kernel
theorem dX10_isPart_0 : decode cX10_isPart 0 = .ok (.iload_n 0, 1) := by decide +kernel
theorem dX10_isPart_1 : decode cX10_isPart 1 = .ok (.ifCond .eq 8, 3) := by decide +kernel
theorem dX10_isPart_4 : decode cX10_isPart 4 = .ok (.iload_n 0, 1) := by decide +kernel
theorem dX10_isPart_5 : decode cX10_isPart 5 = .ok (.iconst 1, 1) := by decide +kernel
theorem dX10_isPart_6 : decode cX10_isPart 6 = .ok (.if_icmp .ne 7, 3) := by decide +kernel
theorem dX10_isPart_9 : decode cX10_isPart 9 = .ok (.iconst 1, 1) := by decide +kernel
theorem dX10_isPart_10 : decode cX10_isPart 10 = .ok (.goto 4, 3) := by decide +kernel
theorem dX10_isPart_13 : decode cX10_isPart 13 = .ok (.iconst 0, 1) := by decide +kernel
theorem dX10_isPart_14 : decode cX10_isPart 14 = .ok (.ireturn, 1) := by decide +kernel
theorem dX10_lowest_0 : decode cX10_lowest 0 = .ok (.iload_n 2, 1) := by decide +kernel
theorem dX10_lowest_1 : decode cX10_lowest 1 = .ok (.istore_n 3, 1) := by decide +kernel
theorem dX10_lowest_2 : decode cX10_lowest 2 = .ok (.iload_n 1, 1) := by decide +kernel
theorem dX10_lowest_3 : decode cX10_lowest 3 = .ok (.istore 4, 2) := by decide +kernel
theorem dX10_lowest_5 : decode cX10_lowest 5 = .ok (.iconst 0, 1) := by decide +kernel
theorem dX10_lowest_6 : decode cX10_lowest 6 = .ok (.istore 5, 2) := by decide +kernel
theorem dX10_lowest_8 : decode cX10_lowest 8 = .ok (.iload 5, 2) := by decide +kernel
theorem dX10_lowest_10 : decode cX10_lowest 10 = .ok (.bipush 100, 2) := by decide +kernel
theorem dX10_lowest_12 : decode cX10_lowest 12 = .ok (.if_icmp .ge 27, 3) := by decide +kernel
theorem dX10_lowest_15 : decode cX10_lowest 15 = .ok (.iload 4, 2) := by decide +kernel
theorem dX10_lowest_17 : decode cX10_lowest 17 = .ok (.ifCond .eq 22, 3) := by decide +kernel
theorem dX10_lowest_20 : decode cX10_lowest 20 = .ok (.iload_n 3, 1) := by decide +kernel
theorem dX10_lowest_21 : decode cX10_lowest 21 = .ok (.iload 4, 2) := by decide +kernel
theorem dX10_lowest_23 : decode cX10_lowest 23 = .ok (.irem, 1) := by decide +kernel
theorem dX10_lowest_24 : decode cX10_lowest 24 = .ok (.istore 6, 2) := by decide +kernel
theorem dX10_lowest_26 : decode cX10_lowest 26 = .ok (.iload 4, 2) := by decide +kernel
theorem dX10_lowest_28 : decode cX10_lowest 28 = .ok (.istore_n 3, 1) := by decide +kernel
theorem dX10_lowest_29 : decode cX10_lowest 29 = .ok (.iload 6, 2) := by decide +kernel
theorem dX10_lowest_31 : decode cX10_lowest 31 = .ok (.istore 4, 2) := by decide +kernel
theorem dX10_lowest_33 : decode cX10_lowest 33 = .ok (.iinc 5 1, 3) := by decide +kernel
theorem dX10_lowest_36 : decode cX10_lowest 36 = .ok (.goto (-28), 3) := by decide +kernel
theorem dX10_lowest_39 : decode cX10_lowest 39 = .ok (.iconst 1, 1) := by decide +kernel
theorem dX10_lowest_40 : decode cX10_lowest 40 = .ok (.iload_n 3, 1) := by decide +kernel
theorem dX10_lowest_41 : decode cX10_lowest 41 = .ok (.invokestatic 331, 3) := by decide +kernel
theorem dX10_lowest_44 : decode cX10_lowest 44 = .ok (.istore 5, 2) := by decide +kernel
theorem dX10_lowest_46 : decode cX10_lowest 46 = .ok (.iload_n 0, 1) := by decide +kernel
theorem dX10_lowest_47 : decode cX10_lowest 47 = .ok (.ifCond .ne 11, 3) := by decide +kernel
theorem dX10_lowest_50 : decode cX10_lowest 50 = .ok (.iload_n 1, 1) := by decide +kernel
theorem dX10_lowest_51 : decode cX10_lowest 51 = .ok (.iload 5, 2) := by decide +kernel
theorem dX10_lowest_53 : decode cX10_lowest 53 = .ok (.idiv, 1) := by decide +kernel
theorem dX10_lowest_54 : decode cX10_lowest 54 = .ok (.i2l, 1) := by decide +kernel
theorem dX10_lowest_55 : decode cX10_lowest 55 = .ok (.goto 8, 3) := by decide +kernel
theorem dX10_lowest_58 : decode cX10_lowest 58 = .ok (.iload_n 2, 1) := by decide +kernel
theorem dX10_lowest_59 : decode cX10_lowest 59 = .ok (.iload 5, 2) := by decide +kernel
theorem dX10_lowest_61 : decode cX10_lowest 61 = .ok (.idiv, 1) := by decide +kernel
theorem dX10_lowest_62 : decode cX10_lowest 62 = .ok (.i2l, 1) := by decide +kernel
theorem dX10_lowest_63 : decode cX10_lowest 63 = .ok (.lreturn, 1) := by decide +kernel
theorem dL_law_0 : decode cL_law 0 = .ok (.new 7, 3) := by decide +kernel
theorem dL_law_3 : decode cL_law 3 = .ok (.dup, 1) := by decide +kernel
theorem dL_law_4 : decode cL_law 4 = .ok (.invokespecial 9, 3) := by decide +kernel
theorem dL_law_7 : decode cL_law 7 = .ok (.astore_n 1, 1) := by decide +kernel
theorem dL_law_8 : decode cL_law 8 = .ok (.new 10, 3) := by decide +kernel
theorem dL_law_11 : decode cL_law 11 = .ok (.dup, 1) := by decide +kernel
theorem dL_law_12 : decode cL_law 12 = .ok (.invokespecial 12, 3) := by decide +kernel
theorem dL_law_15 : decode cL_law 15 = .ok (.astore_n 2, 1) := by decide +kernel
theorem dL_law_16 : decode cL_law 16 = .ok (.iconst 0, 1) := by decide +kernel
theorem dL_law_17 : decode cL_law 17 = .ok (.istore_n 3, 1) := by decide +kernel
theorem dL_law_18 : decode cL_law 18 = .ok (.iload_n 3, 1) := by decide +kernel
theorem dL_law_19 : decode cL_law 19 = .ok (.aload_n 0, 1) := by decide +kernel
theorem dL_law_20 : decode cL_law 20 = .ok (.arraylength, 1) := by decide +kernel
theorem dL_law_21 : decode cL_law 21 = .ok (.bipush 6, 2) := by decide +kernel
theorem dL_law_23 : decode cL_law 23 = .ok (.isub, 1) := by decide +kernel
theorem dL_law_24 : decode cL_law 24 = .ok (.if_icmp .gt 1250, 3) := by decide +kernel
theorem dL_law_27 : decode cL_law 27 = .ok (.aload_n 0, 1) := by decide +kernel
theorem dL_law_28 : decode cL_law 28 = .ok (.iload_n 3, 1) := by decide +kernel
theorem dL_law_29 : decode cL_law 29 = .ok (.iaload, 1) := by decide +kernel
theorem dL_law_30 : decode cL_law 30 = .ok (.bipush 63, 2) := by decide +kernel
theorem dL_law_32 : decode cL_law 32 = .ok (.iand, 1) := by decide +kernel
theorem dL_law_33 : decode cL_law 33 = .ok (.tableswitch 1235 0 32 #[147, 190, 223, 256, 289, 322, 355, 388, 421, 464, 487, 500, 523, 546, 579, 638, 671, 715, 739, 772, 795, 828, 841, 874, 887, 900, 943, 966, 999, 1022, 1065, 1138, 1172], 147) := by decide +kernel
theorem dL_law_180 : decode cL_law 180 = .ok (.aload_n 1, 1) := by decide +kernel
theorem dL_law_181 : decode cL_law 181 = .ok (.aload_n 0, 1) := by decide +kernel
theorem dL_law_182 : decode cL_law 182 = .ok (.iload_n 3, 1) := by decide +kernel
theorem dL_law_183 : decode cL_law 183 = .ok (.iconst 1, 1) := by decide +kernel
theorem dL_law_184 : decode cL_law 184 = .ok (.iadd, 1) := by decide +kernel
theorem dL_law_185 : decode cL_law 185 = .ok (.iaload, 1) := by decide +kernel
theorem dL_law_186 : decode cL_law 186 = .ok (.aload_n 0, 1) := by decide +kernel
theorem dL_law_187 : decode cL_law 187 = .ok (.iload_n 3, 1) := by decide +kernel
theorem dL_law_188 : decode cL_law 188 = .ok (.iconst 2, 1) := by decide +kernel
theorem dL_law_189 : decode cL_law 189 = .ok (.iadd, 1) := by decide +kernel
theorem dL_law_190 : decode cL_law 190 = .ok (.iaload, 1) := by decide +kernel
theorem dL_law_191 : decode cL_law 191 = .ok (.aload_n 0, 1) := by decide +kernel
theorem dL_law_192 : decode cL_law 192 = .ok (.iload_n 3, 1) := by decide +kernel
theorem dL_law_193 : decode cL_law 193 = .ok (.iconst 3, 1) := by decide +kernel
theorem dL_law_194 : decode cL_law 194 = .ok (.iadd, 1) := by decide +kernel
theorem dL_law_195 : decode cL_law 195 = .ok (.iaload, 1) := by decide +kernel
theorem dL_law_196 : decode cL_law 196 = .ok (.invokevirtual 13, 3) := by decide +kernel
theorem dL_law_199 : decode cL_law 199 = .ok (.aload_n 2, 1) := by decide +kernel
theorem dL_law_200 : decode cL_law 200 = .ok (.aload_n 0, 1) := by decide +kernel
theorem dL_law_201 : decode cL_law 201 = .ok (.iload_n 3, 1) := by decide +kernel
theorem dL_law_202 : decode cL_law 202 = .ok (.iconst 1, 1) := by decide +kernel
theorem dL_law_203 : decode cL_law 203 = .ok (.iadd, 1) := by decide +kernel
theorem dL_law_204 : decode cL_law 204 = .ok (.iaload, 1) := by decide +kernel
theorem dL_law_205 : decode cL_law 205 = .ok (.aload_n 0, 1) := by decide +kernel
theorem dL_law_206 : decode cL_law 206 = .ok (.iload_n 3, 1) := by decide +kernel
theorem dL_law_207 : decode cL_law 207 = .ok (.iconst 2, 1) := by decide +kernel
theorem dL_law_208 : decode cL_law 208 = .ok (.iadd, 1) := by decide +kernel
theorem dL_law_209 : decode cL_law 209 = .ok (.iaload, 1) := by decide +kernel
theorem dL_law_210 : decode cL_law 210 = .ok (.aload_n 0, 1) := by decide +kernel
theorem dL_law_211 : decode cL_law 211 = .ok (.iload_n 3, 1) := by decide +kernel
theorem dL_law_212 : decode cL_law 212 = .ok (.iconst 3, 1) := by decide +kernel
theorem dL_law_213 : decode cL_law 213 = .ok (.iadd, 1) := by decide +kernel
theorem dL_law_214 : decode cL_law 214 = .ok (.iaload, 1) := by decide +kernel
theorem dL_law_215 : decode cL_law 215 = .ok (.invokevirtual 17, 3) := by decide +kernel
theorem dL_law_218 : decode cL_law 218 = .ok (.if_icmp .eq 1050, 3) := by decide +kernel
theorem dL_law_221 : decode cL_law 221 = .ok (.iconst 0, 1) := by decide +kernel
theorem dL_law_222 : decode cL_law 222 = .ok (.ireturn, 1) := by decide +kernel
theorem dL_law_223 : decode cL_law 223 = .ok (.aload_n 1, 1) := by decide +kernel
theorem dL_law_224 : decode cL_law 224 = .ok (.aload_n 0, 1) := by decide +kernel
theorem dL_law_225 : decode cL_law 225 = .ok (.iload_n 3, 1) := by decide +kernel
theorem dL_law_226 : decode cL_law 226 = .ok (.iconst 1, 1) := by decide +kernel
theorem dL_law_227 : decode cL_law 227 = .ok (.iadd, 1) := by decide +kernel
theorem dL_law_228 : decode cL_law 228 = .ok (.iaload, 1) := by decide +kernel
theorem dL_law_229 : decode cL_law 229 = .ok (.aload_n 0, 1) := by decide +kernel
theorem dL_law_230 : decode cL_law 230 = .ok (.iload_n 3, 1) := by decide +kernel
theorem dL_law_231 : decode cL_law 231 = .ok (.iconst 2, 1) := by decide +kernel
theorem dL_law_232 : decode cL_law 232 = .ok (.iadd, 1) := by decide +kernel
theorem dL_law_233 : decode cL_law 233 = .ok (.iaload, 1) := by decide +kernel
theorem dL_law_234 : decode cL_law 234 = .ok (.invokevirtual 18, 3) := by decide +kernel
theorem dL_law_237 : decode cL_law 237 = .ok (.aload_n 2, 1) := by decide +kernel
theorem dL_law_238 : decode cL_law 238 = .ok (.aload_n 0, 1) := by decide +kernel
theorem dL_law_239 : decode cL_law 239 = .ok (.iload_n 3, 1) := by decide +kernel
theorem dL_law_240 : decode cL_law 240 = .ok (.iconst 1, 1) := by decide +kernel
theorem dL_law_241 : decode cL_law 241 = .ok (.iadd, 1) := by decide +kernel
theorem dL_law_242 : decode cL_law 242 = .ok (.iaload, 1) := by decide +kernel
theorem dL_law_243 : decode cL_law 243 = .ok (.aload_n 0, 1) := by decide +kernel
theorem dL_law_244 : decode cL_law 244 = .ok (.iload_n 3, 1) := by decide +kernel
theorem dL_law_245 : decode cL_law 245 = .ok (.iconst 2, 1) := by decide +kernel
theorem dL_law_246 : decode cL_law 246 = .ok (.iadd, 1) := by decide +kernel
theorem dL_law_247 : decode cL_law 247 = .ok (.iaload, 1) := by decide +kernel
theorem dL_law_248 : decode cL_law 248 = .ok (.invokevirtual 22, 3) := by decide +kernel
theorem dL_law_251 : decode cL_law 251 = .ok (.if_icmp .eq 1017, 3) := by decide +kernel
theorem dL_law_254 : decode cL_law 254 = .ok (.iconst 0, 1) := by decide +kernel
theorem dL_law_255 : decode cL_law 255 = .ok (.ireturn, 1) := by decide +kernel
theorem dL_law_256 : decode cL_law 256 = .ok (.aload_n 1, 1) := by decide +kernel
theorem dL_law_257 : decode cL_law 257 = .ok (.aload_n 0, 1) := by decide +kernel
theorem dL_law_258 : decode cL_law 258 = .ok (.iload_n 3, 1) := by decide +kernel
theorem dL_law_259 : decode cL_law 259 = .ok (.iconst 1, 1) := by decide +kernel
theorem dL_law_260 : decode cL_law 260 = .ok (.iadd, 1) := by decide +kernel
theorem dL_law_261 : decode cL_law 261 = .ok (.iaload, 1) := by decide +kernel
theorem dL_law_262 : decode cL_law 262 = .ok (.aload_n 0, 1) := by decide +kernel
theorem dL_law_263 : decode cL_law 263 = .ok (.iload_n 3, 1) := by decide +kernel
theorem dL_law_264 : decode cL_law 264 = .ok (.iconst 2, 1) := by decide +kernel
theorem dL_law_265 : decode cL_law 265 = .ok (.iadd, 1) := by decide +kernel
theorem dL_law_266 : decode cL_law 266 = .ok (.iaload, 1) := by decide +kernel
theorem dL_law_267 : decode cL_law 267 = .ok (.invokevirtual 23, 3) := by decide +kernel
theorem dL_law_270 : decode cL_law 270 = .ok (.aload_n 2, 1) := by decide +kernel
theorem dL_law_271 : decode cL_law 271 = .ok (.aload_n 0, 1) := by decide +kernel
theorem dL_law_272 : decode cL_law 272 = .ok (.iload_n 3, 1) := by decide +kernel
theorem dL_law_273 : decode cL_law 273 = .ok (.iconst 1, 1) := by decide +kernel
theorem dL_law_274 : decode cL_law 274 = .ok (.iadd, 1) := by decide +kernel
theorem dL_law_275 : decode cL_law 275 = .ok (.iaload, 1) := by decide +kernel
theorem dL_law_276 : decode cL_law 276 = .ok (.aload_n 0, 1) := by decide +kernel
theorem dL_law_277 : decode cL_law 277 = .ok (.iload_n 3, 1) := by decide +kernel
theorem dL_law_278 : decode cL_law 278 = .ok (.iconst 2, 1) := by decide +kernel
theorem dL_law_279 : decode cL_law 279 = .ok (.iadd, 1) := by decide +kernel
theorem dL_law_280 : decode cL_law 280 = .ok (.iaload, 1) := by decide +kernel
theorem dL_law_281 : decode cL_law 281 = .ok (.invokevirtual 26, 3) := by decide +kernel
theorem dL_law_284 : decode cL_law 284 = .ok (.if_icmp .eq 984, 3) := by decide +kernel
theorem dL_law_287 : decode cL_law 287 = .ok (.iconst 0, 1) := by decide +kernel
theorem dL_law_288 : decode cL_law 288 = .ok (.ireturn, 1) := by decide +kernel
theorem dL_law_289 : decode cL_law 289 = .ok (.aload_n 1, 1) := by decide +kernel
theorem dL_law_290 : decode cL_law 290 = .ok (.aload_n 0, 1) := by decide +kernel
theorem dL_law_291 : decode cL_law 291 = .ok (.iload_n 3, 1) := by decide +kernel
theorem dL_law_292 : decode cL_law 292 = .ok (.iconst 1, 1) := by decide +kernel
theorem dL_law_293 : decode cL_law 293 = .ok (.iadd, 1) := by decide +kernel
theorem dL_law_294 : decode cL_law 294 = .ok (.iaload, 1) := by decide +kernel
theorem dL_law_295 : decode cL_law 295 = .ok (.aload_n 0, 1) := by decide +kernel
theorem dL_law_296 : decode cL_law 296 = .ok (.iload_n 3, 1) := by decide +kernel
theorem dL_law_297 : decode cL_law 297 = .ok (.iconst 2, 1) := by decide +kernel
theorem dL_law_298 : decode cL_law 298 = .ok (.iadd, 1) := by decide +kernel
theorem dL_law_299 : decode cL_law 299 = .ok (.iaload, 1) := by decide +kernel
theorem dL_law_300 : decode cL_law 300 = .ok (.invokevirtual 27, 3) := by decide +kernel
theorem dL_law_303 : decode cL_law 303 = .ok (.aload_n 2, 1) := by decide +kernel
theorem dL_law_304 : decode cL_law 304 = .ok (.aload_n 0, 1) := by decide +kernel
theorem dL_law_305 : decode cL_law 305 = .ok (.iload_n 3, 1) := by decide +kernel
theorem dL_law_306 : decode cL_law 306 = .ok (.iconst 1, 1) := by decide +kernel
theorem dL_law_307 : decode cL_law 307 = .ok (.iadd, 1) := by decide +kernel
theorem dL_law_308 : decode cL_law 308 = .ok (.iaload, 1) := by decide +kernel
theorem dL_law_309 : decode cL_law 309 = .ok (.aload_n 0, 1) := by decide +kernel
theorem dL_law_310 : decode cL_law 310 = .ok (.iload_n 3, 1) := by decide +kernel
theorem dL_law_311 : decode cL_law 311 = .ok (.iconst 2, 1) := by decide +kernel
theorem dL_law_312 : decode cL_law 312 = .ok (.iadd, 1) := by decide +kernel
theorem dL_law_313 : decode cL_law 313 = .ok (.iaload, 1) := by decide +kernel
theorem dL_law_314 : decode cL_law 314 = .ok (.invokevirtual 30, 3) := by decide +kernel
theorem dL_law_317 : decode cL_law 317 = .ok (.if_icmp .eq 951, 3) := by decide +kernel
theorem dL_law_320 : decode cL_law 320 = .ok (.iconst 0, 1) := by decide +kernel
theorem dL_law_321 : decode cL_law 321 = .ok (.ireturn, 1) := by decide +kernel
theorem dL_law_322 : decode cL_law 322 = .ok (.aload_n 1, 1) := by decide +kernel
theorem dL_law_323 : decode cL_law 323 = .ok (.aload_n 0, 1) := by decide +kernel
theorem dL_law_324 : decode cL_law 324 = .ok (.iload_n 3, 1) := by decide +kernel
theorem dL_law_325 : decode cL_law 325 = .ok (.iconst 1, 1) := by decide +kernel
theorem dL_law_326 : decode cL_law 326 = .ok (.iadd, 1) := by decide +kernel
theorem dL_law_327 : decode cL_law 327 = .ok (.iaload, 1) := by decide +kernel
theorem dL_law_328 : decode cL_law 328 = .ok (.aload_n 0, 1) := by decide +kernel
theorem dL_law_329 : decode cL_law 329 = .ok (.iload_n 3, 1) := by decide +kernel
theorem dL_law_330 : decode cL_law 330 = .ok (.iconst 2, 1) := by decide +kernel
theorem dL_law_331 : decode cL_law 331 = .ok (.iadd, 1) := by decide +kernel
theorem dL_law_332 : decode cL_law 332 = .ok (.iaload, 1) := by decide +kernel
theorem dL_law_333 : decode cL_law 333 = .ok (.invokevirtual 31, 3) := by decide +kernel
theorem dL_law_336 : decode cL_law 336 = .ok (.aload_n 2, 1) := by decide +kernel
theorem dL_law_337 : decode cL_law 337 = .ok (.aload_n 0, 1) := by decide +kernel
theorem dL_law_338 : decode cL_law 338 = .ok (.iload_n 3, 1) := by decide +kernel
theorem dL_law_339 : decode cL_law 339 = .ok (.iconst 1, 1) := by decide +kernel
theorem dL_law_340 : decode cL_law 340 = .ok (.iadd, 1) := by decide +kernel
theorem dL_law_341 : decode cL_law 341 = .ok (.iaload, 1) := by decide +kernel
theorem dL_law_342 : decode cL_law 342 = .ok (.aload_n 0, 1) := by decide +kernel
theorem dL_law_343 : decode cL_law 343 = .ok (.iload_n 3, 1) := by decide +kernel
theorem dL_law_344 : decode cL_law 344 = .ok (.iconst 2, 1) := by decide +kernel
theorem dL_law_345 : decode cL_law 345 = .ok (.iadd, 1) := by decide +kernel
theorem dL_law_346 : decode cL_law 346 = .ok (.iaload, 1) := by decide +kernel
theorem dL_law_347 : decode cL_law 347 = .ok (.invokevirtual 34, 3) := by decide +kernel
theorem dL_law_350 : decode cL_law 350 = .ok (.if_icmp .eq 918, 3) := by decide +kernel
theorem dL_law_353 : decode cL_law 353 = .ok (.iconst 0, 1) := by decide +kernel
theorem dL_law_354 : decode cL_law 354 = .ok (.ireturn, 1) := by decide +kernel
theorem dL_law_355 : decode cL_law 355 = .ok (.aload_n 1, 1) := by decide +kernel
theorem dL_law_356 : decode cL_law 356 = .ok (.aload_n 0, 1) := by decide +kernel
theorem dL_law_357 : decode cL_law 357 = .ok (.iload_n 3, 1) := by decide +kernel
theorem dL_law_358 : decode cL_law 358 = .ok (.iconst 1, 1) := by decide +kernel
theorem dL_law_359 : decode cL_law 359 = .ok (.iadd, 1) := by decide +kernel
theorem dL_law_360 : decode cL_law 360 = .ok (.iaload, 1) := by decide +kernel
theorem dL_law_361 : decode cL_law 361 = .ok (.aload_n 0, 1) := by decide +kernel
theorem dL_law_362 : decode cL_law 362 = .ok (.iload_n 3, 1) := by decide +kernel
theorem dL_law_363 : decode cL_law 363 = .ok (.iconst 2, 1) := by decide +kernel
theorem dL_law_364 : decode cL_law 364 = .ok (.iadd, 1) := by decide +kernel
theorem dL_law_365 : decode cL_law 365 = .ok (.iaload, 1) := by decide +kernel
theorem dL_law_366 : decode cL_law 366 = .ok (.invokevirtual 35, 3) := by decide +kernel
theorem dL_law_369 : decode cL_law 369 = .ok (.aload_n 2, 1) := by decide +kernel
theorem dL_law_370 : decode cL_law 370 = .ok (.aload_n 0, 1) := by decide +kernel
theorem dL_law_371 : decode cL_law 371 = .ok (.iload_n 3, 1) := by decide +kernel
theorem dL_law_372 : decode cL_law 372 = .ok (.iconst 1, 1) := by decide +kernel
theorem dL_law_373 : decode cL_law 373 = .ok (.iadd, 1) := by decide +kernel
theorem dL_law_374 : decode cL_law 374 = .ok (.iaload, 1) := by decide +kernel
theorem dL_law_375 : decode cL_law 375 = .ok (.aload_n 0, 1) := by decide +kernel
theorem dL_law_376 : decode cL_law 376 = .ok (.iload_n 3, 1) := by decide +kernel
theorem dL_law_377 : decode cL_law 377 = .ok (.iconst 2, 1) := by decide +kernel
theorem dL_law_378 : decode cL_law 378 = .ok (.iadd, 1) := by decide +kernel
theorem dL_law_379 : decode cL_law 379 = .ok (.iaload, 1) := by decide +kernel
theorem dL_law_380 : decode cL_law 380 = .ok (.invokevirtual 38, 3) := by decide +kernel
theorem dL_law_383 : decode cL_law 383 = .ok (.if_icmp .eq 885, 3) := by decide +kernel
theorem dL_law_386 : decode cL_law 386 = .ok (.iconst 0, 1) := by decide +kernel
theorem dL_law_387 : decode cL_law 387 = .ok (.ireturn, 1) := by decide +kernel
theorem dL_law_388 : decode cL_law 388 = .ok (.aload_n 1, 1) := by decide +kernel
theorem dL_law_389 : decode cL_law 389 = .ok (.aload_n 0, 1) := by decide +kernel
theorem dL_law_390 : decode cL_law 390 = .ok (.iload_n 3, 1) := by decide +kernel
theorem dL_law_391 : decode cL_law 391 = .ok (.iconst 1, 1) := by decide +kernel
theorem dL_law_392 : decode cL_law 392 = .ok (.iadd, 1) := by decide +kernel
theorem dL_law_393 : decode cL_law 393 = .ok (.iaload, 1) := by decide +kernel
theorem dL_law_394 : decode cL_law 394 = .ok (.aload_n 0, 1) := by decide +kernel
theorem dL_law_395 : decode cL_law 395 = .ok (.iload_n 3, 1) := by decide +kernel
theorem dL_law_396 : decode cL_law 396 = .ok (.iconst 2, 1) := by decide +kernel
theorem dL_law_397 : decode cL_law 397 = .ok (.iadd, 1) := by decide +kernel
theorem dL_law_398 : decode cL_law 398 = .ok (.iaload, 1) := by decide +kernel
theorem dL_law_399 : decode cL_law 399 = .ok (.invokevirtual 39, 3) := by decide +kernel
theorem dL_law_402 : decode cL_law 402 = .ok (.aload_n 2, 1) := by decide +kernel
theorem dL_law_403 : decode cL_law 403 = .ok (.aload_n 0, 1) := by decide +kernel
theorem dL_law_404 : decode cL_law 404 = .ok (.iload_n 3, 1) := by decide +kernel
theorem dL_law_405 : decode cL_law 405 = .ok (.iconst 1, 1) := by decide +kernel
theorem dL_law_406 : decode cL_law 406 = .ok (.iadd, 1) := by decide +kernel
theorem dL_law_407 : decode cL_law 407 = .ok (.iaload, 1) := by decide +kernel
theorem dL_law_408 : decode cL_law 408 = .ok (.aload_n 0, 1) := by decide +kernel
theorem dL_law_409 : decode cL_law 409 = .ok (.iload_n 3, 1) := by decide +kernel
theorem dL_law_410 : decode cL_law 410 = .ok (.iconst 2, 1) := by decide +kernel
theorem dL_law_411 : decode cL_law 411 = .ok (.iadd, 1) := by decide +kernel
theorem dL_law_412 : decode cL_law 412 = .ok (.iaload, 1) := by decide +kernel
theorem dL_law_413 : decode cL_law 413 = .ok (.invokevirtual 42, 3) := by decide +kernel
theorem dL_law_416 : decode cL_law 416 = .ok (.if_icmp .eq 852, 3) := by decide +kernel
theorem dL_law_419 : decode cL_law 419 = .ok (.iconst 0, 1) := by decide +kernel
theorem dL_law_420 : decode cL_law 420 = .ok (.ireturn, 1) := by decide +kernel
theorem dL_law_421 : decode cL_law 421 = .ok (.aload_n 1, 1) := by decide +kernel
theorem dL_law_422 : decode cL_law 422 = .ok (.aload_n 0, 1) := by decide +kernel
theorem dL_law_423 : decode cL_law 423 = .ok (.iload_n 3, 1) := by decide +kernel
theorem dL_law_424 : decode cL_law 424 = .ok (.iconst 1, 1) := by decide +kernel
theorem dL_law_425 : decode cL_law 425 = .ok (.iadd, 1) := by decide +kernel
theorem dL_law_426 : decode cL_law 426 = .ok (.iaload, 1) := by decide +kernel
theorem dL_law_427 : decode cL_law 427 = .ok (.aload_n 0, 1) := by decide +kernel
theorem dL_law_428 : decode cL_law 428 = .ok (.iload_n 3, 1) := by decide +kernel
theorem dL_law_429 : decode cL_law 429 = .ok (.iconst 2, 1) := by decide +kernel
theorem dL_law_430 : decode cL_law 430 = .ok (.iadd, 1) := by decide +kernel
theorem dL_law_431 : decode cL_law 431 = .ok (.iaload, 1) := by decide +kernel
theorem dL_law_432 : decode cL_law 432 = .ok (.invokevirtual 43, 3) := by decide +kernel
theorem dL_law_435 : decode cL_law 435 = .ok (.aload_n 2, 1) := by decide +kernel
theorem dL_law_436 : decode cL_law 436 = .ok (.aload_n 0, 1) := by decide +kernel
theorem dL_law_437 : decode cL_law 437 = .ok (.iload_n 3, 1) := by decide +kernel
theorem dL_law_438 : decode cL_law 438 = .ok (.iconst 1, 1) := by decide +kernel
theorem dL_law_439 : decode cL_law 439 = .ok (.iadd, 1) := by decide +kernel
theorem dL_law_440 : decode cL_law 440 = .ok (.iaload, 1) := by decide +kernel
theorem dL_law_441 : decode cL_law 441 = .ok (.aload_n 0, 1) := by decide +kernel
theorem dL_law_442 : decode cL_law 442 = .ok (.iload_n 3, 1) := by decide +kernel
theorem dL_law_443 : decode cL_law 443 = .ok (.iconst 2, 1) := by decide +kernel
theorem dL_law_444 : decode cL_law 444 = .ok (.iadd, 1) := by decide +kernel
theorem dL_law_445 : decode cL_law 445 = .ok (.iaload, 1) := by decide +kernel
theorem dL_law_446 : decode cL_law 446 = .ok (.invokevirtual 46, 3) := by decide +kernel
theorem dL_law_449 : decode cL_law 449 = .ok (.if_icmp .eq 819, 3) := by decide +kernel
theorem dL_law_452 : decode cL_law 452 = .ok (.iconst 0, 1) := by decide +kernel
theorem dL_law_453 : decode cL_law 453 = .ok (.ireturn, 1) := by decide +kernel
theorem dL_law_454 : decode cL_law 454 = .ok (.aload_n 1, 1) := by decide +kernel
theorem dL_law_455 : decode cL_law 455 = .ok (.aload_n 0, 1) := by decide +kernel
theorem dL_law_456 : decode cL_law 456 = .ok (.iload_n 3, 1) := by decide +kernel
theorem dL_law_457 : decode cL_law 457 = .ok (.iconst 1, 1) := by decide +kernel
theorem dL_law_458 : decode cL_law 458 = .ok (.iadd, 1) := by decide +kernel
theorem dL_law_459 : decode cL_law 459 = .ok (.iaload, 1) := by decide +kernel
theorem dL_law_460 : decode cL_law 460 = .ok (.aload_n 0, 1) := by decide +kernel
theorem dL_law_461 : decode cL_law 461 = .ok (.iload_n 3, 1) := by decide +kernel
theorem dL_law_462 : decode cL_law 462 = .ok (.iconst 2, 1) := by decide +kernel
theorem dL_law_463 : decode cL_law 463 = .ok (.iadd, 1) := by decide +kernel
theorem dL_law_464 : decode cL_law 464 = .ok (.iaload, 1) := by decide +kernel
theorem dL_law_465 : decode cL_law 465 = .ok (.aload_n 0, 1) := by decide +kernel
theorem dL_law_466 : decode cL_law 466 = .ok (.iload_n 3, 1) := by decide +kernel
theorem dL_law_467 : decode cL_law 467 = .ok (.iconst 3, 1) := by decide +kernel
theorem dL_law_468 : decode cL_law 468 = .ok (.iadd, 1) := by decide +kernel
theorem dL_law_469 : decode cL_law 469 = .ok (.iaload, 1) := by decide +kernel
theorem dL_law_470 : decode cL_law 470 = .ok (.invokevirtual 47, 3) := by decide +kernel
theorem dL_law_473 : decode cL_law 473 = .ok (.aload_n 2, 1) := by decide +kernel
theorem dL_law_474 : decode cL_law 474 = .ok (.aload_n 0, 1) := by decide +kernel
theorem dL_law_475 : decode cL_law 475 = .ok (.iload_n 3, 1) := by decide +kernel
theorem dL_law_476 : decode cL_law 476 = .ok (.iconst 1, 1) := by decide +kernel
theorem dL_law_477 : decode cL_law 477 = .ok (.iadd, 1) := by decide +kernel
theorem dL_law_478 : decode cL_law 478 = .ok (.iaload, 1) := by decide +kernel
theorem dL_law_479 : decode cL_law 479 = .ok (.aload_n 0, 1) := by decide +kernel
theorem dL_law_480 : decode cL_law 480 = .ok (.iload_n 3, 1) := by decide +kernel
theorem dL_law_481 : decode cL_law 481 = .ok (.iconst 2, 1) := by decide +kernel
theorem dL_law_482 : decode cL_law 482 = .ok (.iadd, 1) := by decide +kernel
theorem dL_law_483 : decode cL_law 483 = .ok (.iaload, 1) := by decide +kernel
theorem dL_law_484 : decode cL_law 484 = .ok (.aload_n 0, 1) := by decide +kernel
theorem dL_law_485 : decode cL_law 485 = .ok (.iload_n 3, 1) := by decide +kernel
theorem dL_law_486 : decode cL_law 486 = .ok (.iconst 3, 1) := by decide +kernel
theorem dL_law_487 : decode cL_law 487 = .ok (.iadd, 1) := by decide +kernel
theorem dL_law_488 : decode cL_law 488 = .ok (.iaload, 1) := by decide +kernel
theorem dL_law_489 : decode cL_law 489 = .ok (.invokevirtual 50, 3) := by decide +kernel
theorem dL_law_492 : decode cL_law 492 = .ok (.if_icmp .eq 776, 3) := by decide +kernel
theorem dL_law_495 : decode cL_law 495 = .ok (.iconst 0, 1) := by decide +kernel
theorem dL_law_496 : decode cL_law 496 = .ok (.ireturn, 1) := by decide +kernel
theorem dL_law_497 : decode cL_law 497 = .ok (.aload_n 1, 1) := by decide +kernel
theorem dL_law_498 : decode cL_law 498 = .ok (.aload_n 0, 1) := by decide +kernel
theorem dL_law_499 : decode cL_law 499 = .ok (.iload_n 3, 1) := by decide +kernel
theorem dL_law_500 : decode cL_law 500 = .ok (.iconst 1, 1) := by decide +kernel
theorem dL_law_501 : decode cL_law 501 = .ok (.iadd, 1) := by decide +kernel
theorem dL_law_502 : decode cL_law 502 = .ok (.iaload, 1) := by decide +kernel
theorem dL_law_503 : decode cL_law 503 = .ok (.invokevirtual 51, 3) := by decide +kernel
theorem dL_law_506 : decode cL_law 506 = .ok (.aload_n 2, 1) := by decide +kernel
theorem dL_law_507 : decode cL_law 507 = .ok (.aload_n 0, 1) := by decide +kernel
theorem dL_law_508 : decode cL_law 508 = .ok (.iload_n 3, 1) := by decide +kernel
theorem dL_law_509 : decode cL_law 509 = .ok (.iconst 1, 1) := by decide +kernel
theorem dL_law_510 : decode cL_law 510 = .ok (.iadd, 1) := by decide +kernel
theorem dL_law_511 : decode cL_law 511 = .ok (.iaload, 1) := by decide +kernel
theorem dL_law_512 : decode cL_law 512 = .ok (.invokevirtual 55, 3) := by decide +kernel
theorem dL_law_515 : decode cL_law 515 = .ok (.if_icmp .eq 753, 3) := by decide +kernel
theorem dL_law_518 : decode cL_law 518 = .ok (.iconst 0, 1) := by decide +kernel
theorem dL_law_519 : decode cL_law 519 = .ok (.ireturn, 1) := by decide +kernel
theorem dL_law_520 : decode cL_law 520 = .ok (.aload_n 1, 1) := by decide +kernel
theorem dL_law_521 : decode cL_law 521 = .ok (.invokevirtual 56, 3) := by decide +kernel
theorem dL_law_524 : decode cL_law 524 = .ok (.aload_n 2, 1) := by decide +kernel
theorem dL_law_525 : decode cL_law 525 = .ok (.invokevirtual 60, 3) := by decide +kernel
theorem dL_law_528 : decode cL_law 528 = .ok (.if_icmp .eq 740, 3) := by decide +kernel
theorem dL_law_531 : decode cL_law 531 = .ok (.iconst 0, 1) := by decide +kernel
theorem dL_law_532 : decode cL_law 532 = .ok (.ireturn, 1) := by decide +kernel
theorem dL_law_533 : decode cL_law 533 = .ok (.aload_n 1, 1) := by decide +kernel
theorem dL_law_534 : decode cL_law 534 = .ok (.aload_n 0, 1) := by decide +kernel
theorem dL_law_535 : decode cL_law 535 = .ok (.iload_n 3, 1) := by decide +kernel
theorem dL_law_536 : decode cL_law 536 = .ok (.iconst 1, 1) := by decide +kernel
theorem dL_law_537 : decode cL_law 537 = .ok (.iadd, 1) := by decide +kernel
theorem dL_law_538 : decode cL_law 538 = .ok (.iaload, 1) := by decide +kernel
theorem dL_law_539 : decode cL_law 539 = .ok (.invokevirtual 61, 3) := by decide +kernel
theorem dL_law_542 : decode cL_law 542 = .ok (.aload_n 2, 1) := by decide +kernel
theorem dL_law_543 : decode cL_law 543 = .ok (.aload_n 0, 1) := by decide +kernel
theorem dL_law_544 : decode cL_law 544 = .ok (.iload_n 3, 1) := by decide +kernel
theorem dL_law_545 : decode cL_law 545 = .ok (.iconst 1, 1) := by decide +kernel
theorem dL_law_546 : decode cL_law 546 = .ok (.iadd, 1) := by decide +kernel
theorem dL_law_547 : decode cL_law 547 = .ok (.iaload, 1) := by decide +kernel
theorem dL_law_548 : decode cL_law 548 = .ok (.invokevirtual 64, 3) := by decide +kernel
theorem dL_law_551 : decode cL_law 551 = .ok (.if_icmp .eq 717, 3) := by decide +kernel
theorem dL_law_554 : decode cL_law 554 = .ok (.iconst 0, 1) := by decide +kernel
theorem dL_law_555 : decode cL_law 555 = .ok (.ireturn, 1) := by decide +kernel
theorem dL_law_556 : decode cL_law 556 = .ok (.aload_n 1, 1) := by decide +kernel
theorem dL_law_557 : decode cL_law 557 = .ok (.aload_n 0, 1) := by decide +kernel
theorem dL_law_558 : decode cL_law 558 = .ok (.iload_n 3, 1) := by decide +kernel
theorem dL_law_559 : decode cL_law 559 = .ok (.iconst 1, 1) := by decide +kernel
theorem dL_law_560 : decode cL_law 560 = .ok (.iadd, 1) := by decide +kernel
theorem dL_law_561 : decode cL_law 561 = .ok (.iaload, 1) := by decide +kernel
theorem dL_law_562 : decode cL_law 562 = .ok (.invokevirtual 65, 3) := by decide +kernel
theorem dL_law_565 : decode cL_law 565 = .ok (.aload_n 2, 1) := by decide +kernel
theorem dL_law_566 : decode cL_law 566 = .ok (.aload_n 0, 1) := by decide +kernel
theorem dL_law_567 : decode cL_law 567 = .ok (.iload_n 3, 1) := by decide +kernel
theorem dL_law_568 : decode cL_law 568 = .ok (.iconst 1, 1) := by decide +kernel
theorem dL_law_569 : decode cL_law 569 = .ok (.iadd, 1) := by decide +kernel
theorem dL_law_570 : decode cL_law 570 = .ok (.iaload, 1) := by decide +kernel
theorem dL_law_571 : decode cL_law 571 = .ok (.invokevirtual 68, 3) := by decide +kernel
theorem dL_law_574 : decode cL_law 574 = .ok (.if_icmp .eq 694, 3) := by decide +kernel
theorem dL_law_577 : decode cL_law 577 = .ok (.iconst 0, 1) := by decide +kernel
theorem dL_law_578 : decode cL_law 578 = .ok (.ireturn, 1) := by decide +kernel
theorem dL_law_579 : decode cL_law 579 = .ok (.aload_n 1, 1) := by decide +kernel
theorem dL_law_580 : decode cL_law 580 = .ok (.aload_n 0, 1) := by decide +kernel
theorem dL_law_581 : decode cL_law 581 = .ok (.iload_n 3, 1) := by decide +kernel
theorem dL_law_582 : decode cL_law 582 = .ok (.iconst 1, 1) := by decide +kernel
theorem dL_law_583 : decode cL_law 583 = .ok (.iadd, 1) := by decide +kernel
theorem dL_law_584 : decode cL_law 584 = .ok (.iaload, 1) := by decide +kernel
theorem dL_law_585 : decode cL_law 585 = .ok (.aload_n 0, 1) := by decide +kernel
theorem dL_law_586 : decode cL_law 586 = .ok (.iload_n 3, 1) := by decide +kernel
theorem dL_law_587 : decode cL_law 587 = .ok (.iconst 2, 1) := by decide +kernel
theorem dL_law_588 : decode cL_law 588 = .ok (.iadd, 1) := by decide +kernel
theorem dL_law_589 : decode cL_law 589 = .ok (.iaload, 1) := by decide +kernel
theorem dL_law_590 : decode cL_law 590 = .ok (.invokevirtual 69, 3) := by decide +kernel
theorem dL_law_593 : decode cL_law 593 = .ok (.aload_n 2, 1) := by decide +kernel
theorem dL_law_594 : decode cL_law 594 = .ok (.aload_n 0, 1) := by decide +kernel
theorem dL_law_595 : decode cL_law 595 = .ok (.iload_n 3, 1) := by decide +kernel
theorem dL_law_596 : decode cL_law 596 = .ok (.iconst 1, 1) := by decide +kernel
theorem dL_law_597 : decode cL_law 597 = .ok (.iadd, 1) := by decide +kernel
theorem dL_law_598 : decode cL_law 598 = .ok (.iaload, 1) := by decide +kernel
theorem dL_law_599 : decode cL_law 599 = .ok (.aload_n 0, 1) := by decide +kernel
theorem dL_law_600 : decode cL_law 600 = .ok (.iload_n 3, 1) := by decide +kernel
theorem dL_law_601 : decode cL_law 601 = .ok (.iconst 2, 1) := by decide +kernel
theorem dL_law_602 : decode cL_law 602 = .ok (.iadd, 1) := by decide +kernel
theorem dL_law_603 : decode cL_law 603 = .ok (.iaload, 1) := by decide +kernel
theorem dL_law_604 : decode cL_law 604 = .ok (.invokevirtual 72, 3) := by decide +kernel
theorem dL_law_607 : decode cL_law 607 = .ok (.if_icmp .eq 661, 3) := by decide +kernel
theorem dL_law_610 : decode cL_law 610 = .ok (.iconst 0, 1) := by decide +kernel
theorem dL_law_611 : decode cL_law 611 = .ok (.ireturn, 1) := by decide +kernel
theorem dL_law_612 : decode cL_law 612 = .ok (.aload_n 1, 1) := by decide +kernel
theorem dL_law_613 : decode cL_law 613 = .ok (.aload_n 0, 1) := by decide +kernel
theorem dL_law_614 : decode cL_law 614 = .ok (.iload_n 3, 1) := by decide +kernel
theorem dL_law_615 : decode cL_law 615 = .ok (.iconst 1, 1) := by decide +kernel
theorem dL_law_616 : decode cL_law 616 = .ok (.iadd, 1) := by decide +kernel
theorem dL_law_617 : decode cL_law 617 = .ok (.iaload, 1) := by decide +kernel
theorem dL_law_618 : decode cL_law 618 = .ok (.aload_n 0, 1) := by decide +kernel
theorem dL_law_619 : decode cL_law 619 = .ok (.iload_n 3, 1) := by decide +kernel
theorem dL_law_620 : decode cL_law 620 = .ok (.iconst 2, 1) := by decide +kernel
theorem dL_law_621 : decode cL_law 621 = .ok (.iadd, 1) := by decide +kernel
theorem dL_law_622 : decode cL_law 622 = .ok (.iaload, 1) := by decide +kernel
theorem dL_law_623 : decode cL_law 623 = .ok (.aload_n 0, 1) := by decide +kernel
theorem dL_law_624 : decode cL_law 624 = .ok (.iload_n 3, 1) := by decide +kernel
theorem dL_law_625 : decode cL_law 625 = .ok (.iconst 3, 1) := by decide +kernel
theorem dL_law_626 : decode cL_law 626 = .ok (.iadd, 1) := by decide +kernel
theorem dL_law_627 : decode cL_law 627 = .ok (.iaload, 1) := by decide +kernel
theorem dL_law_628 : decode cL_law 628 = .ok (.ifCond .eq 7, 3) := by decide +kernel
theorem dL_law_631 : decode cL_law 631 = .ok (.iconst 1, 1) := by decide +kernel
theorem dL_law_632 : decode cL_law 632 = .ok (.goto 4, 3) := by decide +kernel
theorem dL_law_635 : decode cL_law 635 = .ok (.iconst 0, 1) := by decide +kernel
theorem dL_law_636 : decode cL_law 636 = .ok (.invokevirtual 73, 3) := by decide +kernel
theorem dL_law_639 : decode cL_law 639 = .ok (.aload_n 2, 1) := by decide +kernel
theorem dL_law_640 : decode cL_law 640 = .ok (.aload_n 0, 1) := by decide +kernel
theorem dL_law_641 : decode cL_law 641 = .ok (.iload_n 3, 1) := by decide +kernel
theorem dL_law_642 : decode cL_law 642 = .ok (.iconst 1, 1) := by decide +kernel
theorem dL_law_643 : decode cL_law 643 = .ok (.iadd, 1) := by decide +kernel
theorem dL_law_644 : decode cL_law 644 = .ok (.iaload, 1) := by decide +kernel
theorem dL_law_645 : decode cL_law 645 = .ok (.aload_n 0, 1) := by decide +kernel
theorem dL_law_646 : decode cL_law 646 = .ok (.iload_n 3, 1) := by decide +kernel
theorem dL_law_647 : decode cL_law 647 = .ok (.iconst 2, 1) := by decide +kernel
theorem dL_law_648 : decode cL_law 648 = .ok (.iadd, 1) := by decide +kernel
theorem dL_law_649 : decode cL_law 649 = .ok (.iaload, 1) := by decide +kernel
theorem dL_law_650 : decode cL_law 650 = .ok (.aload_n 0, 1) := by decide +kernel
theorem dL_law_651 : decode cL_law 651 = .ok (.iload_n 3, 1) := by decide +kernel
theorem dL_law_652 : decode cL_law 652 = .ok (.iconst 3, 1) := by decide +kernel
theorem dL_law_653 : decode cL_law 653 = .ok (.iadd, 1) := by decide +kernel
theorem dL_law_654 : decode cL_law 654 = .ok (.iaload, 1) := by decide +kernel
theorem dL_law_655 : decode cL_law 655 = .ok (.ifCond .eq 7, 3) := by decide +kernel
theorem dL_law_658 : decode cL_law 658 = .ok (.iconst 1, 1) := by decide +kernel
theorem dL_law_659 : decode cL_law 659 = .ok (.goto 4, 3) := by decide +kernel
theorem dL_law_662 : decode cL_law 662 = .ok (.iconst 0, 1) := by decide +kernel
theorem dL_law_663 : decode cL_law 663 = .ok (.invokevirtual 77, 3) := by decide +kernel
theorem dL_law_666 : decode cL_law 666 = .ok (.if_icmp .eq 602, 3) := by decide +kernel
theorem dL_law_669 : decode cL_law 669 = .ok (.iconst 0, 1) := by decide +kernel
theorem dL_law_670 : decode cL_law 670 = .ok (.ireturn, 1) := by decide +kernel
theorem dL_law_671 : decode cL_law 671 = .ok (.aload_n 1, 1) := by decide +kernel
theorem dL_law_672 : decode cL_law 672 = .ok (.aload_n 0, 1) := by decide +kernel
theorem dL_law_673 : decode cL_law 673 = .ok (.iload_n 3, 1) := by decide +kernel
theorem dL_law_674 : decode cL_law 674 = .ok (.iconst 1, 1) := by decide +kernel
theorem dL_law_675 : decode cL_law 675 = .ok (.iadd, 1) := by decide +kernel
theorem dL_law_676 : decode cL_law 676 = .ok (.iaload, 1) := by decide +kernel
theorem dL_law_677 : decode cL_law 677 = .ok (.aload_n 0, 1) := by decide +kernel
theorem dL_law_678 : decode cL_law 678 = .ok (.iload_n 3, 1) := by decide +kernel
theorem dL_law_679 : decode cL_law 679 = .ok (.iconst 2, 1) := by decide +kernel
theorem dL_law_680 : decode cL_law 680 = .ok (.iadd, 1) := by decide +kernel
theorem dL_law_681 : decode cL_law 681 = .ok (.iaload, 1) := by decide +kernel
theorem dL_law_682 : decode cL_law 682 = .ok (.invokevirtual 78, 3) := by decide +kernel
theorem dL_law_685 : decode cL_law 685 = .ok (.aload_n 2, 1) := by decide +kernel
theorem dL_law_686 : decode cL_law 686 = .ok (.aload_n 0, 1) := by decide +kernel
theorem dL_law_687 : decode cL_law 687 = .ok (.iload_n 3, 1) := by decide +kernel
theorem dL_law_688 : decode cL_law 688 = .ok (.iconst 1, 1) := by decide +kernel
theorem dL_law_689 : decode cL_law 689 = .ok (.iadd, 1) := by decide +kernel
theorem dL_law_690 : decode cL_law 690 = .ok (.iaload, 1) := by decide +kernel
theorem dL_law_691 : decode cL_law 691 = .ok (.aload_n 0, 1) := by decide +kernel
theorem dL_law_692 : decode cL_law 692 = .ok (.iload_n 3, 1) := by decide +kernel
theorem dL_law_693 : decode cL_law 693 = .ok (.iconst 2, 1) := by decide +kernel
theorem dL_law_694 : decode cL_law 694 = .ok (.iadd, 1) := by decide +kernel
theorem dL_law_695 : decode cL_law 695 = .ok (.iaload, 1) := by decide +kernel
theorem dL_law_696 : decode cL_law 696 = .ok (.invokevirtual 81, 3) := by decide +kernel
theorem dL_law_699 : decode cL_law 699 = .ok (.if_icmp .eq 569, 3) := by decide +kernel
theorem dL_law_702 : decode cL_law 702 = .ok (.iconst 0, 1) := by decide +kernel
theorem dL_law_703 : decode cL_law 703 = .ok (.ireturn, 1) := by decide +kernel
theorem dL_law_704 : decode cL_law 704 = .ok (.aload_n 1, 1) := by decide +kernel
theorem dL_law_705 : decode cL_law 705 = .ok (.aload_n 0, 1) := by decide +kernel
theorem dL_law_706 : decode cL_law 706 = .ok (.iload_n 3, 1) := by decide +kernel
theorem dL_law_707 : decode cL_law 707 = .ok (.iconst 1, 1) := by decide +kernel
theorem dL_law_708 : decode cL_law 708 = .ok (.iadd, 1) := by decide +kernel
theorem dL_law_709 : decode cL_law 709 = .ok (.iaload, 1) := by decide +kernel
theorem dL_law_710 : decode cL_law 710 = .ok (.aload_n 0, 1) := by decide +kernel
theorem dL_law_711 : decode cL_law 711 = .ok (.iload_n 3, 1) := by decide +kernel
theorem dL_law_712 : decode cL_law 712 = .ok (.iconst 2, 1) := by decide +kernel
theorem dL_law_713 : decode cL_law 713 = .ok (.iadd, 1) := by decide +kernel
theorem dL_law_714 : decode cL_law 714 = .ok (.iaload, 1) := by decide +kernel
theorem dL_law_715 : decode cL_law 715 = .ok (.aload_n 0, 1) := by decide +kernel
theorem dL_law_716 : decode cL_law 716 = .ok (.iload_n 3, 1) := by decide +kernel
theorem dL_law_717 : decode cL_law 717 = .ok (.iconst 3, 1) := by decide +kernel
theorem dL_law_718 : decode cL_law 718 = .ok (.iadd, 1) := by decide +kernel
theorem dL_law_719 : decode cL_law 719 = .ok (.iaload, 1) := by decide +kernel
theorem dL_law_720 : decode cL_law 720 = .ok (.invokevirtual 82, 3) := by decide +kernel
theorem dL_law_723 : decode cL_law 723 = .ok (.aload_n 2, 1) := by decide +kernel
theorem dL_law_724 : decode cL_law 724 = .ok (.aload_n 0, 1) := by decide +kernel
theorem dL_law_725 : decode cL_law 725 = .ok (.iload_n 3, 1) := by decide +kernel
theorem dL_law_726 : decode cL_law 726 = .ok (.iconst 1, 1) := by decide +kernel
theorem dL_law_727 : decode cL_law 727 = .ok (.iadd, 1) := by decide +kernel
theorem dL_law_728 : decode cL_law 728 = .ok (.iaload, 1) := by decide +kernel
theorem dL_law_729 : decode cL_law 729 = .ok (.aload_n 0, 1) := by decide +kernel
theorem dL_law_730 : decode cL_law 730 = .ok (.iload_n 3, 1) := by decide +kernel
theorem dL_law_731 : decode cL_law 731 = .ok (.iconst 2, 1) := by decide +kernel
theorem dL_law_732 : decode cL_law 732 = .ok (.iadd, 1) := by decide +kernel
theorem dL_law_733 : decode cL_law 733 = .ok (.iaload, 1) := by decide +kernel
theorem dL_law_734 : decode cL_law 734 = .ok (.aload_n 0, 1) := by decide +kernel
theorem dL_law_735 : decode cL_law 735 = .ok (.iload_n 3, 1) := by decide +kernel
theorem dL_law_736 : decode cL_law 736 = .ok (.iconst 3, 1) := by decide +kernel
theorem dL_law_737 : decode cL_law 737 = .ok (.iadd, 1) := by decide +kernel
theorem dL_law_738 : decode cL_law 738 = .ok (.iaload, 1) := by decide +kernel
theorem dL_law_739 : decode cL_law 739 = .ok (.invokevirtual 86, 3) := by decide +kernel
theorem dL_law_742 : decode cL_law 742 = .ok (.lcmp, 1) := by decide +kernel
theorem dL_law_743 : decode cL_law 743 = .ok (.ifCond .eq 525, 3) := by decide +kernel
theorem dL_law_746 : decode cL_law 746 = .ok (.iconst 0, 1) := by decide +kernel
theorem dL_law_747 : decode cL_law 747 = .ok (.ireturn, 1) := by decide +kernel
theorem dL_law_748 : decode cL_law 748 = .ok (.aload_n 1, 1) := by decide +kernel
theorem dL_law_749 : decode cL_law 749 = .ok (.aload_n 0, 1) := by decide +kernel
theorem dL_law_750 : decode cL_law 750 = .ok (.iload_n 3, 1) := by decide +kernel
theorem dL_law_751 : decode cL_law 751 = .ok (.iconst 1, 1) := by decide +kernel
theorem dL_law_752 : decode cL_law 752 = .ok (.iadd, 1) := by decide +kernel
theorem dL_law_753 : decode cL_law 753 = .ok (.iaload, 1) := by decide +kernel
theorem dL_law_754 : decode cL_law 754 = .ok (.invokevirtual 87, 3) := by decide +kernel
theorem dL_law_757 : decode cL_law 757 = .ok (.aload_n 2, 1) := by decide +kernel
theorem dL_law_758 : decode cL_law 758 = .ok (.aload_n 0, 1) := by decide +kernel
theorem dL_law_759 : decode cL_law 759 = .ok (.iload_n 3, 1) := by decide +kernel
theorem dL_law_760 : decode cL_law 760 = .ok (.iconst 1, 1) := by decide +kernel
theorem dL_law_761 : decode cL_law 761 = .ok (.iadd, 1) := by decide +kernel
theorem dL_law_762 : decode cL_law 762 = .ok (.iaload, 1) := by decide +kernel
theorem dL_law_763 : decode cL_law 763 = .ok (.invokevirtual 91, 3) := by decide +kernel
theorem dL_law_766 : decode cL_law 766 = .ok (.lcmp, 1) := by decide +kernel
theorem dL_law_767 : decode cL_law 767 = .ok (.ifCond .eq 501, 3) := by decide +kernel
theorem dL_law_770 : decode cL_law 770 = .ok (.iconst 0, 1) := by decide +kernel
theorem dL_law_771 : decode cL_law 771 = .ok (.ireturn, 1) := by decide +kernel
theorem dL_law_772 : decode cL_law 772 = .ok (.aload_n 1, 1) := by decide +kernel
theorem dL_law_773 : decode cL_law 773 = .ok (.aload_n 0, 1) := by decide +kernel
theorem dL_law_774 : decode cL_law 774 = .ok (.iload_n 3, 1) := by decide +kernel
theorem dL_law_775 : decode cL_law 775 = .ok (.iconst 1, 1) := by decide +kernel
theorem dL_law_776 : decode cL_law 776 = .ok (.iadd, 1) := by decide +kernel
theorem dL_law_777 : decode cL_law 777 = .ok (.iaload, 1) := by decide +kernel
theorem dL_law_778 : decode cL_law 778 = .ok (.aload_n 0, 1) := by decide +kernel
theorem dL_law_779 : decode cL_law 779 = .ok (.iload_n 3, 1) := by decide +kernel
theorem dL_law_780 : decode cL_law 780 = .ok (.iconst 2, 1) := by decide +kernel
theorem dL_law_781 : decode cL_law 781 = .ok (.iadd, 1) := by decide +kernel
theorem dL_law_782 : decode cL_law 782 = .ok (.iaload, 1) := by decide +kernel
theorem dL_law_783 : decode cL_law 783 = .ok (.invokevirtual 92, 3) := by decide +kernel
theorem dL_law_786 : decode cL_law 786 = .ok (.aload_n 2, 1) := by decide +kernel
theorem dL_law_787 : decode cL_law 787 = .ok (.aload_n 0, 1) := by decide +kernel
theorem dL_law_788 : decode cL_law 788 = .ok (.iload_n 3, 1) := by decide +kernel
theorem dL_law_789 : decode cL_law 789 = .ok (.iconst 1, 1) := by decide +kernel
theorem dL_law_790 : decode cL_law 790 = .ok (.iadd, 1) := by decide +kernel
theorem dL_law_791 : decode cL_law 791 = .ok (.iaload, 1) := by decide +kernel
theorem dL_law_792 : decode cL_law 792 = .ok (.aload_n 0, 1) := by decide +kernel
theorem dL_law_793 : decode cL_law 793 = .ok (.iload_n 3, 1) := by decide +kernel
theorem dL_law_794 : decode cL_law 794 = .ok (.iconst 2, 1) := by decide +kernel
theorem dL_law_795 : decode cL_law 795 = .ok (.iadd, 1) := by decide +kernel
theorem dL_law_796 : decode cL_law 796 = .ok (.iaload, 1) := by decide +kernel
theorem dL_law_797 : decode cL_law 797 = .ok (.invokevirtual 95, 3) := by decide +kernel
theorem dL_law_800 : decode cL_law 800 = .ok (.if_icmp .eq 468, 3) := by decide +kernel
theorem dL_law_803 : decode cL_law 803 = .ok (.iconst 0, 1) := by decide +kernel
theorem dL_law_804 : decode cL_law 804 = .ok (.ireturn, 1) := by decide +kernel
theorem dL_law_805 : decode cL_law 805 = .ok (.aload_n 1, 1) := by decide +kernel
theorem dL_law_806 : decode cL_law 806 = .ok (.aload_n 0, 1) := by decide +kernel
theorem dL_law_807 : decode cL_law 807 = .ok (.iload_n 3, 1) := by decide +kernel
theorem dL_law_808 : decode cL_law 808 = .ok (.iconst 1, 1) := by decide +kernel
theorem dL_law_809 : decode cL_law 809 = .ok (.iadd, 1) := by decide +kernel
theorem dL_law_810 : decode cL_law 810 = .ok (.iaload, 1) := by decide +kernel
theorem dL_law_811 : decode cL_law 811 = .ok (.invokevirtual 96, 3) := by decide +kernel
theorem dL_law_814 : decode cL_law 814 = .ok (.aload_n 2, 1) := by decide +kernel
theorem dL_law_815 : decode cL_law 815 = .ok (.aload_n 0, 1) := by decide +kernel
theorem dL_law_816 : decode cL_law 816 = .ok (.iload_n 3, 1) := by decide +kernel
theorem dL_law_817 : decode cL_law 817 = .ok (.iconst 1, 1) := by decide +kernel
theorem dL_law_818 : decode cL_law 818 = .ok (.iadd, 1) := by decide +kernel
theorem dL_law_819 : decode cL_law 819 = .ok (.iaload, 1) := by decide +kernel
theorem dL_law_820 : decode cL_law 820 = .ok (.invokevirtual 99, 3) := by decide +kernel
theorem dL_law_823 : decode cL_law 823 = .ok (.if_icmp .eq 445, 3) := by decide +kernel
theorem dL_law_826 : decode cL_law 826 = .ok (.iconst 0, 1) := by decide +kernel
theorem dL_law_827 : decode cL_law 827 = .ok (.ireturn, 1) := by decide +kernel
theorem dL_law_828 : decode cL_law 828 = .ok (.aload_n 1, 1) := by decide +kernel
theorem dL_law_829 : decode cL_law 829 = .ok (.aload_n 0, 1) := by decide +kernel
theorem dL_law_830 : decode cL_law 830 = .ok (.iload_n 3, 1) := by decide +kernel
theorem dL_law_831 : decode cL_law 831 = .ok (.iconst 1, 1) := by decide +kernel
theorem dL_law_832 : decode cL_law 832 = .ok (.iadd, 1) := by decide +kernel
theorem dL_law_833 : decode cL_law 833 = .ok (.iaload, 1) := by decide +kernel
theorem dL_law_834 : decode cL_law 834 = .ok (.aload_n 0, 1) := by decide +kernel
theorem dL_law_835 : decode cL_law 835 = .ok (.iload_n 3, 1) := by decide +kernel
theorem dL_law_836 : decode cL_law 836 = .ok (.iconst 2, 1) := by decide +kernel
theorem dL_law_837 : decode cL_law 837 = .ok (.iadd, 1) := by decide +kernel
theorem dL_law_838 : decode cL_law 838 = .ok (.iaload, 1) := by decide +kernel
theorem dL_law_839 : decode cL_law 839 = .ok (.invokevirtual 100, 3) := by decide +kernel
theorem dL_law_842 : decode cL_law 842 = .ok (.aload_n 2, 1) := by decide +kernel
theorem dL_law_843 : decode cL_law 843 = .ok (.aload_n 0, 1) := by decide +kernel
theorem dL_law_844 : decode cL_law 844 = .ok (.iload_n 3, 1) := by decide +kernel
theorem dL_law_845 : decode cL_law 845 = .ok (.iconst 1, 1) := by decide +kernel
theorem dL_law_846 : decode cL_law 846 = .ok (.iadd, 1) := by decide +kernel
theorem dL_law_847 : decode cL_law 847 = .ok (.iaload, 1) := by decide +kernel
theorem dL_law_848 : decode cL_law 848 = .ok (.aload_n 0, 1) := by decide +kernel
theorem dL_law_849 : decode cL_law 849 = .ok (.iload_n 3, 1) := by decide +kernel
theorem dL_law_850 : decode cL_law 850 = .ok (.iconst 2, 1) := by decide +kernel
theorem dL_law_851 : decode cL_law 851 = .ok (.iadd, 1) := by decide +kernel
theorem dL_law_852 : decode cL_law 852 = .ok (.iaload, 1) := by decide +kernel
theorem dL_law_853 : decode cL_law 853 = .ok (.invokevirtual 103, 3) := by decide +kernel
theorem dL_law_856 : decode cL_law 856 = .ok (.if_icmp .eq 412, 3) := by decide +kernel
theorem dL_law_859 : decode cL_law 859 = .ok (.iconst 0, 1) := by decide +kernel
theorem dL_law_860 : decode cL_law 860 = .ok (.ireturn, 1) := by decide +kernel
theorem dL_law_861 : decode cL_law 861 = .ok (.aload_n 1, 1) := by decide +kernel
theorem dL_law_862 : decode cL_law 862 = .ok (.invokevirtual 104, 3) := by decide +kernel
theorem dL_law_865 : decode cL_law 865 = .ok (.aload_n 2, 1) := by decide +kernel
theorem dL_law_866 : decode cL_law 866 = .ok (.invokevirtual 107, 3) := by decide +kernel
theorem dL_law_869 : decode cL_law 869 = .ok (.if_icmp .eq 399, 3) := by decide +kernel
theorem dL_law_872 : decode cL_law 872 = .ok (.iconst 0, 1) := by decide +kernel
theorem dL_law_873 : decode cL_law 873 = .ok (.ireturn, 1) := by decide +kernel
theorem dL_law_874 : decode cL_law 874 = .ok (.aload_n 1, 1) := by decide +kernel
theorem dL_law_875 : decode cL_law 875 = .ok (.aload_n 0, 1) := by decide +kernel
theorem dL_law_876 : decode cL_law 876 = .ok (.iload_n 3, 1) := by decide +kernel
theorem dL_law_877 : decode cL_law 877 = .ok (.iconst 1, 1) := by decide +kernel
theorem dL_law_878 : decode cL_law 878 = .ok (.iadd, 1) := by decide +kernel
theorem dL_law_879 : decode cL_law 879 = .ok (.iaload, 1) := by decide +kernel
theorem dL_law_880 : decode cL_law 880 = .ok (.aload_n 0, 1) := by decide +kernel
theorem dL_law_881 : decode cL_law 881 = .ok (.iload_n 3, 1) := by decide +kernel
theorem dL_law_882 : decode cL_law 882 = .ok (.iconst 2, 1) := by decide +kernel
theorem dL_law_883 : decode cL_law 883 = .ok (.iadd, 1) := by decide +kernel
theorem dL_law_884 : decode cL_law 884 = .ok (.iaload, 1) := by decide +kernel
theorem dL_law_885 : decode cL_law 885 = .ok (.invokevirtual 108, 3) := by decide +kernel
theorem dL_law_888 : decode cL_law 888 = .ok (.aload_n 2, 1) := by decide +kernel
theorem dL_law_889 : decode cL_law 889 = .ok (.aload_n 0, 1) := by decide +kernel
theorem dL_law_890 : decode cL_law 890 = .ok (.iload_n 3, 1) := by decide +kernel
theorem dL_law_891 : decode cL_law 891 = .ok (.iconst 1, 1) := by decide +kernel
theorem dL_law_892 : decode cL_law 892 = .ok (.iadd, 1) := by decide +kernel
theorem dL_law_893 : decode cL_law 893 = .ok (.iaload, 1) := by decide +kernel
theorem dL_law_894 : decode cL_law 894 = .ok (.aload_n 0, 1) := by decide +kernel
theorem dL_law_895 : decode cL_law 895 = .ok (.iload_n 3, 1) := by decide +kernel
theorem dL_law_896 : decode cL_law 896 = .ok (.iconst 2, 1) := by decide +kernel
theorem dL_law_897 : decode cL_law 897 = .ok (.iadd, 1) := by decide +kernel
theorem dL_law_898 : decode cL_law 898 = .ok (.iaload, 1) := by decide +kernel
theorem dL_law_899 : decode cL_law 899 = .ok (.invokevirtual 111, 3) := by decide +kernel
theorem dL_law_902 : decode cL_law 902 = .ok (.if_icmp .eq 366, 3) := by decide +kernel
theorem dL_law_905 : decode cL_law 905 = .ok (.iconst 0, 1) := by decide +kernel
theorem dL_law_906 : decode cL_law 906 = .ok (.ireturn, 1) := by decide +kernel
theorem dL_law_907 : decode cL_law 907 = .ok (.aload_n 1, 1) := by decide +kernel
theorem dL_law_908 : decode cL_law 908 = .ok (.invokevirtual 112, 3) := by decide +kernel
theorem dL_law_911 : decode cL_law 911 = .ok (.aload_n 2, 1) := by decide +kernel
theorem dL_law_912 : decode cL_law 912 = .ok (.invokevirtual 115, 3) := by decide +kernel
theorem dL_law_915 : decode cL_law 915 = .ok (.if_icmp .eq 353, 3) := by decide +kernel
theorem dL_law_918 : decode cL_law 918 = .ok (.iconst 0, 1) := by decide +kernel
theorem dL_law_919 : decode cL_law 919 = .ok (.ireturn, 1) := by decide +kernel
theorem dL_law_920 : decode cL_law 920 = .ok (.aload_n 1, 1) := by decide +kernel
theorem dL_law_921 : decode cL_law 921 = .ok (.invokevirtual 116, 3) := by decide +kernel
theorem dL_law_924 : decode cL_law 924 = .ok (.aload_n 2, 1) := by decide +kernel
theorem dL_law_925 : decode cL_law 925 = .ok (.invokevirtual 119, 3) := by decide +kernel
theorem dL_law_928 : decode cL_law 928 = .ok (.if_icmp .eq 340, 3) := by decide +kernel
theorem dL_law_931 : decode cL_law 931 = .ok (.iconst 0, 1) := by decide +kernel
theorem dL_law_932 : decode cL_law 932 = .ok (.ireturn, 1) := by decide +kernel
theorem dL_law_933 : decode cL_law 933 = .ok (.aload_n 1, 1) := by decide +kernel
theorem dL_law_934 : decode cL_law 934 = .ok (.aload_n 0, 1) := by decide +kernel
theorem dL_law_935 : decode cL_law 935 = .ok (.iload_n 3, 1) := by decide +kernel
theorem dL_law_936 : decode cL_law 936 = .ok (.iconst 1, 1) := by decide +kernel
theorem dL_law_937 : decode cL_law 937 = .ok (.iadd, 1) := by decide +kernel
theorem dL_law_938 : decode cL_law 938 = .ok (.iaload, 1) := by decide +kernel
theorem dL_law_939 : decode cL_law 939 = .ok (.aload_n 0, 1) := by decide +kernel
theorem dL_law_940 : decode cL_law 940 = .ok (.iload_n 3, 1) := by decide +kernel
theorem dL_law_941 : decode cL_law 941 = .ok (.iconst 2, 1) := by decide +kernel
theorem dL_law_942 : decode cL_law 942 = .ok (.iadd, 1) := by decide +kernel
theorem dL_law_943 : decode cL_law 943 = .ok (.iaload, 1) := by decide +kernel
theorem dL_law_944 : decode cL_law 944 = .ok (.aload_n 0, 1) := by decide +kernel
theorem dL_law_945 : decode cL_law 945 = .ok (.iload_n 3, 1) := by decide +kernel
theorem dL_law_946 : decode cL_law 946 = .ok (.iconst 3, 1) := by decide +kernel
theorem dL_law_947 : decode cL_law 947 = .ok (.iadd, 1) := by decide +kernel
theorem dL_law_948 : decode cL_law 948 = .ok (.iaload, 1) := by decide +kernel
theorem dL_law_949 : decode cL_law 949 = .ok (.invokevirtual 120, 3) := by decide +kernel
theorem dL_law_952 : decode cL_law 952 = .ok (.aload_n 2, 1) := by decide +kernel
theorem dL_law_953 : decode cL_law 953 = .ok (.aload_n 0, 1) := by decide +kernel
theorem dL_law_954 : decode cL_law 954 = .ok (.iload_n 3, 1) := by decide +kernel
theorem dL_law_955 : decode cL_law 955 = .ok (.iconst 1, 1) := by decide +kernel
theorem dL_law_956 : decode cL_law 956 = .ok (.iadd, 1) := by decide +kernel
theorem dL_law_957 : decode cL_law 957 = .ok (.iaload, 1) := by decide +kernel
theorem dL_law_958 : decode cL_law 958 = .ok (.aload_n 0, 1) := by decide +kernel
theorem dL_law_959 : decode cL_law 959 = .ok (.iload_n 3, 1) := by decide +kernel
theorem dL_law_960 : decode cL_law 960 = .ok (.iconst 2, 1) := by decide +kernel
theorem dL_law_961 : decode cL_law 961 = .ok (.iadd, 1) := by decide +kernel
theorem dL_law_962 : decode cL_law 962 = .ok (.iaload, 1) := by decide +kernel
theorem dL_law_963 : decode cL_law 963 = .ok (.aload_n 0, 1) := by decide +kernel
theorem dL_law_964 : decode cL_law 964 = .ok (.iload_n 3, 1) := by decide +kernel
theorem dL_law_965 : decode cL_law 965 = .ok (.iconst 3, 1) := by decide +kernel
theorem dL_law_966 : decode cL_law 966 = .ok (.iadd, 1) := by decide +kernel
theorem dL_law_967 : decode cL_law 967 = .ok (.iaload, 1) := by decide +kernel
theorem dL_law_968 : decode cL_law 968 = .ok (.invokevirtual 123, 3) := by decide +kernel
theorem dL_law_971 : decode cL_law 971 = .ok (.if_icmp .eq 297, 3) := by decide +kernel
theorem dL_law_974 : decode cL_law 974 = .ok (.iconst 0, 1) := by decide +kernel
theorem dL_law_975 : decode cL_law 975 = .ok (.ireturn, 1) := by decide +kernel
theorem dL_law_976 : decode cL_law 976 = .ok (.aload_n 1, 1) := by decide +kernel
theorem dL_law_977 : decode cL_law 977 = .ok (.aload_n 0, 1) := by decide +kernel
theorem dL_law_978 : decode cL_law 978 = .ok (.iload_n 3, 1) := by decide +kernel
theorem dL_law_979 : decode cL_law 979 = .ok (.iconst 1, 1) := by decide +kernel
theorem dL_law_980 : decode cL_law 980 = .ok (.iadd, 1) := by decide +kernel
theorem dL_law_981 : decode cL_law 981 = .ok (.iaload, 1) := by decide +kernel
theorem dL_law_982 : decode cL_law 982 = .ok (.invokevirtual 124, 3) := by decide +kernel
theorem dL_law_985 : decode cL_law 985 = .ok (.aload_n 2, 1) := by decide +kernel
theorem dL_law_986 : decode cL_law 986 = .ok (.aload_n 0, 1) := by decide +kernel
theorem dL_law_987 : decode cL_law 987 = .ok (.iload_n 3, 1) := by decide +kernel
theorem dL_law_988 : decode cL_law 988 = .ok (.iconst 1, 1) := by decide +kernel
theorem dL_law_989 : decode cL_law 989 = .ok (.iadd, 1) := by decide +kernel
theorem dL_law_990 : decode cL_law 990 = .ok (.iaload, 1) := by decide +kernel
theorem dL_law_991 : decode cL_law 991 = .ok (.invokevirtual 127, 3) := by decide +kernel
theorem dL_law_994 : decode cL_law 994 = .ok (.if_icmp .eq 274, 3) := by decide +kernel
theorem dL_law_997 : decode cL_law 997 = .ok (.iconst 0, 1) := by decide +kernel
theorem dL_law_998 : decode cL_law 998 = .ok (.ireturn, 1) := by decide +kernel
theorem dL_law_999 : decode cL_law 999 = .ok (.aload_n 1, 1) := by decide +kernel
theorem dL_law_1000 : decode cL_law 1000 = .ok (.aload_n 0, 1) := by decide +kernel
theorem dL_law_1001 : decode cL_law 1001 = .ok (.iload_n 3, 1) := by decide +kernel
theorem dL_law_1002 : decode cL_law 1002 = .ok (.iconst 1, 1) := by decide +kernel
theorem dL_law_1003 : decode cL_law 1003 = .ok (.iadd, 1) := by decide +kernel
theorem dL_law_1004 : decode cL_law 1004 = .ok (.iaload, 1) := by decide +kernel
theorem dL_law_1005 : decode cL_law 1005 = .ok (.aload_n 0, 1) := by decide +kernel
theorem dL_law_1006 : decode cL_law 1006 = .ok (.iload_n 3, 1) := by decide +kernel
theorem dL_law_1007 : decode cL_law 1007 = .ok (.iconst 2, 1) := by decide +kernel
theorem dL_law_1008 : decode cL_law 1008 = .ok (.iadd, 1) := by decide +kernel
theorem dL_law_1009 : decode cL_law 1009 = .ok (.iaload, 1) := by decide +kernel
theorem dL_law_1010 : decode cL_law 1010 = .ok (.invokevirtual 128, 3) := by decide +kernel
theorem dL_law_1013 : decode cL_law 1013 = .ok (.aload_n 2, 1) := by decide +kernel
theorem dL_law_1014 : decode cL_law 1014 = .ok (.aload_n 0, 1) := by decide +kernel
theorem dL_law_1015 : decode cL_law 1015 = .ok (.iload_n 3, 1) := by decide +kernel
theorem dL_law_1016 : decode cL_law 1016 = .ok (.iconst 1, 1) := by decide +kernel
theorem dL_law_1017 : decode cL_law 1017 = .ok (.iadd, 1) := by decide +kernel
theorem dL_law_1018 : decode cL_law 1018 = .ok (.iaload, 1) := by decide +kernel
theorem dL_law_1019 : decode cL_law 1019 = .ok (.aload_n 0, 1) := by decide +kernel
theorem dL_law_1020 : decode cL_law 1020 = .ok (.iload_n 3, 1) := by decide +kernel
theorem dL_law_1021 : decode cL_law 1021 = .ok (.iconst 2, 1) := by decide +kernel
theorem dL_law_1022 : decode cL_law 1022 = .ok (.iadd, 1) := by decide +kernel
theorem dL_law_1023 : decode cL_law 1023 = .ok (.iaload, 1) := by decide +kernel
theorem dL_law_1024 : decode cL_law 1024 = .ok (.invokevirtual 131, 3) := by decide +kernel
theorem dL_law_1027 : decode cL_law 1027 = .ok (.if_icmp .eq 241, 3) := by decide +kernel
theorem dL_law_1030 : decode cL_law 1030 = .ok (.iconst 0, 1) := by decide +kernel
theorem dL_law_1031 : decode cL_law 1031 = .ok (.ireturn, 1) := by decide +kernel
theorem dL_law_1032 : decode cL_law 1032 = .ok (.aload_n 1, 1) := by decide +kernel
theorem dL_law_1033 : decode cL_law 1033 = .ok (.aload_n 0, 1) := by decide +kernel
theorem dL_law_1034 : decode cL_law 1034 = .ok (.iload_n 3, 1) := by decide +kernel
theorem dL_law_1035 : decode cL_law 1035 = .ok (.iconst 1, 1) := by decide +kernel
theorem dL_law_1036 : decode cL_law 1036 = .ok (.iadd, 1) := by decide +kernel
theorem dL_law_1037 : decode cL_law 1037 = .ok (.iaload, 1) := by decide +kernel
theorem dL_law_1038 : decode cL_law 1038 = .ok (.invokevirtual 132, 3) := by decide +kernel
theorem dL_law_1041 : decode cL_law 1041 = .ok (.aload_n 2, 1) := by decide +kernel
theorem dL_law_1042 : decode cL_law 1042 = .ok (.aload_n 0, 1) := by decide +kernel
theorem dL_law_1043 : decode cL_law 1043 = .ok (.iload_n 3, 1) := by decide +kernel
theorem dL_law_1044 : decode cL_law 1044 = .ok (.iconst 1, 1) := by decide +kernel
theorem dL_law_1045 : decode cL_law 1045 = .ok (.iadd, 1) := by decide +kernel
theorem dL_law_1046 : decode cL_law 1046 = .ok (.iaload, 1) := by decide +kernel
theorem dL_law_1047 : decode cL_law 1047 = .ok (.invokevirtual 135, 3) := by decide +kernel
theorem dL_law_1050 : decode cL_law 1050 = .ok (.if_icmp .eq 218, 3) := by decide +kernel
theorem dL_law_1053 : decode cL_law 1053 = .ok (.iconst 0, 1) := by decide +kernel
theorem dL_law_1054 : decode cL_law 1054 = .ok (.ireturn, 1) := by decide +kernel
theorem dL_law_1055 : decode cL_law 1055 = .ok (.aload_n 1, 1) := by decide +kernel
theorem dL_law_1056 : decode cL_law 1056 = .ok (.aload_n 0, 1) := by decide +kernel
theorem dL_law_1057 : decode cL_law 1057 = .ok (.iload_n 3, 1) := by decide +kernel
theorem dL_law_1058 : decode cL_law 1058 = .ok (.iconst 1, 1) := by decide +kernel
theorem dL_law_1059 : decode cL_law 1059 = .ok (.iadd, 1) := by decide +kernel
theorem dL_law_1060 : decode cL_law 1060 = .ok (.iaload, 1) := by decide +kernel
theorem dL_law_1061 : decode cL_law 1061 = .ok (.aload_n 0, 1) := by decide +kernel
theorem dL_law_1062 : decode cL_law 1062 = .ok (.iload_n 3, 1) := by decide +kernel
theorem dL_law_1063 : decode cL_law 1063 = .ok (.iconst 2, 1) := by decide +kernel
theorem dL_law_1064 : decode cL_law 1064 = .ok (.iadd, 1) := by decide +kernel
theorem dL_law_1065 : decode cL_law 1065 = .ok (.iaload, 1) := by decide +kernel
theorem dL_law_1066 : decode cL_law 1066 = .ok (.aload_n 0, 1) := by decide +kernel
theorem dL_law_1067 : decode cL_law 1067 = .ok (.iload_n 3, 1) := by decide +kernel
theorem dL_law_1068 : decode cL_law 1068 = .ok (.iconst 3, 1) := by decide +kernel
theorem dL_law_1069 : decode cL_law 1069 = .ok (.iadd, 1) := by decide +kernel
theorem dL_law_1070 : decode cL_law 1070 = .ok (.iaload, 1) := by decide +kernel
theorem dL_law_1071 : decode cL_law 1071 = .ok (.invokevirtual 136, 3) := by decide +kernel
theorem dL_law_1074 : decode cL_law 1074 = .ok (.aload_n 2, 1) := by decide +kernel
theorem dL_law_1075 : decode cL_law 1075 = .ok (.aload_n 0, 1) := by decide +kernel
theorem dL_law_1076 : decode cL_law 1076 = .ok (.iload_n 3, 1) := by decide +kernel
theorem dL_law_1077 : decode cL_law 1077 = .ok (.iconst 1, 1) := by decide +kernel
theorem dL_law_1078 : decode cL_law 1078 = .ok (.iadd, 1) := by decide +kernel
theorem dL_law_1079 : decode cL_law 1079 = .ok (.iaload, 1) := by decide +kernel
theorem dL_law_1080 : decode cL_law 1080 = .ok (.aload_n 0, 1) := by decide +kernel
theorem dL_law_1081 : decode cL_law 1081 = .ok (.iload_n 3, 1) := by decide +kernel
theorem dL_law_1082 : decode cL_law 1082 = .ok (.iconst 2, 1) := by decide +kernel
theorem dL_law_1083 : decode cL_law 1083 = .ok (.iadd, 1) := by decide +kernel
theorem dL_law_1084 : decode cL_law 1084 = .ok (.iaload, 1) := by decide +kernel
theorem dL_law_1085 : decode cL_law 1085 = .ok (.aload_n 0, 1) := by decide +kernel
theorem dL_law_1086 : decode cL_law 1086 = .ok (.iload_n 3, 1) := by decide +kernel
theorem dL_law_1087 : decode cL_law 1087 = .ok (.iconst 3, 1) := by decide +kernel
theorem dL_law_1088 : decode cL_law 1088 = .ok (.iadd, 1) := by decide +kernel
theorem dL_law_1089 : decode cL_law 1089 = .ok (.iaload, 1) := by decide +kernel
theorem dL_law_1090 : decode cL_law 1090 = .ok (.invokevirtual 139, 3) := by decide +kernel
theorem dL_law_1093 : decode cL_law 1093 = .ok (.if_icmp .eq 175, 3) := by decide +kernel
theorem dL_law_1096 : decode cL_law 1096 = .ok (.iconst 0, 1) := by decide +kernel
theorem dL_law_1097 : decode cL_law 1097 = .ok (.ireturn, 1) := by decide +kernel
theorem dL_law_1098 : decode cL_law 1098 = .ok (.aload_n 1, 1) := by decide +kernel
theorem dL_law_1099 : decode cL_law 1099 = .ok (.aload_n 0, 1) := by decide +kernel
theorem dL_law_1100 : decode cL_law 1100 = .ok (.iload_n 3, 1) := by decide +kernel
theorem dL_law_1101 : decode cL_law 1101 = .ok (.iconst 1, 1) := by decide +kernel
theorem dL_law_1102 : decode cL_law 1102 = .ok (.iadd, 1) := by decide +kernel
theorem dL_law_1103 : decode cL_law 1103 = .ok (.iaload, 1) := by decide +kernel
theorem dL_law_1104 : decode cL_law 1104 = .ok (.aload_n 0, 1) := by decide +kernel
theorem dL_law_1105 : decode cL_law 1105 = .ok (.iload_n 3, 1) := by decide +kernel
theorem dL_law_1106 : decode cL_law 1106 = .ok (.iconst 2, 1) := by decide +kernel
theorem dL_law_1107 : decode cL_law 1107 = .ok (.iadd, 1) := by decide +kernel
theorem dL_law_1108 : decode cL_law 1108 = .ok (.iaload, 1) := by decide +kernel
theorem dL_law_1109 : decode cL_law 1109 = .ok (.aload_n 0, 1) := by decide +kernel
theorem dL_law_1110 : decode cL_law 1110 = .ok (.iload_n 3, 1) := by decide +kernel
theorem dL_law_1111 : decode cL_law 1111 = .ok (.iconst 3, 1) := by decide +kernel
theorem dL_law_1112 : decode cL_law 1112 = .ok (.iadd, 1) := by decide +kernel
theorem dL_law_1113 : decode cL_law 1113 = .ok (.iaload, 1) := by decide +kernel
theorem dL_law_1114 : decode cL_law 1114 = .ok (.i2l, 1) := by decide +kernel
theorem dL_law_1115 : decode cL_law 1115 = .ok (.bipush 32, 2) := by decide +kernel
theorem dL_law_1117 : decode cL_law 1117 = .ok (.lshl, 1) := by decide +kernel
theorem dL_law_1118 : decode cL_law 1118 = .ok (.aload_n 0, 1) := by decide +kernel
theorem dL_law_1119 : decode cL_law 1119 = .ok (.iload_n 3, 1) := by decide +kernel
theorem dL_law_1120 : decode cL_law 1120 = .ok (.iconst 4, 1) := by decide +kernel
theorem dL_law_1121 : decode cL_law 1121 = .ok (.iadd, 1) := by decide +kernel
theorem dL_law_1122 : decode cL_law 1122 = .ok (.iaload, 1) := by decide +kernel
theorem dL_law_1123 : decode cL_law 1123 = .ok (.i2l, 1) := by decide +kernel
theorem dL_law_1124 : decode cL_law 1124 = .ok (.ldc2_w 140, 3) := by decide +kernel
theorem dL_law_1127 : decode cL_law 1127 = .ok (.land, 1) := by decide +kernel
theorem dL_law_1128 : decode cL_law 1128 = .ok (.lor, 1) := by decide +kernel
theorem dL_law_1129 : decode cL_law 1129 = .ok (.invokevirtual 142, 3) := by decide +kernel
theorem dL_law_1132 : decode cL_law 1132 = .ok (.aload_n 2, 1) := by decide +kernel
theorem dL_law_1133 : decode cL_law 1133 = .ok (.aload_n 0, 1) := by decide +kernel
theorem dL_law_1134 : decode cL_law 1134 = .ok (.iload_n 3, 1) := by decide +kernel
theorem dL_law_1135 : decode cL_law 1135 = .ok (.iconst 1, 1) := by decide +kernel
theorem dL_law_1136 : decode cL_law 1136 = .ok (.iadd, 1) := by decide +kernel
theorem dL_law_1137 : decode cL_law 1137 = .ok (.iaload, 1) := by decide +kernel
theorem dL_law_1138 : decode cL_law 1138 = .ok (.aload_n 0, 1) := by decide +kernel
theorem dL_law_1139 : decode cL_law 1139 = .ok (.iload_n 3, 1) := by decide +kernel
theorem dL_law_1140 : decode cL_law 1140 = .ok (.iconst 2, 1) := by decide +kernel
theorem dL_law_1141 : decode cL_law 1141 = .ok (.iadd, 1) := by decide +kernel
theorem dL_law_1142 : decode cL_law 1142 = .ok (.iaload, 1) := by decide +kernel
theorem dL_law_1143 : decode cL_law 1143 = .ok (.aload_n 0, 1) := by decide +kernel
theorem dL_law_1144 : decode cL_law 1144 = .ok (.iload_n 3, 1) := by decide +kernel
theorem dL_law_1145 : decode cL_law 1145 = .ok (.iconst 3, 1) := by decide +kernel
theorem dL_law_1146 : decode cL_law 1146 = .ok (.iadd, 1) := by decide +kernel
theorem dL_law_1147 : decode cL_law 1147 = .ok (.iaload, 1) := by decide +kernel
theorem dL_law_1148 : decode cL_law 1148 = .ok (.i2l, 1) := by decide +kernel
theorem dL_law_1149 : decode cL_law 1149 = .ok (.bipush 32, 2) := by decide +kernel
theorem dL_law_1151 : decode cL_law 1151 = .ok (.lshl, 1) := by decide +kernel
theorem dL_law_1152 : decode cL_law 1152 = .ok (.aload_n 0, 1) := by decide +kernel
theorem dL_law_1153 : decode cL_law 1153 = .ok (.iload_n 3, 1) := by decide +kernel
theorem dL_law_1154 : decode cL_law 1154 = .ok (.iconst 4, 1) := by decide +kernel
theorem dL_law_1155 : decode cL_law 1155 = .ok (.iadd, 1) := by decide +kernel
theorem dL_law_1156 : decode cL_law 1156 = .ok (.iaload, 1) := by decide +kernel
theorem dL_law_1157 : decode cL_law 1157 = .ok (.i2l, 1) := by decide +kernel
theorem dL_law_1158 : decode cL_law 1158 = .ok (.ldc2_w 140, 3) := by decide +kernel
theorem dL_law_1161 : decode cL_law 1161 = .ok (.land, 1) := by decide +kernel
theorem dL_law_1162 : decode cL_law 1162 = .ok (.lor, 1) := by decide +kernel
theorem dL_law_1163 : decode cL_law 1163 = .ok (.invokevirtual 146, 3) := by decide +kernel
theorem dL_law_1166 : decode cL_law 1166 = .ok (.if_icmp .eq 102, 3) := by decide +kernel
theorem dL_law_1169 : decode cL_law 1169 = .ok (.iconst 0, 1) := by decide +kernel
theorem dL_law_1170 : decode cL_law 1170 = .ok (.ireturn, 1) := by decide +kernel
theorem dL_law_1171 : decode cL_law 1171 = .ok (.aload_n 1, 1) := by decide +kernel
theorem dL_law_1172 : decode cL_law 1172 = .ok (.aload_n 0, 1) := by decide +kernel
theorem dL_law_1173 : decode cL_law 1173 = .ok (.iload_n 3, 1) := by decide +kernel
theorem dL_law_1174 : decode cL_law 1174 = .ok (.iconst 1, 1) := by decide +kernel
theorem dL_law_1175 : decode cL_law 1175 = .ok (.iadd, 1) := by decide +kernel
theorem dL_law_1176 : decode cL_law 1176 = .ok (.iaload, 1) := by decide +kernel
theorem dL_law_1177 : decode cL_law 1177 = .ok (.aload_n 0, 1) := by decide +kernel
theorem dL_law_1178 : decode cL_law 1178 = .ok (.iload_n 3, 1) := by decide +kernel
theorem dL_law_1179 : decode cL_law 1179 = .ok (.iconst 2, 1) := by decide +kernel
theorem dL_law_1180 : decode cL_law 1180 = .ok (.iadd, 1) := by decide +kernel
theorem dL_law_1181 : decode cL_law 1181 = .ok (.iaload, 1) := by decide +kernel
theorem dL_law_1182 : decode cL_law 1182 = .ok (.invokevirtual 147, 3) := by decide +kernel
theorem dL_law_1185 : decode cL_law 1185 = .ok (.aload_n 2, 1) := by decide +kernel
theorem dL_law_1186 : decode cL_law 1186 = .ok (.aload_n 0, 1) := by decide +kernel
theorem dL_law_1187 : decode cL_law 1187 = .ok (.iload_n 3, 1) := by decide +kernel
theorem dL_law_1188 : decode cL_law 1188 = .ok (.iconst 1, 1) := by decide +kernel
theorem dL_law_1189 : decode cL_law 1189 = .ok (.iadd, 1) := by decide +kernel
theorem dL_law_1190 : decode cL_law 1190 = .ok (.iaload, 1) := by decide +kernel
theorem dL_law_1191 : decode cL_law 1191 = .ok (.aload_n 0, 1) := by decide +kernel
theorem dL_law_1192 : decode cL_law 1192 = .ok (.iload_n 3, 1) := by decide +kernel
theorem dL_law_1193 : decode cL_law 1193 = .ok (.iconst 2, 1) := by decide +kernel
theorem dL_law_1194 : decode cL_law 1194 = .ok (.iadd, 1) := by decide +kernel
theorem dL_law_1195 : decode cL_law 1195 = .ok (.iaload, 1) := by decide +kernel
theorem dL_law_1196 : decode cL_law 1196 = .ok (.invokevirtual 151, 3) := by decide +kernel
theorem dL_law_1199 : decode cL_law 1199 = .ok (.lcmp, 1) := by decide +kernel
theorem dL_law_1200 : decode cL_law 1200 = .ok (.ifCond .eq 68, 3) := by decide +kernel
theorem dL_law_1203 : decode cL_law 1203 = .ok (.iconst 0, 1) := by decide +kernel
theorem dL_law_1204 : decode cL_law 1204 = .ok (.ireturn, 1) := by decide +kernel
theorem dL_law_1205 : decode cL_law 1205 = .ok (.aload_n 1, 1) := by decide +kernel
theorem dL_law_1206 : decode cL_law 1206 = .ok (.aload_n 0, 1) := by decide +kernel
theorem dL_law_1207 : decode cL_law 1207 = .ok (.iload_n 3, 1) := by decide +kernel
theorem dL_law_1208 : decode cL_law 1208 = .ok (.iconst 1, 1) := by decide +kernel
theorem dL_law_1209 : decode cL_law 1209 = .ok (.iadd, 1) := by decide +kernel
theorem dL_law_1210 : decode cL_law 1210 = .ok (.iaload, 1) := by decide +kernel
theorem dL_law_1211 : decode cL_law 1211 = .ok (.aload_n 0, 1) := by decide +kernel
theorem dL_law_1212 : decode cL_law 1212 = .ok (.iload_n 3, 1) := by decide +kernel
theorem dL_law_1213 : decode cL_law 1213 = .ok (.iconst 2, 1) := by decide +kernel
theorem dL_law_1214 : decode cL_law 1214 = .ok (.iadd, 1) := by decide +kernel
theorem dL_law_1215 : decode cL_law 1215 = .ok (.iaload, 1) := by decide +kernel
theorem dL_law_1216 : decode cL_law 1216 = .ok (.aload_n 0, 1) := by decide +kernel
theorem dL_law_1217 : decode cL_law 1217 = .ok (.iload_n 3, 1) := by decide +kernel
theorem dL_law_1218 : decode cL_law 1218 = .ok (.iconst 3, 1) := by decide +kernel
theorem dL_law_1219 : decode cL_law 1219 = .ok (.iadd, 1) := by decide +kernel
theorem dL_law_1220 : decode cL_law 1220 = .ok (.iaload, 1) := by decide +kernel
theorem dL_law_1221 : decode cL_law 1221 = .ok (.aload_n 0, 1) := by decide +kernel
theorem dL_law_1222 : decode cL_law 1222 = .ok (.iload_n 3, 1) := by decide +kernel
theorem dL_law_1223 : decode cL_law 1223 = .ok (.iconst 4, 1) := by decide +kernel
theorem dL_law_1224 : decode cL_law 1224 = .ok (.iadd, 1) := by decide +kernel
theorem dL_law_1225 : decode cL_law 1225 = .ok (.iaload, 1) := by decide +kernel
theorem dL_law_1226 : decode cL_law 1226 = .ok (.aload_n 0, 1) := by decide +kernel
theorem dL_law_1227 : decode cL_law 1227 = .ok (.iload_n 3, 1) := by decide +kernel
theorem dL_law_1228 : decode cL_law 1228 = .ok (.iconst 5, 1) := by decide +kernel
theorem dL_law_1229 : decode cL_law 1229 = .ok (.iadd, 1) := by decide +kernel
theorem dL_law_1230 : decode cL_law 1230 = .ok (.iaload, 1) := by decide +kernel
theorem dL_law_1231 : decode cL_law 1231 = .ok (.invokevirtual 152, 3) := by decide +kernel
theorem dL_law_1234 : decode cL_law 1234 = .ok (.aload_n 2, 1) := by decide +kernel
theorem dL_law_1235 : decode cL_law 1235 = .ok (.aload_n 0, 1) := by decide +kernel
theorem dL_law_1236 : decode cL_law 1236 = .ok (.iload_n 3, 1) := by decide +kernel
theorem dL_law_1237 : decode cL_law 1237 = .ok (.iconst 1, 1) := by decide +kernel
theorem dL_law_1238 : decode cL_law 1238 = .ok (.iadd, 1) := by decide +kernel
theorem dL_law_1239 : decode cL_law 1239 = .ok (.iaload, 1) := by decide +kernel
theorem dL_law_1240 : decode cL_law 1240 = .ok (.aload_n 0, 1) := by decide +kernel
theorem dL_law_1241 : decode cL_law 1241 = .ok (.iload_n 3, 1) := by decide +kernel
theorem dL_law_1242 : decode cL_law 1242 = .ok (.iconst 2, 1) := by decide +kernel
theorem dL_law_1243 : decode cL_law 1243 = .ok (.iadd, 1) := by decide +kernel
theorem dL_law_1244 : decode cL_law 1244 = .ok (.iaload, 1) := by decide +kernel
theorem dL_law_1245 : decode cL_law 1245 = .ok (.aload_n 0, 1) := by decide +kernel
theorem dL_law_1246 : decode cL_law 1246 = .ok (.iload_n 3, 1) := by decide +kernel
theorem dL_law_1247 : decode cL_law 1247 = .ok (.iconst 3, 1) := by decide +kernel
theorem dL_law_1248 : decode cL_law 1248 = .ok (.iadd, 1) := by decide +kernel
theorem dL_law_1249 : decode cL_law 1249 = .ok (.iaload, 1) := by decide +kernel
theorem dL_law_1250 : decode cL_law 1250 = .ok (.aload_n 0, 1) := by decide +kernel
theorem dL_law_1251 : decode cL_law 1251 = .ok (.iload_n 3, 1) := by decide +kernel
theorem dL_law_1252 : decode cL_law 1252 = .ok (.iconst 4, 1) := by decide +kernel
theorem dL_law_1253 : decode cL_law 1253 = .ok (.iadd, 1) := by decide +kernel
theorem dL_law_1254 : decode cL_law 1254 = .ok (.iaload, 1) := by decide +kernel
theorem dL_law_1255 : decode cL_law 1255 = .ok (.aload_n 0, 1) := by decide +kernel
theorem dL_law_1256 : decode cL_law 1256 = .ok (.iload_n 3, 1) := by decide +kernel
theorem dL_law_1257 : decode cL_law 1257 = .ok (.iconst 5, 1) := by decide +kernel
theorem dL_law_1258 : decode cL_law 1258 = .ok (.iadd, 1) := by decide +kernel
theorem dL_law_1259 : decode cL_law 1259 = .ok (.iaload, 1) := by decide +kernel
theorem dL_law_1260 : decode cL_law 1260 = .ok (.invokevirtual 156, 3) := by decide +kernel
theorem dL_law_1263 : decode cL_law 1263 = .ok (.if_icmp .eq 5, 3) := by decide +kernel
theorem dL_law_1266 : decode cL_law 1266 = .ok (.iconst 0, 1) := by decide +kernel
theorem dL_law_1267 : decode cL_law 1267 = .ok (.ireturn, 1) := by decide +kernel
theorem dL_law_1268 : decode cL_law 1268 = .ok (.iinc 3 6, 3) := by decide +kernel
theorem dL_law_1271 : decode cL_law 1271 = .ok (.goto (-1253), 3) := by decide +kernel
theorem dL_law_1274 : decode cL_law 1274 = .ok (.iconst 1, 1) := by decide +kernel
theorem dL_law_1275 : decode cL_law 1275 = .ok (.ireturn, 1) := by decide +kernel
