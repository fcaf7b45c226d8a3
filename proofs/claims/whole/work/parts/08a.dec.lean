theorem dX0_init_0 : decode cX0_init 0 = .ok (.aload_n 0, 1) := by decide +kernel
theorem dX0_init_1 : decode cX0_init 1 = .ok (.invokespecial 3, 3) := by decide +kernel
theorem dX0_init_4 : decode cX0_init 4 = .ok (.aload_n 0, 1) := by decide +kernel
theorem dX0_init_5 : decode cX0_init 5 = .ok (.bipush 20, 2) := by decide +kernel
theorem dX0_init_7 : decode cX0_init 7 = .ok (.newarray .int, 2) := by decide +kernel
theorem dX0_init_9 : decode cX0_init 9 = .ok (.putfield 11, 3) := by decide +kernel
theorem dX0_init_12 : decode cX0_init 12 = .ok (.return_, 1) := by decide +kernel
theorem dX0_above_0 : decode cX0_above 0 = .ok (.iload_n 0, 1) := by decide +kernel
theorem dX0_above_1 : decode cX0_above 1 = .ok (.ifCond .lt 11, 3) := by decide +kernel
theorem dX0_above_4 : decode cX0_above 4 = .ok (.iload_n 0, 1) := by decide +kernel
theorem dX0_above_5 : decode cX0_above 5 = .ok (.getstatic 15, 3) := by decide +kernel
theorem dX0_above_8 : decode cX0_above 8 = .ok (.arraylength, 1) := by decide +kernel
theorem dX0_above_9 : decode cX0_above 9 = .ok (.if_icmp .lt 7, 3) := by decide +kernel
theorem dX0_above_12 : decode cX0_above 12 = .ok (.iconst (-1), 1) := by decide +kernel
theorem dX0_above_13 : decode cX0_above 13 = .ok (.goto 8, 3) := by decide +kernel
theorem dX0_above_16 : decode cX0_above 16 = .ok (.getstatic 15, 3) := by decide +kernel
theorem dX0_above_19 : decode cX0_above 19 = .ok (.iload_n 0, 1) := by decide +kernel
theorem dX0_above_20 : decode cX0_above 20 = .ok (.iaload, 1) := by decide +kernel
theorem dX0_above_21 : decode cX0_above 21 = .ok (.ireturn, 1) := by decide +kernel
theorem dX0_isUnder_0 : decode cX0_isUnder 0 = .ok (.iload_n 0, 1) := by decide +kernel
theorem dX0_isUnder_1 : decode cX0_isUnder 1 = .ok (.istore_n 2, 1) := by decide +kernel
theorem dX0_isUnder_2 : decode cX0_isUnder 2 = .ok (.iconst 0, 1) := by decide +kernel
theorem dX0_isUnder_3 : decode cX0_isUnder 3 = .ok (.istore_n 3, 1) := by decide +kernel
theorem dX0_isUnder_4 : decode cX0_isUnder 4 = .ok (.iload_n 3, 1) := by decide +kernel
theorem dX0_isUnder_5 : decode cX0_isUnder 5 = .ok (.bipush 7, 2) := by decide +kernel
theorem dX0_isUnder_7 : decode cX0_isUnder 7 = .ok (.if_icmp .ge 25, 3) := by decide +kernel
theorem dX0_isUnder_10 : decode cX0_isUnder 10 = .ok (.iload_n 2, 1) := by decide +kernel
theorem dX0_isUnder_11 : decode cX0_isUnder 11 = .ok (.ifCond .lt 21, 3) := by decide +kernel
theorem dX0_isUnder_14 : decode cX0_isUnder 14 = .ok (.iload_n 2, 1) := by decide +kernel
theorem dX0_isUnder_15 : decode cX0_isUnder 15 = .ok (.iload_n 1, 1) := by decide +kernel
theorem dX0_isUnder_16 : decode cX0_isUnder 16 = .ok (.if_icmp .ne 5, 3) := by decide +kernel
theorem dX0_isUnder_19 : decode cX0_isUnder 19 = .ok (.iconst 1, 1) := by decide +kernel
theorem dX0_isUnder_20 : decode cX0_isUnder 20 = .ok (.ireturn, 1) := by decide +kernel
theorem dX0_isUnder_21 : decode cX0_isUnder 21 = .ok (.iload_n 2, 1) := by decide +kernel
theorem dX0_isUnder_22 : decode cX0_isUnder 22 = .ok (.invokestatic 18, 3) := by decide +kernel
theorem dX0_isUnder_25 : decode cX0_isUnder 25 = .ok (.istore_n 2, 1) := by decide +kernel
theorem dX0_isUnder_26 : decode cX0_isUnder 26 = .ok (.iinc 3 1, 3) := by decide +kernel
theorem dX0_isUnder_29 : decode cX0_isUnder 29 = .ok (.goto (-25), 3) := by decide +kernel
theorem dX0_isUnder_32 : decode cX0_isUnder 32 = .ok (.iconst 0, 1) := by decide +kernel
theorem dX0_isUnder_33 : decode cX0_isUnder 33 = .ok (.ireturn, 1) := by decide +kernel
theorem dX0_forget_0 : decode cX0_forget 0 = .ok (.aload_n 0, 1) := by decide +kernel
theorem dX0_forget_1 : decode cX0_forget 1 = .ok (.iconst 0, 1) := by decide +kernel
theorem dX0_forget_2 : decode cX0_forget 2 = .ok (.putfield 22, 3) := by decide +kernel
theorem dX0_forget_5 : decode cX0_forget 5 = .ok (.return_, 1) := by decide +kernel
theorem dX0_bodyAt_0 : decode cX0_bodyAt 0 = .ok (.iload_n 1, 1) := by decide +kernel
theorem dX0_bodyAt_1 : decode cX0_bodyAt 1 = .ok (.ifCond .lt 17, 3) := by decide +kernel
theorem dX0_bodyAt_4 : decode cX0_bodyAt 4 = .ok (.iload_n 1, 1) := by decide +kernel
theorem dX0_bodyAt_5 : decode cX0_bodyAt 5 = .ok (.aload_n 0, 1) := by decide +kernel
theorem dX0_bodyAt_6 : decode cX0_bodyAt 6 = .ok (.getfield 22, 3) := by decide +kernel
theorem dX0_bodyAt_9 : decode cX0_bodyAt 9 = .ok (.if_icmp .ge 9, 3) := by decide +kernel
theorem dX0_bodyAt_12 : decode cX0_bodyAt 12 = .ok (.iload_n 1, 1) := by decide +kernel
theorem dX0_bodyAt_13 : decode cX0_bodyAt 13 = .ok (.bipush 20, 2) := by decide +kernel
theorem dX0_bodyAt_15 : decode cX0_bodyAt 15 = .ok (.if_icmp .lt 7, 3) := by decide +kernel
theorem dX0_bodyAt_18 : decode cX0_bodyAt 18 = .ok (.iconst (-1), 1) := by decide +kernel
theorem dX0_bodyAt_19 : decode cX0_bodyAt 19 = .ok (.goto 9, 3) := by decide +kernel
theorem dX0_bodyAt_22 : decode cX0_bodyAt 22 = .ok (.aload_n 0, 1) := by decide +kernel
theorem dX0_bodyAt_23 : decode cX0_bodyAt 23 = .ok (.getfield 11, 3) := by decide +kernel
theorem dX0_bodyAt_26 : decode cX0_bodyAt 26 = .ok (.iload_n 1, 1) := by decide +kernel
theorem dX0_bodyAt_27 : decode cX0_bodyAt 27 = .ok (.iaload, 1) := by decide +kernel
theorem dX0_bodyAt_28 : decode cX0_bodyAt 28 = .ok (.ireturn, 1) := by decide +kernel
theorem dX0_start_0 : decode cX0_start 0 = .ok (.aload_n 0, 1) := by decide +kernel
theorem dX0_start_1 : decode cX0_start 1 = .ok (.aload_n 1, 1) := by decide +kernel
theorem dX0_start_2 : decode cX0_start 2 = .ok (.getfield 26, 3) := by decide +kernel
theorem dX0_start_5 : decode cX0_start 5 = .ok (.putfield 31, 3) := by decide +kernel
theorem dX0_start_8 : decode cX0_start 8 = .ok (.aload_n 0, 1) := by decide +kernel
theorem dX0_start_9 : decode cX0_start 9 = .ok (.aload_n 1, 1) := by decide +kernel
theorem dX0_start_10 : decode cX0_start 10 = .ok (.getfield 34, 3) := by decide +kernel
theorem dX0_start_13 : decode cX0_start 13 = .ok (.putfield 37, 3) := by decide +kernel
theorem dX0_start_16 : decode cX0_start 16 = .ok (.aload_n 0, 1) := by decide +kernel
theorem dX0_start_17 : decode cX0_start 17 = .ok (.iload_n 2, 1) := by decide +kernel
theorem dX0_start_18 : decode cX0_start 18 = .ok (.putfield 38, 3) := by decide +kernel
theorem dX0_start_21 : decode cX0_start 21 = .ok (.aload_n 0, 1) := by decide +kernel
theorem dX0_start_22 : decode cX0_start 22 = .ok (.aload_n 0, 1) := by decide +kernel
theorem dX0_start_23 : decode cX0_start 23 = .ok (.getfield 31, 3) := by decide +kernel
theorem dX0_start_26 : decode cX0_start 26 = .ok (.iload_n 3, 1) := by decide +kernel
theorem dX0_start_27 : decode cX0_start 27 = .ok (.iload 4, 2) := by decide +kernel
theorem dX0_start_29 : decode cX0_start 29 = .ok (.iconst 0, 1) := by decide +kernel
theorem dX0_start_30 : decode cX0_start 30 = .ok (.invokevirtual 41, 3) := by decide +kernel
theorem dX0_start_33 : decode cX0_start 33 = .ok (.ireturn, 1) := by decide +kernel
theorem dX0_note_0 : decode cX0_note 0 = .ok (.aload_n 0, 1) := by decide +kernel
theorem dX0_note_1 : decode cX0_note 1 = .ok (.getfield 22, 3) := by decide +kernel
theorem dX0_note_4 : decode cX0_note 4 = .ok (.bipush 20, 2) := by decide +kernel
theorem dX0_note_6 : decode cX0_note 6 = .ok (.if_icmp .ge 13, 3) := by decide +kernel
theorem dX0_note_9 : decode cX0_note 9 = .ok (.aload_n 0, 1) := by decide +kernel
theorem dX0_note_10 : decode cX0_note 10 = .ok (.getfield 11, 3) := by decide +kernel
theorem dX0_note_13 : decode cX0_note 13 = .ok (.aload_n 0, 1) := by decide +kernel
theorem dX0_note_14 : decode cX0_note 14 = .ok (.getfield 22, 3) := by decide +kernel
theorem dX0_note_17 : decode cX0_note 17 = .ok (.iload_n 1, 1) := by decide +kernel
theorem dX0_note_18 : decode cX0_note 18 = .ok (.iastore, 1) := by decide +kernel
theorem dX0_note_19 : decode cX0_note 19 = .ok (.aload_n 0, 1) := by decide +kernel
theorem dX0_note_20 : decode cX0_note 20 = .ok (.dup, 1) := by decide +kernel
theorem dX0_note_21 : decode cX0_note 21 = .ok (.getfield 22, 3) := by decide +kernel
theorem dX0_note_24 : decode cX0_note 24 = .ok (.iconst 1, 1) := by decide +kernel
theorem dX0_note_25 : decode cX0_note 25 = .ok (.iadd, 1) := by decide +kernel
theorem dX0_note_26 : decode cX0_note 26 = .ok (.putfield 22, 3) := by decide +kernel
theorem dX0_note_29 : decode cX0_note 29 = .ok (.return_, 1) := by decide +kernel
theorem dX0_bodyFrom_0 : decode cX0_bodyFrom 0 = .ok (.iload_n 0, 1) := by decide +kernel
theorem dX0_bodyFrom_1 : decode cX0_bodyFrom 1 = .ok (.istore_n 2, 1) := by decide +kernel
theorem dX0_bodyFrom_2 : decode cX0_bodyFrom 2 = .ok (.iconst 0, 1) := by decide +kernel
theorem dX0_bodyFrom_3 : decode cX0_bodyFrom 3 = .ok (.istore_n 3, 1) := by decide +kernel
theorem dX0_bodyFrom_4 : decode cX0_bodyFrom 4 = .ok (.iload_n 3, 1) := by decide +kernel
theorem dX0_bodyFrom_5 : decode cX0_bodyFrom 5 = .ok (.bipush 7, 2) := by decide +kernel
theorem dX0_bodyFrom_7 : decode cX0_bodyFrom 7 = .ok (.if_icmp .ge 55, 3) := by decide +kernel
theorem dX0_bodyFrom_10 : decode cX0_bodyFrom 10 = .ok (.iload_n 2, 1) := by decide +kernel
theorem dX0_bodyFrom_11 : decode cX0_bodyFrom 11 = .ok (.ifCond .lt 51, 3) := by decide +kernel
theorem dX0_bodyFrom_14 : decode cX0_bodyFrom 14 = .ok (.iload_n 2, 1) := by decide +kernel
theorem dX0_bodyFrom_15 : decode cX0_bodyFrom 15 = .ok (.iconst 3, 1) := by decide +kernel
theorem dX0_bodyFrom_16 : decode cX0_bodyFrom 16 = .ok (.imul, 1) := by decide +kernel
theorem dX0_bodyFrom_17 : decode cX0_bodyFrom 17 = .ok (.iload_n 1, 1) := by decide +kernel
theorem dX0_bodyFrom_18 : decode cX0_bodyFrom 18 = .ok (.iadd, 1) := by decide +kernel
theorem dX0_bodyFrom_19 : decode cX0_bodyFrom 19 = .ok (.istore 4, 2) := by decide +kernel
theorem dX0_bodyFrom_21 : decode cX0_bodyFrom 21 = .ok (.iload 4, 2) := by decide +kernel
theorem dX0_bodyFrom_23 : decode cX0_bodyFrom 23 = .ok (.ifCond .lt 28, 3) := by decide +kernel
theorem dX0_bodyFrom_26 : decode cX0_bodyFrom 26 = .ok (.iload 4, 2) := by decide +kernel
theorem dX0_bodyFrom_28 : decode cX0_bodyFrom 28 = .ok (.getstatic 45, 3) := by decide +kernel
theorem dX0_bodyFrom_31 : decode cX0_bodyFrom 31 = .ok (.arraylength, 1) := by decide +kernel
theorem dX0_bodyFrom_32 : decode cX0_bodyFrom 32 = .ok (.if_icmp .ge 19, 3) := by decide +kernel
theorem dX0_bodyFrom_35 : decode cX0_bodyFrom 35 = .ok (.getstatic 45, 3) := by decide +kernel
theorem dX0_bodyFrom_38 : decode cX0_bodyFrom 38 = .ok (.iload 4, 2) := by decide +kernel
theorem dX0_bodyFrom_40 : decode cX0_bodyFrom 40 = .ok (.iaload, 1) := by decide +kernel
theorem dX0_bodyFrom_41 : decode cX0_bodyFrom 41 = .ok (.ifCond .eq 10, 3) := by decide +kernel
theorem dX0_bodyFrom_44 : decode cX0_bodyFrom 44 = .ok (.getstatic 45, 3) := by decide +kernel
theorem dX0_bodyFrom_47 : decode cX0_bodyFrom 47 = .ok (.iload 4, 2) := by decide +kernel
theorem dX0_bodyFrom_49 : decode cX0_bodyFrom 49 = .ok (.iaload, 1) := by decide +kernel
theorem dX0_bodyFrom_50 : decode cX0_bodyFrom 50 = .ok (.ireturn, 1) := by decide +kernel
theorem dX0_bodyFrom_51 : decode cX0_bodyFrom 51 = .ok (.iload_n 2, 1) := by decide +kernel
theorem dX0_bodyFrom_52 : decode cX0_bodyFrom 52 = .ok (.invokestatic 18, 3) := by decide +kernel
theorem dX0_bodyFrom_55 : decode cX0_bodyFrom 55 = .ok (.istore_n 2, 1) := by decide +kernel
theorem dX0_bodyFrom_56 : decode cX0_bodyFrom 56 = .ok (.iinc 3 1, 3) := by decide +kernel
theorem dX0_bodyFrom_59 : decode cX0_bodyFrom 59 = .ok (.goto (-55), 3) := by decide +kernel
theorem dX0_bodyFrom_62 : decode cX0_bodyFrom 62 = .ok (.iconst 0, 1) := by decide +kernel
theorem dX0_bodyFrom_63 : decode cX0_bodyFrom 63 = .ok (.ireturn, 1) := by decide +kernel
theorem dX0_perform_0 : decode cX0_perform 0 = .ok (.iload_n 1, 1) := by decide +kernel
theorem dX0_perform_1 : decode cX0_perform 1 = .ok (.iload_n 2, 1) := by decide +kernel
theorem dX0_perform_2 : decode cX0_perform 2 = .ok (.invokestatic 48, 3) := by decide +kernel
theorem dX0_perform_5 : decode cX0_perform 5 = .ok (.istore 5, 2) := by decide +kernel
theorem dX0_perform_7 : decode cX0_perform 7 = .ok (.iload 5, 2) := by decide +kernel
theorem dX0_perform_9 : decode cX0_perform 9 = .ok (.ifCond .eq 10, 3) := by decide +kernel
theorem dX0_perform_12 : decode cX0_perform 12 = .ok (.iload 4, 2) := by decide +kernel
theorem dX0_perform_14 : decode cX0_perform 14 = .ok (.bipush 40, 2) := by decide +kernel
theorem dX0_perform_16 : decode cX0_perform 16 = .ok (.if_icmp .lt 5, 3) := by decide +kernel
theorem dX0_perform_19 : decode cX0_perform 19 = .ok (.iconst 0, 1) := by decide +kernel
theorem dX0_perform_20 : decode cX0_perform 20 = .ok (.ireturn, 1) := by decide +kernel
theorem dX0_perform_21 : decode cX0_perform 21 = .ok (.aload_n 0, 1) := by decide +kernel
theorem dX0_perform_22 : decode cX0_perform 22 = .ok (.iload 5, 2) := by decide +kernel
theorem dX0_perform_24 : decode cX0_perform 24 = .ok (.invokevirtual 52, 3) := by decide +kernel
theorem dX0_perform_27 : decode cX0_perform 27 = .ok (.aload_n 0, 1) := by decide +kernel
theorem dX0_perform_28 : decode cX0_perform 28 = .ok (.iload 5, 2) := by decide +kernel
theorem dX0_perform_30 : decode cX0_perform 30 = .ok (.iload_n 3, 1) := by decide +kernel
theorem dX0_perform_31 : decode cX0_perform 31 = .ok (.iload 4, 2) := by decide +kernel
theorem dX0_perform_33 : decode cX0_perform 33 = .ok (.iconst 1, 1) := by decide +kernel
theorem dX0_perform_34 : decode cX0_perform 34 = .ok (.iadd, 1) := by decide +kernel
theorem dX0_perform_35 : decode cX0_perform 35 = .ok (.invokevirtual 56, 3) := by decide +kernel
theorem dX0_perform_38 : decode cX0_perform 38 = .ok (.ireturn, 1) := by decide +kernel
theorem dX0_run_0 : decode cX0_run 0 = .ok (.iload_n 1, 1) := by decide +kernel
theorem dX0_run_1 : decode cX0_run 1 = .ok (.lookupswitch 248 #[(10, 99), (11, 106), (12, 123), (20, 137), (30, 149), (40, 160), (50, 181), (51, 191), (60, 202), (70, 216), (71, 234)], 99) := by decide +kernel
theorem dX0_run_100 : decode cX0_run 100 = .ok (.iload_n 2, 1) := by decide +kernel
theorem dX0_run_101 : decode cX0_run 101 = .ok (.aload_n 0, 1) := by decide +kernel
theorem dX0_run_102 : decode cX0_run 102 = .ok (.getfield 38, 3) := by decide +kernel
theorem dX0_run_105 : decode cX0_run 105 = .ok (.iadd, 1) := by decide +kernel
theorem dX0_run_106 : decode cX0_run 106 = .ok (.ireturn, 1) := by decide +kernel
theorem dX0_run_107 : decode cX0_run 107 = .ok (.aload_n 0, 1) := by decide +kernel
theorem dX0_run_108 : decode cX0_run 108 = .ok (.aload_n 0, 1) := by decide +kernel
theorem dX0_run_109 : decode cX0_run 109 = .ok (.getfield 31, 3) := by decide +kernel
theorem dX0_run_112 : decode cX0_run 112 = .ok (.iconst 0, 1) := by decide +kernel
theorem dX0_run_113 : decode cX0_run 113 = .ok (.iload_n 2, 1) := by decide +kernel
theorem dX0_run_114 : decode cX0_run 114 = .ok (.iload_n 3, 1) := by decide +kernel
theorem dX0_run_115 : decode cX0_run 115 = .ok (.invokevirtual 41, 3) := by decide +kernel
theorem dX0_run_118 : decode cX0_run 118 = .ok (.aload_n 0, 1) := by decide +kernel
theorem dX0_run_119 : decode cX0_run 119 = .ok (.getfield 37, 3) := by decide +kernel
theorem dX0_run_122 : decode cX0_run 122 = .ok (.isub, 1) := by decide +kernel
theorem dX0_run_123 : decode cX0_run 123 = .ok (.ireturn, 1) := by decide +kernel
theorem dX0_run_124 : decode cX0_run 124 = .ok (.aload_n 0, 1) := by decide +kernel
theorem dX0_run_125 : decode cX0_run 125 = .ok (.aload_n 0, 1) := by decide +kernel
theorem dX0_run_126 : decode cX0_run 126 = .ok (.getfield 31, 3) := by decide +kernel
theorem dX0_run_129 : decode cX0_run 129 = .ok (.iconst 1, 1) := by decide +kernel
theorem dX0_run_130 : decode cX0_run 130 = .ok (.iload_n 2, 1) := by decide +kernel
theorem dX0_run_131 : decode cX0_run 131 = .ok (.iload_n 3, 1) := by decide +kernel
theorem dX0_run_132 : decode cX0_run 132 = .ok (.invokevirtual 41, 3) := by decide +kernel
theorem dX0_run_135 : decode cX0_run 135 = .ok (.iconst 2, 1) := by decide +kernel
theorem dX0_run_136 : decode cX0_run 136 = .ok (.imul, 1) := by decide +kernel
theorem dX0_run_137 : decode cX0_run 137 = .ok (.ireturn, 1) := by decide +kernel
theorem dX0_run_138 : decode cX0_run 138 = .ok (.aload_n 0, 1) := by decide +kernel
theorem dX0_run_139 : decode cX0_run 139 = .ok (.iconst 0, 1) := by decide +kernel
theorem dX0_run_140 : decode cX0_run 140 = .ok (.iconst 1, 1) := by decide +kernel
theorem dX0_run_141 : decode cX0_run 141 = .ok (.iload_n 2, 1) := by decide +kernel
theorem dX0_run_142 : decode cX0_run 142 = .ok (.iload_n 3, 1) := by decide +kernel
theorem dX0_run_143 : decode cX0_run 143 = .ok (.invokevirtual 41, 3) := by decide +kernel
theorem dX0_run_146 : decode cX0_run 146 = .ok (.bipush 6, 2) := by decide +kernel
theorem dX0_run_148 : decode cX0_run 148 = .ok (.ixor, 1) := by decide +kernel
theorem dX0_run_149 : decode cX0_run 149 = .ok (.ireturn, 1) := by decide +kernel
theorem dX0_run_150 : decode cX0_run 150 = .ok (.aload_n 0, 1) := by decide +kernel
theorem dX0_run_151 : decode cX0_run 151 = .ok (.iconst 0, 1) := by decide +kernel
theorem dX0_run_152 : decode cX0_run 152 = .ok (.iconst 0, 1) := by decide +kernel
theorem dX0_run_153 : decode cX0_run 153 = .ok (.iload_n 2, 1) := by decide +kernel
theorem dX0_run_154 : decode cX0_run 154 = .ok (.iconst 3, 1) := by decide +kernel
theorem dX0_run_155 : decode cX0_run 155 = .ok (.imul, 1) := by decide +kernel
theorem dX0_run_156 : decode cX0_run 156 = .ok (.iload_n 3, 1) := by decide +kernel
theorem dX0_run_157 : decode cX0_run 157 = .ok (.invokevirtual 41, 3) := by decide +kernel
theorem dX0_run_160 : decode cX0_run 160 = .ok (.ireturn, 1) := by decide +kernel
theorem dX0_run_161 : decode cX0_run 161 = .ok (.aload_n 0, 1) := by decide +kernel
theorem dX0_run_162 : decode cX0_run 162 = .ok (.iconst 0, 1) := by decide +kernel
theorem dX0_run_163 : decode cX0_run 163 = .ok (.iconst 2, 1) := by decide +kernel
theorem dX0_run_164 : decode cX0_run 164 = .ok (.iload_n 2, 1) := by decide +kernel
theorem dX0_run_165 : decode cX0_run 165 = .ok (.iload_n 3, 1) := by decide +kernel
theorem dX0_run_166 : decode cX0_run 166 = .ok (.invokevirtual 41, 3) := by decide +kernel
theorem dX0_run_169 : decode cX0_run 169 = .ok (.aload_n 0, 1) := by decide +kernel
theorem dX0_run_170 : decode cX0_run 170 = .ok (.aload_n 0, 1) := by decide +kernel
theorem dX0_run_171 : decode cX0_run 171 = .ok (.getfield 31, 3) := by decide +kernel
theorem dX0_run_174 : decode cX0_run 174 = .ok (.iconst 1, 1) := by decide +kernel
theorem dX0_run_175 : decode cX0_run 175 = .ok (.iconst 1, 1) := by decide +kernel
theorem dX0_run_176 : decode cX0_run 176 = .ok (.iload_n 3, 1) := by decide +kernel
theorem dX0_run_177 : decode cX0_run 177 = .ok (.invokevirtual 41, 3) := by decide +kernel
theorem dX0_run_180 : decode cX0_run 180 = .ok (.iadd, 1) := by decide +kernel
theorem dX0_run_181 : decode cX0_run 181 = .ok (.ireturn, 1) := by decide +kernel
theorem dX0_run_182 : decode cX0_run 182 = .ok (.aload_n 0, 1) := by decide +kernel
theorem dX0_run_183 : decode cX0_run 183 = .ok (.iconst 1, 1) := by decide +kernel
theorem dX0_run_184 : decode cX0_run 184 = .ok (.iconst 0, 1) := by decide +kernel
theorem dX0_run_185 : decode cX0_run 185 = .ok (.iload_n 2, 1) := by decide +kernel
theorem dX0_run_186 : decode cX0_run 186 = .ok (.iload_n 3, 1) := by decide +kernel
theorem dX0_run_187 : decode cX0_run 187 = .ok (.invokevirtual 41, 3) := by decide +kernel
theorem dX0_run_190 : decode cX0_run 190 = .ok (.ineg, 1) := by decide +kernel
theorem dX0_run_191 : decode cX0_run 191 = .ok (.ireturn, 1) := by decide +kernel
theorem dX0_run_192 : decode cX0_run 192 = .ok (.aload_n 0, 1) := by decide +kernel
theorem dX0_run_193 : decode cX0_run 193 = .ok (.iconst 1, 1) := by decide +kernel
theorem dX0_run_194 : decode cX0_run 194 = .ok (.iconst 1, 1) := by decide +kernel
theorem dX0_run_195 : decode cX0_run 195 = .ok (.iload_n 2, 1) := by decide +kernel
theorem dX0_run_196 : decode cX0_run 196 = .ok (.iconst 1, 1) := by decide +kernel
theorem dX0_run_197 : decode cX0_run 197 = .ok (.iadd, 1) := by decide +kernel
theorem dX0_run_198 : decode cX0_run 198 = .ok (.iload_n 3, 1) := by decide +kernel
theorem dX0_run_199 : decode cX0_run 199 = .ok (.invokevirtual 41, 3) := by decide +kernel
theorem dX0_run_202 : decode cX0_run 202 = .ok (.ireturn, 1) := by decide +kernel
theorem dX0_run_203 : decode cX0_run 203 = .ok (.aload_n 0, 1) := by decide +kernel
theorem dX0_run_204 : decode cX0_run 204 = .ok (.iconst 2, 1) := by decide +kernel
theorem dX0_run_205 : decode cX0_run 205 = .ok (.iconst 2, 1) := by decide +kernel
theorem dX0_run_206 : decode cX0_run 206 = .ok (.iload_n 2, 1) := by decide +kernel
theorem dX0_run_207 : decode cX0_run 207 = .ok (.aload_n 0, 1) := by decide +kernel
theorem dX0_run_208 : decode cX0_run 208 = .ok (.getfield 38, 3) := by decide +kernel
theorem dX0_run_211 : decode cX0_run 211 = .ok (.isub, 1) := by decide +kernel
theorem dX0_run_212 : decode cX0_run 212 = .ok (.iload_n 3, 1) := by decide +kernel
theorem dX0_run_213 : decode cX0_run 213 = .ok (.invokevirtual 41, 3) := by decide +kernel
theorem dX0_run_216 : decode cX0_run 216 = .ok (.ireturn, 1) := by decide +kernel
theorem dX0_run_217 : decode cX0_run 217 = .ok (.aload_n 0, 1) := by decide +kernel
theorem dX0_run_218 : decode cX0_run 218 = .ok (.iconst 3, 1) := by decide +kernel
theorem dX0_run_219 : decode cX0_run 219 = .ok (.iconst 1, 1) := by decide +kernel
theorem dX0_run_220 : decode cX0_run 220 = .ok (.iload_n 2, 1) := by decide +kernel
theorem dX0_run_221 : decode cX0_run 221 = .ok (.iload_n 3, 1) := by decide +kernel
theorem dX0_run_222 : decode cX0_run 222 = .ok (.invokevirtual 41, 3) := by decide +kernel
theorem dX0_run_225 : decode cX0_run 225 = .ok (.aload_n 0, 1) := by decide +kernel
theorem dX0_run_226 : decode cX0_run 226 = .ok (.iconst 3, 1) := by decide +kernel
theorem dX0_run_227 : decode cX0_run 227 = .ok (.iconst 0, 1) := by decide +kernel
theorem dX0_run_228 : decode cX0_run 228 = .ok (.iconst 2, 1) := by decide +kernel
theorem dX0_run_229 : decode cX0_run 229 = .ok (.iload_n 3, 1) := by decide +kernel
theorem dX0_run_230 : decode cX0_run 230 = .ok (.invokevirtual 41, 3) := by decide +kernel
theorem dX0_run_233 : decode cX0_run 233 = .ok (.iadd, 1) := by decide +kernel
theorem dX0_run_234 : decode cX0_run 234 = .ok (.ireturn, 1) := by decide +kernel
theorem dX0_run_235 : decode cX0_run 235 = .ok (.aload_n 0, 1) := by decide +kernel
theorem dX0_run_236 : decode cX0_run 236 = .ok (.iconst 3, 1) := by decide +kernel
theorem dX0_run_237 : decode cX0_run 237 = .ok (.iconst 0, 1) := by decide +kernel
theorem dX0_run_238 : decode cX0_run 238 = .ok (.iload_n 2, 1) := by decide +kernel
theorem dX0_run_239 : decode cX0_run 239 = .ok (.iload_n 3, 1) := by decide +kernel
theorem dX0_run_240 : decode cX0_run 240 = .ok (.invokevirtual 41, 3) := by decide +kernel
theorem dX0_run_243 : decode cX0_run 243 = .ok (.aload_n 0, 1) := by decide +kernel
theorem dX0_run_244 : decode cX0_run 244 = .ok (.getfield 37, 3) := by decide +kernel
theorem dX0_run_247 : decode cX0_run 247 = .ok (.ixor, 1) := by decide +kernel
theorem dX0_run_248 : decode cX0_run 248 = .ok (.ireturn, 1) := by decide +kernel
theorem dX0_run_249 : decode cX0_run 249 = .ok (.iconst 0, 1) := by decide +kernel
theorem dX0_run_250 : decode cX0_run 250 = .ok (.ireturn, 1) := by decide +kernel
theorem dX1_init_0 : decode cX1_init 0 = .ok (.aload_n 0, 1) := by decide +kernel
theorem dX1_init_1 : decode cX1_init 1 = .ok (.invokespecial 1, 3) := by decide +kernel
theorem dX1_init_4 : decode cX1_init 4 = .ok (.aload_n 0, 1) := by decide +kernel
theorem dX1_init_5 : decode cX1_init 5 = .ok (.bipush 100, 2) := by decide +kernel
theorem dX1_init_7 : decode cX1_init 7 = .ok (.newarray .int, 2) := by decide +kernel
theorem dX1_init_9 : decode cX1_init 9 = .ok (.putfield 9, 3) := by decide +kernel
theorem dX1_init_12 : decode cX1_init 12 = .ok (.aload_n 0, 1) := by decide +kernel
theorem dX1_init_13 : decode cX1_init 13 = .ok (.bipush 6, 2) := by decide +kernel
theorem dX1_init_15 : decode cX1_init 15 = .ok (.newarray .int, 2) := by decide +kernel
theorem dX1_init_17 : decode cX1_init 17 = .ok (.putfield 13, 3) := by decide +kernel
theorem dX1_init_20 : decode cX1_init 20 = .ok (.return_, 1) := by decide +kernel
theorem dX1_clear_0 : decode cX1_clear 0 = .ok (.aload_n 0, 1) := by decide +kernel
theorem dX1_clear_1 : decode cX1_clear 1 = .ok (.iconst 0, 1) := by decide +kernel
theorem dX1_clear_2 : decode cX1_clear 2 = .ok (.putfield 16, 3) := by decide +kernel
theorem dX1_clear_5 : decode cX1_clear 5 = .ok (.aload_n 0, 1) := by decide +kernel
theorem dX1_clear_6 : decode cX1_clear 6 = .ok (.iconst 5, 1) := by decide +kernel
theorem dX1_clear_7 : decode cX1_clear 7 = .ok (.putfield 20, 3) := by decide +kernel
theorem dX1_clear_10 : decode cX1_clear 10 = .ok (.return_, 1) := by decide +kernel
theorem dX1_addCode_0 : decode cX1_addCode 0 = .ok (.aload_n 0, 1) := by decide +kernel
theorem dX1_addCode_1 : decode cX1_addCode 1 = .ok (.getfield 16, 3) := by decide +kernel
theorem dX1_addCode_4 : decode cX1_addCode 4 = .ok (.bipush 100, 2) := by decide +kernel
theorem dX1_addCode_6 : decode cX1_addCode 6 = .ok (.if_icmp .ge 23, 3) := by decide +kernel
theorem dX1_addCode_9 : decode cX1_addCode 9 = .ok (.aload_n 0, 1) := by decide +kernel
theorem dX1_addCode_10 : decode cX1_addCode 10 = .ok (.getfield 9, 3) := by decide +kernel
theorem dX1_addCode_13 : decode cX1_addCode 13 = .ok (.aload_n 0, 1) := by decide +kernel
theorem dX1_addCode_14 : decode cX1_addCode 14 = .ok (.getfield 16, 3) := by decide +kernel
theorem dX1_addCode_17 : decode cX1_addCode 17 = .ok (.iload_n 1, 1) := by decide +kernel
theorem dX1_addCode_18 : decode cX1_addCode 18 = .ok (.iastore, 1) := by decide +kernel
theorem dX1_addCode_19 : decode cX1_addCode 19 = .ok (.aload_n 0, 1) := by decide +kernel
theorem dX1_addCode_20 : decode cX1_addCode 20 = .ok (.dup, 1) := by decide +kernel
theorem dX1_addCode_21 : decode cX1_addCode 21 = .ok (.getfield 16, 3) := by decide +kernel
theorem dX1_addCode_24 : decode cX1_addCode 24 = .ok (.iconst 1, 1) := by decide +kernel
theorem dX1_addCode_25 : decode cX1_addCode 25 = .ok (.iadd, 1) := by decide +kernel
theorem dX1_addCode_26 : decode cX1_addCode 26 = .ok (.putfield 16, 3) := by decide +kernel
theorem dX1_addCode_29 : decode cX1_addCode 29 = .ok (.return_, 1) := by decide +kernel
theorem dX1_addTest_0 : decode cX1_addTest 0 = .ok (.aload_n 0, 1) := by decide +kernel
theorem dX1_addTest_1 : decode cX1_addTest 1 = .ok (.iconst 3, 1) := by decide +kernel
theorem dX1_addTest_2 : decode cX1_addTest 2 = .ok (.iload_n 1, 1) := by decide +kernel
theorem dX1_addTest_3 : decode cX1_addTest 3 = .ok (.iconst 3, 1) := by decide +kernel
theorem dX1_addTest_4 : decode cX1_addTest 4 = .ok (.imul, 1) := by decide +kernel
theorem dX1_addTest_5 : decode cX1_addTest 5 = .ok (.iload_n 2, 1) := by decide +kernel
theorem dX1_addTest_6 : decode cX1_addTest 6 = .ok (.iadd, 1) := by decide +kernel
theorem dX1_addTest_7 : decode cX1_addTest 7 = .ok (.bipush 100, 2) := by decide +kernel
theorem dX1_addTest_9 : decode cX1_addTest 9 = .ok (.imul, 1) := by decide +kernel
theorem dX1_addTest_10 : decode cX1_addTest 10 = .ok (.iadd, 1) := by decide +kernel
theorem dX1_addTest_11 : decode cX1_addTest 11 = .ok (.iload_n 3, 1) := by decide +kernel
theorem dX1_addTest_12 : decode cX1_addTest 12 = .ok (.iadd, 1) := by decide +kernel
theorem dX1_addTest_13 : decode cX1_addTest 13 = .ok (.invokevirtual 23, 3) := by decide +kernel
theorem dX1_addTest_16 : decode cX1_addTest 16 = .ok (.return_, 1) := by decide +kernel
theorem dX1_addWorth_0 : decode cX1_addWorth 0 = .ok (.aload_n 0, 1) := by decide +kernel
theorem dX1_addWorth_1 : decode cX1_addWorth 1 = .ok (.sipush 10000, 3) := by decide +kernel
theorem dX1_addWorth_4 : decode cX1_addWorth 4 = .ok (.iload_n 1, 1) := by decide +kernel
theorem dX1_addWorth_5 : decode cX1_addWorth 5 = .ok (.iadd, 1) := by decide +kernel
theorem dX1_addWorth_6 : decode cX1_addWorth 6 = .ok (.invokevirtual 23, 3) := by decide +kernel
theorem dX1_addWorth_9 : decode cX1_addWorth 9 = .ok (.return_, 1) := by decide +kernel
theorem dX1_bonus_0 : decode cX1_bonus 0 = .ok (.aload_n 0, 1) := by decide +kernel
theorem dX1_bonus_1 : decode cX1_bonus 1 = .ok (.getfield 13, 3) := by decide +kernel
theorem dX1_bonus_4 : decode cX1_bonus 4 = .ok (.iconst 0, 1) := by decide +kernel
theorem dX1_bonus_5 : decode cX1_bonus 5 = .ok (.iload_n 2, 1) := by decide +kernel
theorem dX1_bonus_6 : decode cX1_bonus 6 = .ok (.iastore, 1) := by decide +kernel
theorem dX1_bonus_7 : decode cX1_bonus 7 = .ok (.aload_n 0, 1) := by decide +kernel
theorem dX1_bonus_8 : decode cX1_bonus 8 = .ok (.getfield 13, 3) := by decide +kernel
theorem dX1_bonus_11 : decode cX1_bonus 11 = .ok (.iconst 1, 1) := by decide +kernel
theorem dX1_bonus_12 : decode cX1_bonus 12 = .ok (.aload_n 1, 1) := by decide +kernel
theorem dX1_bonus_13 : decode cX1_bonus 13 = .ok (.ifnonnull 7, 3) := by decide +kernel
theorem dX1_bonus_16 : decode cX1_bonus 16 = .ok (.iconst 0, 1) := by decide +kernel
theorem dX1_bonus_17 : decode cX1_bonus 17 = .ok (.goto 7, 3) := by decide +kernel
theorem dX1_bonus_20 : decode cX1_bonus 20 = .ok (.aload_n 1, 1) := by decide +kernel
theorem dX1_bonus_21 : decode cX1_bonus 21 = .ok (.getfield 27, 3) := by decide +kernel
theorem dX1_bonus_24 : decode cX1_bonus 24 = .ok (.iastore, 1) := by decide +kernel
theorem dX1_bonus_25 : decode cX1_bonus 25 = .ok (.aload_n 0, 1) := by decide +kernel
theorem dX1_bonus_26 : decode cX1_bonus 26 = .ok (.getfield 13, 3) := by decide +kernel
theorem dX1_bonus_29 : decode cX1_bonus 29 = .ok (.iconst 2, 1) := by decide +kernel
theorem dX1_bonus_30 : decode cX1_bonus 30 = .ok (.iload_n 3, 1) := by decide +kernel
theorem dX1_bonus_31 : decode cX1_bonus 31 = .ok (.iastore, 1) := by decide +kernel
theorem dX1_bonus_32 : decode cX1_bonus 32 = .ok (.aload_n 0, 1) := by decide +kernel
theorem dX1_bonus_33 : decode cX1_bonus 33 = .ok (.getfield 13, 3) := by decide +kernel
theorem dX1_bonus_36 : decode cX1_bonus 36 = .ok (.iconst 3, 1) := by decide +kernel
theorem dX1_bonus_37 : decode cX1_bonus 37 = .ok (.aload_n 1, 1) := by decide +kernel
theorem dX1_bonus_38 : decode cX1_bonus 38 = .ok (.ifnonnull 7, 3) := by decide +kernel
theorem dX1_bonus_41 : decode cX1_bonus 41 = .ok (.iconst 0, 1) := by decide +kernel
theorem dX1_bonus_42 : decode cX1_bonus 42 = .ok (.goto 10, 3) := by decide +kernel
theorem dX1_bonus_45 : decode cX1_bonus 45 = .ok (.aload_n 1, 1) := by decide +kernel
theorem dX1_bonus_46 : decode cX1_bonus 46 = .ok (.getfield 32, 3) := by decide +kernel
theorem dX1_bonus_49 : decode cX1_bonus 49 = .ok (.bipush 10, 2) := by decide +kernel
theorem dX1_bonus_51 : decode cX1_bonus 51 = .ok (.idiv, 1) := by decide +kernel
theorem dX1_bonus_52 : decode cX1_bonus 52 = .ok (.iastore, 1) := by decide +kernel
theorem dX1_bonus_53 : decode cX1_bonus 53 = .ok (.aload_n 0, 1) := by decide +kernel
theorem dX1_bonus_54 : decode cX1_bonus 54 = .ok (.getfield 13, 3) := by decide +kernel
theorem dX1_bonus_57 : decode cX1_bonus 57 = .ok (.iconst 4, 1) := by decide +kernel
theorem dX1_bonus_58 : decode cX1_bonus 58 = .ok (.iload 4, 2) := by decide +kernel
theorem dX1_bonus_60 : decode cX1_bonus 60 = .ok (.iastore, 1) := by decide +kernel
theorem dX1_bonus_61 : decode cX1_bonus 61 = .ok (.aload_n 0, 1) := by decide +kernel
theorem dX1_bonus_62 : decode cX1_bonus 62 = .ok (.getfield 13, 3) := by decide +kernel
theorem dX1_bonus_65 : decode cX1_bonus 65 = .ok (.iconst 5, 1) := by decide +kernel
theorem dX1_bonus_66 : decode cX1_bonus 66 = .ok (.iload 5, 2) := by decide +kernel
theorem dX1_bonus_68 : decode cX1_bonus 68 = .ok (.bipush 10, 2) := by decide +kernel
theorem dX1_bonus_70 : decode cX1_bonus 70 = .ok (.irem, 1) := by decide +kernel
theorem dX1_bonus_71 : decode cX1_bonus 71 = .ok (.iastore, 1) := by decide +kernel
theorem dX1_bonus_72 : decode cX1_bonus 72 = .ok (.iconst 0, 1) := by decide +kernel
theorem dX1_bonus_73 : decode cX1_bonus 73 = .ok (.istore 6, 2) := by decide +kernel
theorem dX1_bonus_75 : decode cX1_bonus 75 = .ok (.iconst 0, 1) := by decide +kernel
theorem dX1_bonus_76 : decode cX1_bonus 76 = .ok (.istore 7, 2) := by decide +kernel
theorem dX1_bonus_78 : decode cX1_bonus 78 = .ok (.iconst 0, 1) := by decide +kernel
theorem dX1_bonus_79 : decode cX1_bonus 79 = .ok (.istore 8, 2) := by decide +kernel
theorem dX1_bonus_81 : decode cX1_bonus 81 = .ok (.iload 8, 2) := by decide +kernel
theorem dX1_bonus_83 : decode cX1_bonus 83 = .ok (.aload_n 0, 1) := by decide +kernel
theorem dX1_bonus_84 : decode cX1_bonus 84 = .ok (.getfield 16, 3) := by decide +kernel
theorem dX1_bonus_87 : decode cX1_bonus 87 = .ok (.if_icmp .ge 135, 3) := by decide +kernel
theorem dX1_bonus_90 : decode cX1_bonus 90 = .ok (.iload 8, 2) := by decide +kernel
theorem dX1_bonus_92 : decode cX1_bonus 92 = .ok (.bipush 100, 2) := by decide +kernel
theorem dX1_bonus_94 : decode cX1_bonus 94 = .ok (.if_icmp .ge 128, 3) := by decide +kernel
theorem dX1_bonus_97 : decode cX1_bonus 97 = .ok (.aload_n 0, 1) := by decide +kernel
theorem dX1_bonus_98 : decode cX1_bonus 98 = .ok (.getfield 9, 3) := by decide +kernel
theorem dX1_bonus_101 : decode cX1_bonus 101 = .ok (.iload 8, 2) := by decide +kernel
theorem dX1_bonus_103 : decode cX1_bonus 103 = .ok (.iaload, 1) := by decide +kernel
theorem dX1_bonus_104 : decode cX1_bonus 104 = .ok (.istore 9, 2) := by decide +kernel
theorem dX1_bonus_106 : decode cX1_bonus 106 = .ok (.iload 7, 2) := by decide +kernel
theorem dX1_bonus_108 : decode cX1_bonus 108 = .ok (.iconst 1, 1) := by decide +kernel
theorem dX1_bonus_109 : decode cX1_bonus 109 = .ok (.iand, 1) := by decide +kernel
theorem dX1_bonus_110 : decode cX1_bonus 110 = .ok (.istore 10, 2) := by decide +kernel
theorem dX1_bonus_112 : decode cX1_bonus 112 = .ok (.iload 9, 2) := by decide +kernel
theorem dX1_bonus_114 : decode cX1_bonus 114 = .ok (.ifCond .ne 12, 3) := by decide +kernel
theorem dX1_bonus_117 : decode cX1_bonus 117 = .ok (.iload 7, 2) := by decide +kernel
theorem dX1_bonus_119 : decode cX1_bonus 119 = .ok (.iconst 1, 1) := by decide +kernel
theorem dX1_bonus_120 : decode cX1_bonus 120 = .ok (.ixor, 1) := by decide +kernel
theorem dX1_bonus_121 : decode cX1_bonus 121 = .ok (.istore 7, 2) := by decide +kernel
theorem dX1_bonus_123 : decode cX1_bonus 123 = .ok (.goto 93, 3) := by decide +kernel
theorem dX1_bonus_126 : decode cX1_bonus 126 = .ok (.iload 9, 2) := by decide +kernel
theorem dX1_bonus_128 : decode cX1_bonus 128 = .ok (.iconst 1, 1) := by decide +kernel
theorem dX1_bonus_129 : decode cX1_bonus 129 = .ok (.if_icmp .ne 18, 3) := by decide +kernel
theorem dX1_bonus_132 : decode cX1_bonus 132 = .ok (.iload 7, 2) := by decide +kernel
theorem dX1_bonus_134 : decode cX1_bonus 134 = .ok (.iconst 1, 1) := by decide +kernel
theorem dX1_bonus_135 : decode cX1_bonus 135 = .ok (.iushr, 1) := by decide +kernel
theorem dX1_bonus_136 : decode cX1_bonus 136 = .ok (.iload 10, 2) := by decide +kernel
theorem dX1_bonus_138 : decode cX1_bonus 138 = .ok (.bipush (-2), 2) := by decide +kernel
theorem dX1_bonus_140 : decode cX1_bonus 140 = .ok (.ior, 1) := by decide +kernel
theorem dX1_bonus_141 : decode cX1_bonus 141 = .ok (.iand, 1) := by decide +kernel
theorem dX1_bonus_142 : decode cX1_bonus 142 = .ok (.istore 7, 2) := by decide +kernel
theorem dX1_bonus_144 : decode cX1_bonus 144 = .ok (.goto 72, 3) := by decide +kernel
theorem dX1_bonus_147 : decode cX1_bonus 147 = .ok (.iload 9, 2) := by decide +kernel
theorem dX1_bonus_149 : decode cX1_bonus 149 = .ok (.iconst 2, 1) := by decide +kernel
theorem dX1_bonus_150 : decode cX1_bonus 150 = .ok (.if_icmp .ne 15, 3) := by decide +kernel
theorem dX1_bonus_153 : decode cX1_bonus 153 = .ok (.iload 7, 2) := by decide +kernel
theorem dX1_bonus_155 : decode cX1_bonus 155 = .ok (.iconst 1, 1) := by decide +kernel
theorem dX1_bonus_156 : decode cX1_bonus 156 = .ok (.iushr, 1) := by decide +kernel
theorem dX1_bonus_157 : decode cX1_bonus 157 = .ok (.iload 10, 2) := by decide +kernel
theorem dX1_bonus_159 : decode cX1_bonus 159 = .ok (.ior, 1) := by decide +kernel
theorem dX1_bonus_160 : decode cX1_bonus 160 = .ok (.istore 7, 2) := by decide +kernel
theorem dX1_bonus_162 : decode cX1_bonus 162 = .ok (.goto 54, 3) := by decide +kernel
theorem dX1_bonus_165 : decode cX1_bonus 165 = .ok (.iload 9, 2) := by decide +kernel
theorem dX1_bonus_167 : decode cX1_bonus 167 = .ok (.sipush 9900, 3) := by decide +kernel
theorem dX1_bonus_170 : decode cX1_bonus 170 = .ok (.if_icmp .ge 29, 3) := by decide +kernel
theorem dX1_bonus_173 : decode cX1_bonus 173 = .ok (.iload 7, 2) := by decide +kernel
theorem dX1_bonus_175 : decode cX1_bonus 175 = .ok (.iconst 1, 1) := by decide +kernel
theorem dX1_bonus_176 : decode cX1_bonus 176 = .ok (.ishl, 1) := by decide +kernel
theorem dX1_bonus_177 : decode cX1_bonus 177 = .ok (.aload_n 0, 1) := by decide +kernel
theorem dX1_bonus_178 : decode cX1_bonus 178 = .ok (.iload 9, 2) := by decide +kernel
theorem dX1_bonus_180 : decode cX1_bonus 180 = .ok (.iconst 3, 1) := by decide +kernel
theorem dX1_bonus_181 : decode cX1_bonus 181 = .ok (.isub, 1) := by decide +kernel
theorem dX1_bonus_182 : decode cX1_bonus 182 = .ok (.invokevirtual 35, 3) := by decide +kernel
theorem dX1_bonus_185 : decode cX1_bonus 185 = .ok (.ifCond .eq 7, 3) := by decide +kernel
theorem dX1_bonus_188 : decode cX1_bonus 188 = .ok (.iconst 1, 1) := by decide +kernel
theorem dX1_bonus_189 : decode cX1_bonus 189 = .ok (.goto 4, 3) := by decide +kernel
theorem dX1_bonus_192 : decode cX1_bonus 192 = .ok (.iconst 0, 1) := by decide +kernel
theorem dX1_bonus_193 : decode cX1_bonus 193 = .ok (.ior, 1) := by decide +kernel
theorem dX1_bonus_194 : decode cX1_bonus 194 = .ok (.istore 7, 2) := by decide +kernel
theorem dX1_bonus_196 : decode cX1_bonus 196 = .ok (.goto 20, 3) := by decide +kernel
theorem dX1_bonus_199 : decode cX1_bonus 199 = .ok (.iload 6, 2) := by decide +kernel
theorem dX1_bonus_201 : decode cX1_bonus 201 = .ok (.iload 10, 2) := by decide +kernel
theorem dX1_bonus_203 : decode cX1_bonus 203 = .ok (.iload 9, 2) := by decide +kernel
theorem dX1_bonus_205 : decode cX1_bonus 205 = .ok (.sipush 10000, 3) := by decide +kernel
theorem dX1_bonus_208 : decode cX1_bonus 208 = .ok (.isub, 1) := by decide +kernel
theorem dX1_bonus_209 : decode cX1_bonus 209 = .ok (.imul, 1) := by decide +kernel
theorem dX1_bonus_210 : decode cX1_bonus 210 = .ok (.iadd, 1) := by decide +kernel
theorem dX1_bonus_211 : decode cX1_bonus 211 = .ok (.istore 6, 2) := by decide +kernel
theorem dX1_bonus_213 : decode cX1_bonus 213 = .ok (.iconst 0, 1) := by decide +kernel
theorem dX1_bonus_214 : decode cX1_bonus 214 = .ok (.istore 7, 2) := by decide +kernel
theorem dX1_bonus_216 : decode cX1_bonus 216 = .ok (.iinc 8 1, 3) := by decide +kernel
theorem dX1_bonus_219 : decode cX1_bonus 219 = .ok (.goto (-138), 3) := by decide +kernel
theorem dX1_bonus_222 : decode cX1_bonus 222 = .ok (.iload 6, 2) := by decide +kernel
theorem dX1_bonus_224 : decode cX1_bonus 224 = .ok (.ireturn, 1) := by decide +kernel
theorem dX1_testHolds_0 : decode cX1_testHolds 0 = .ok (.iload_n 1, 1) := by decide +kernel
theorem dX1_testHolds_1 : decode cX1_testHolds 1 = .ok (.bipush 100, 2) := by decide +kernel
theorem dX1_testHolds_3 : decode cX1_testHolds 3 = .ok (.irem, 1) := by decide +kernel
theorem dX1_testHolds_4 : decode cX1_testHolds 4 = .ok (.istore_n 2, 1) := by decide +kernel
theorem dX1_testHolds_5 : decode cX1_testHolds 5 = .ok (.iload_n 1, 1) := by decide +kernel
theorem dX1_testHolds_6 : decode cX1_testHolds 6 = .ok (.bipush 100, 2) := by decide +kernel
theorem dX1_testHolds_8 : decode cX1_testHolds 8 = .ok (.idiv, 1) := by decide +kernel
theorem dX1_testHolds_9 : decode cX1_testHolds 9 = .ok (.iconst 3, 1) := by decide +kernel
theorem dX1_testHolds_10 : decode cX1_testHolds 10 = .ok (.irem, 1) := by decide +kernel
theorem dX1_testHolds_11 : decode cX1_testHolds 11 = .ok (.istore_n 3, 1) := by decide +kernel
theorem dX1_testHolds_12 : decode cX1_testHolds 12 = .ok (.iload_n 1, 1) := by decide +kernel
theorem dX1_testHolds_13 : decode cX1_testHolds 13 = .ok (.bipush 100, 2) := by decide +kernel
theorem dX1_testHolds_15 : decode cX1_testHolds 15 = .ok (.idiv, 1) := by decide +kernel
theorem dX1_testHolds_16 : decode cX1_testHolds 16 = .ok (.iconst 3, 1) := by decide +kernel
theorem dX1_testHolds_17 : decode cX1_testHolds 17 = .ok (.idiv, 1) := by decide +kernel
theorem dX1_testHolds_18 : decode cX1_testHolds 18 = .ok (.istore 4, 2) := by decide +kernel
theorem dX1_testHolds_20 : decode cX1_testHolds 20 = .ok (.iload 4, 2) := by decide +kernel
theorem dX1_testHolds_22 : decode cX1_testHolds 22 = .ok (.ifCond .lt 13, 3) := by decide +kernel
theorem dX1_testHolds_25 : decode cX1_testHolds 25 = .ok (.iload 4, 2) := by decide +kernel
theorem dX1_testHolds_27 : decode cX1_testHolds 27 = .ok (.aload_n 0, 1) := by decide +kernel
theorem dX1_testHolds_28 : decode cX1_testHolds 28 = .ok (.getfield 13, 3) := by decide +kernel
theorem dX1_testHolds_31 : decode cX1_testHolds 31 = .ok (.arraylength, 1) := by decide +kernel
theorem dX1_testHolds_32 : decode cX1_testHolds 32 = .ok (.if_icmp .lt 5, 3) := by decide +kernel
theorem dX1_testHolds_35 : decode cX1_testHolds 35 = .ok (.iconst 0, 1) := by decide +kernel
theorem dX1_testHolds_36 : decode cX1_testHolds 36 = .ok (.ireturn, 1) := by decide +kernel
theorem dX1_testHolds_37 : decode cX1_testHolds 37 = .ok (.iload_n 3, 1) := by decide +kernel
theorem dX1_testHolds_38 : decode cX1_testHolds 38 = .ok (.ifCond .ne 20, 3) := by decide +kernel
theorem dX1_testHolds_41 : decode cX1_testHolds 41 = .ok (.aload_n 0, 1) := by decide +kernel
theorem dX1_testHolds_42 : decode cX1_testHolds 42 = .ok (.getfield 13, 3) := by decide +kernel
theorem dX1_testHolds_45 : decode cX1_testHolds 45 = .ok (.iload 4, 2) := by decide +kernel
theorem dX1_testHolds_47 : decode cX1_testHolds 47 = .ok (.iaload, 1) := by decide +kernel
theorem dX1_testHolds_48 : decode cX1_testHolds 48 = .ok (.iload_n 2, 1) := by decide +kernel
theorem dX1_testHolds_49 : decode cX1_testHolds 49 = .ok (.if_icmp .ge 7, 3) := by decide +kernel
theorem dX1_testHolds_52 : decode cX1_testHolds 52 = .ok (.iconst 1, 1) := by decide +kernel
theorem dX1_testHolds_53 : decode cX1_testHolds 53 = .ok (.goto 4, 3) := by decide +kernel
theorem dX1_testHolds_56 : decode cX1_testHolds 56 = .ok (.iconst 0, 1) := by decide +kernel
theorem dX1_testHolds_57 : decode cX1_testHolds 57 = .ok (.ireturn, 1) := by decide +kernel
theorem dX1_testHolds_58 : decode cX1_testHolds 58 = .ok (.iload_n 3, 1) := by decide +kernel
theorem dX1_testHolds_59 : decode cX1_testHolds 59 = .ok (.iconst 1, 1) := by decide +kernel
theorem dX1_testHolds_60 : decode cX1_testHolds 60 = .ok (.if_icmp .ne 22, 3) := by decide +kernel
theorem dX1_testHolds_63 : decode cX1_testHolds 63 = .ok (.aload_n 0, 1) := by decide +kernel
theorem dX1_testHolds_64 : decode cX1_testHolds 64 = .ok (.getfield 13, 3) := by decide +kernel
theorem dX1_testHolds_67 : decode cX1_testHolds 67 = .ok (.iload 4, 2) := by decide +kernel
theorem dX1_testHolds_69 : decode cX1_testHolds 69 = .ok (.iaload, 1) := by decide +kernel
theorem dX1_testHolds_70 : decode cX1_testHolds 70 = .ok (.iload_n 2, 1) := by decide +kernel
theorem dX1_testHolds_71 : decode cX1_testHolds 71 = .ok (.if_icmp .ne 7, 3) := by decide +kernel
theorem dX1_testHolds_74 : decode cX1_testHolds 74 = .ok (.iconst 1, 1) := by decide +kernel
theorem dX1_testHolds_75 : decode cX1_testHolds 75 = .ok (.goto 23, 3) := by decide +kernel
theorem dX1_testHolds_78 : decode cX1_testHolds 78 = .ok (.iconst 0, 1) := by decide +kernel
theorem dX1_testHolds_79 : decode cX1_testHolds 79 = .ok (.goto 19, 3) := by decide +kernel
theorem dX1_testHolds_82 : decode cX1_testHolds 82 = .ok (.aload_n 0, 1) := by decide +kernel
theorem dX1_testHolds_83 : decode cX1_testHolds 83 = .ok (.getfield 13, 3) := by decide +kernel
theorem dX1_testHolds_86 : decode cX1_testHolds 86 = .ok (.iload 4, 2) := by decide +kernel
theorem dX1_testHolds_88 : decode cX1_testHolds 88 = .ok (.iaload, 1) := by decide +kernel
theorem dX1_testHolds_89 : decode cX1_testHolds 89 = .ok (.iload_n 2, 1) := by decide +kernel
theorem dX1_testHolds_90 : decode cX1_testHolds 90 = .ok (.if_icmp .le 7, 3) := by decide +kernel
theorem dX1_testHolds_93 : decode cX1_testHolds 93 = .ok (.iconst 1, 1) := by decide +kernel
theorem dX1_testHolds_94 : decode cX1_testHolds 94 = .ok (.goto 4, 3) := by decide +kernel
theorem dX1_testHolds_97 : decode cX1_testHolds 97 = .ok (.iconst 0, 1) := by decide +kernel
theorem dX1_testHolds_98 : decode cX1_testHolds 98 = .ok (.ireturn, 1) := by decide +kernel
theorem dX2_init_0 : decode cX2_init 0 = .ok (.aload_n 0, 1) := by decide +kernel
theorem dX2_init_1 : decode cX2_init 1 = .ok (.invokespecial 3, 3) := by decide +kernel
theorem dX2_init_4 : decode cX2_init 4 = .ok (.aload_n 0, 1) := by decide +kernel
theorem dX2_init_5 : decode cX2_init 5 = .ok (.new 9, 3) := by decide +kernel
theorem dX2_init_8 : decode cX2_init 8 = .ok (.dup, 1) := by decide +kernel
theorem dX2_init_9 : decode cX2_init 9 = .ok (.invokespecial 11, 3) := by decide +kernel
theorem dX2_init_12 : decode cX2_init 12 = .ok (.putfield 12, 3) := by decide +kernel
theorem dX2_init_15 : decode cX2_init 15 = .ok (.aload_n 0, 1) := by decide +kernel
theorem dX2_init_16 : decode cX2_init 16 = .ok (.bipush 6, 2) := by decide +kernel
theorem dX2_init_18 : decode cX2_init 18 = .ok (.newarray .int, 2) := by decide +kernel
theorem dX2_init_20 : decode cX2_init 20 = .ok (.putfield 18, 3) := by decide +kernel
theorem dX2_init_23 : decode cX2_init 23 = .ok (.aload_n 0, 1) := by decide +kernel
theorem dX2_init_24 : decode cX2_init 24 = .ok (.sipush 448, 3) := by decide +kernel
theorem dX2_init_27 : decode cX2_init 27 = .ok (.newarray .int, 2) := by decide +kernel
theorem dX2_init_29 : decode cX2_init 29 = .ok (.putfield 22, 3) := by decide +kernel
theorem dX2_init_32 : decode cX2_init 32 = .ok (.aload_n 0, 1) := by decide +kernel
theorem dX2_init_33 : decode cX2_init 33 = .ok (.bipush 13, 2) := by decide +kernel
theorem dX2_init_35 : decode cX2_init 35 = .ok (.newarray .int, 2) := by decide +kernel
theorem dX2_init_37 : decode cX2_init 37 = .ok (.putfield 25, 3) := by decide +kernel
theorem dX2_init_40 : decode cX2_init 40 = .ok (.aload_n 0, 1) := by decide +kernel
theorem dX2_init_41 : decode cX2_init 41 = .ok (.iconst 5, 1) := by decide +kernel
theorem dX2_init_42 : decode cX2_init 42 = .ok (.newarray .int, 2) := by decide +kernel
theorem dX2_init_44 : decode cX2_init 44 = .ok (.putfield 28, 3) := by decide +kernel
theorem dX2_init_47 : decode cX2_init 47 = .ok (.aload_n 0, 1) := by decide +kernel
theorem dX2_init_48 : decode cX2_init 48 = .ok (.iconst 5, 1) := by decide +kernel
theorem dX2_init_49 : decode cX2_init 49 = .ok (.newarray .int, 2) := by decide +kernel
theorem dX2_init_51 : decode cX2_init 51 = .ok (.putfield 31, 3) := by decide +kernel
theorem dX2_init_54 : decode cX2_init 54 = .ok (.return_, 1) := by decide +kernel
theorem dX2_findAble_0 : decode cX2_findAble 0 = .ok (.iconst 0, 1) := by decide +kernel
theorem dX2_findAble_1 : decode cX2_findAble 1 = .ok (.istore_n 2, 1) := by decide +kernel
theorem dX2_findAble_2 : decode cX2_findAble 2 = .ok (.iload_n 2, 1) := by decide +kernel
theorem dX2_findAble_3 : decode cX2_findAble 3 = .ok (.bipush 6, 2) := by decide +kernel
theorem dX2_findAble_5 : decode cX2_findAble 5 = .ok (.if_icmp .ge 85, 3) := by decide +kernel
theorem dX2_findAble_8 : decode cX2_findAble 8 = .ok (.aload_n 1, 1) := by decide +kernel
theorem dX2_findAble_9 : decode cX2_findAble 9 = .ok (.iload_n 2, 1) := by decide +kernel
theorem dX2_findAble_10 : decode cX2_findAble 10 = .ok (.invokevirtual 34, 3) := by decide +kernel
theorem dX2_findAble_13 : decode cX2_findAble 13 = .ok (.astore_n 3, 1) := by decide +kernel
theorem dX2_findAble_14 : decode cX2_findAble 14 = .ok (.aload_n 0, 1) := by decide +kernel
theorem dX2_findAble_15 : decode cX2_findAble 15 = .ok (.getfield 18, 3) := by decide +kernel
theorem dX2_findAble_18 : decode cX2_findAble 18 = .ok (.iload_n 2, 1) := by decide +kernel
theorem dX2_findAble_19 : decode cX2_findAble 19 = .ok (.iconst 0, 1) := by decide +kernel
theorem dX2_findAble_20 : decode cX2_findAble 20 = .ok (.iastore, 1) := by decide +kernel
theorem dX2_findAble_21 : decode cX2_findAble 21 = .ok (.iconst 0, 1) := by decide +kernel
theorem dX2_findAble_22 : decode cX2_findAble 22 = .ok (.istore 4, 2) := by decide +kernel
theorem dX2_findAble_24 : decode cX2_findAble 24 = .ok (.iload 4, 2) := by decide +kernel
theorem dX2_findAble_26 : decode cX2_findAble 26 = .ok (.aload_n 1, 1) := by decide +kernel
theorem dX2_findAble_27 : decode cX2_findAble 27 = .ok (.getfield 40, 3) := by decide +kernel
theorem dX2_findAble_30 : decode cX2_findAble 30 = .ok (.if_icmp .ge 54, 3) := by decide +kernel
theorem dX2_findAble_33 : decode cX2_findAble 33 = .ok (.aload_n 3, 1) := by decide +kernel
theorem dX2_findAble_34 : decode cX2_findAble 34 = .ok (.ifnull 50, 3) := by decide +kernel
theorem dX2_findAble_37 : decode cX2_findAble 37 = .ok (.aload_n 3, 1) := by decide +kernel
theorem dX2_findAble_38 : decode cX2_findAble 38 = .ok (.getfield 44, 3) := by decide +kernel
theorem dX2_findAble_41 : decode cX2_findAble 41 = .ok (.ifCond .ne 43, 3) := by decide +kernel
theorem dX2_findAble_44 : decode cX2_findAble 44 = .ok (.aload_n 0, 1) := by decide +kernel
theorem dX2_findAble_45 : decode cX2_findAble 45 = .ok (.getfield 18, 3) := by decide +kernel
theorem dX2_findAble_48 : decode cX2_findAble 48 = .ok (.iload_n 2, 1) := by decide +kernel
theorem dX2_findAble_49 : decode cX2_findAble 49 = .ok (.dup2, 1) := by decide +kernel
theorem dX2_findAble_50 : decode cX2_findAble 50 = .ok (.iaload, 1) := by decide +kernel
theorem dX2_findAble_51 : decode cX2_findAble 51 = .ok (.aload_n 0, 1) := by decide +kernel
theorem dX2_findAble_52 : decode cX2_findAble 52 = .ok (.getfield 12, 3) := by decide +kernel
theorem dX2_findAble_55 : decode cX2_findAble 55 = .ok (.aload_n 1, 1) := by decide +kernel
theorem dX2_findAble_56 : decode cX2_findAble 56 = .ok (.iload 4, 2) := by decide +kernel
theorem dX2_findAble_58 : decode cX2_findAble 58 = .ok (.aload_n 3, 1) := by decide +kernel
theorem dX2_findAble_59 : decode cX2_findAble 59 = .ok (.getfield 49, 3) := by decide +kernel
theorem dX2_findAble_62 : decode cX2_findAble 62 = .ok (.invokevirtual 52, 3) := by decide +kernel
theorem dX2_findAble_65 : decode cX2_findAble 65 = .ok (.ifCond .eq 10, 3) := by decide +kernel
theorem dX2_findAble_68 : decode cX2_findAble 68 = .ok (.iconst 1, 1) := by decide +kernel
theorem dX2_findAble_69 : decode cX2_findAble 69 = .ok (.iload 4, 2) := by decide +kernel
theorem dX2_findAble_71 : decode cX2_findAble 71 = .ok (.ishl, 1) := by decide +kernel
theorem dX2_findAble_72 : decode cX2_findAble 72 = .ok (.goto 4, 3) := by decide +kernel
theorem dX2_findAble_75 : decode cX2_findAble 75 = .ok (.iconst 0, 1) := by decide +kernel
theorem dX2_findAble_76 : decode cX2_findAble 76 = .ok (.ior, 1) := by decide +kernel
theorem dX2_findAble_77 : decode cX2_findAble 77 = .ok (.iastore, 1) := by decide +kernel
theorem dX2_findAble_78 : decode cX2_findAble 78 = .ok (.iinc 4 1, 3) := by decide +kernel
theorem dX2_findAble_81 : decode cX2_findAble 81 = .ok (.goto (-57), 3) := by decide +kernel
theorem dX2_findAble_84 : decode cX2_findAble 84 = .ok (.iinc 2 1, 3) := by decide +kernel
theorem dX2_findAble_87 : decode cX2_findAble 87 = .ok (.goto (-85), 3) := by decide +kernel
theorem dX2_findAble_90 : decode cX2_findAble 90 = .ok (.return_, 1) := by decide +kernel
theorem dX2_enough_0 : decode cX2_enough 0 = .ok (.aload_n 0, 1) := by decide +kernel
theorem dX2_enough_1 : decode cX2_enough 1 = .ok (.aload_n 1, 1) := by decide +kernel
theorem dX2_enough_2 : decode cX2_enough 2 = .ok (.invokevirtual 56, 3) := by decide +kernel
theorem dX2_enough_5 : decode cX2_enough 5 = .ok (.bipush (-5), 2) := by decide +kernel
theorem dX2_enough_7 : decode cX2_enough 7 = .ok (.istore_n 2, 1) := by decide +kernel
theorem dX2_enough_8 : decode cX2_enough 8 = .ok (.bipush 7, 2) := by decide +kernel
theorem dX2_enough_10 : decode cX2_enough 10 = .ok (.istore_n 3, 1) := by decide +kernel
theorem dX2_enough_11 : decode cX2_enough 11 = .ok (.iconst 0, 1) := by decide +kernel
theorem dX2_enough_12 : decode cX2_enough 12 = .ok (.istore 4, 2) := by decide +kernel
theorem dX2_enough_14 : decode cX2_enough 14 = .ok (.iload 4, 2) := by decide +kernel
theorem dX2_enough_16 : decode cX2_enough 16 = .ok (.iconst 1, 1) := by decide +kernel
theorem dX2_enough_17 : decode cX2_enough 17 = .ok (.aload_n 1, 1) := by decide +kernel
theorem dX2_enough_18 : decode cX2_enough 18 = .ok (.getfield 40, 3) := by decide +kernel
theorem dX2_enough_21 : decode cX2_enough 21 = .ok (.ishl, 1) := by decide +kernel
theorem dX2_enough_22 : decode cX2_enough 22 = .ok (.if_icmp .ge 37, 3) := by decide +kernel
theorem dX2_enough_25 : decode cX2_enough 25 = .ok (.iload 4, 2) := by decide +kernel
theorem dX2_enough_27 : decode cX2_enough 27 = .ok (.invokestatic 60, 3) := by decide +kernel
theorem dX2_enough_30 : decode cX2_enough 30 = .ok (.iload_n 3, 1) := by decide +kernel
theorem dX2_enough_31 : decode cX2_enough 31 = .ok (.if_icmp .ge 22, 3) := by decide +kernel
theorem dX2_enough_34 : decode cX2_enough 34 = .ok (.aload_n 0, 1) := by decide +kernel
theorem dX2_enough_35 : decode cX2_enough 35 = .ok (.aload_n 1, 1) := by decide +kernel
theorem dX2_enough_36 : decode cX2_enough 36 = .ok (.iload 4, 2) := by decide +kernel
theorem dX2_enough_38 : decode cX2_enough 38 = .ok (.invokevirtual 66, 3) := by decide +kernel
theorem dX2_enough_41 : decode cX2_enough 41 = .ok (.ifCond .eq 12, 3) := by decide +kernel
theorem dX2_enough_44 : decode cX2_enough 44 = .ok (.iload 4, 2) := by decide +kernel
theorem dX2_enough_46 : decode cX2_enough 46 = .ok (.istore_n 2, 1) := by decide +kernel
theorem dX2_enough_47 : decode cX2_enough 47 = .ok (.iload 4, 2) := by decide +kernel
theorem dX2_enough_49 : decode cX2_enough 49 = .ok (.invokestatic 60, 3) := by decide +kernel
theorem dX2_enough_52 : decode cX2_enough 52 = .ok (.istore_n 3, 1) := by decide +kernel
theorem dX2_enough_53 : decode cX2_enough 53 = .ok (.iinc 4 1, 3) := by decide +kernel
theorem dX2_enough_56 : decode cX2_enough 56 = .ok (.goto (-42), 3) := by decide +kernel
theorem dX2_enough_59 : decode cX2_enough 59 = .ok (.iload_n 2, 1) := by decide +kernel
theorem dX2_enough_60 : decode cX2_enough 60 = .ok (.ireturn, 1) := by decide +kernel
theorem dX2_answersAll_0 : decode cX2_answersAll 0 = .ok (.iconst 0, 1) := by decide +kernel
theorem dX2_answersAll_1 : decode cX2_answersAll 1 = .ok (.istore_n 3, 1) := by decide +kernel
theorem dX2_answersAll_2 : decode cX2_answersAll 2 = .ok (.iload_n 3, 1) := by decide +kernel
theorem dX2_answersAll_3 : decode cX2_answersAll 3 = .ok (.bipush 6, 2) := by decide +kernel
theorem dX2_answersAll_5 : decode cX2_answersAll 5 = .ok (.if_icmp .ge 30, 3) := by decide +kernel
theorem dX2_answersAll_8 : decode cX2_answersAll 8 = .ok (.aload_n 1, 1) := by decide +kernel
theorem dX2_answersAll_9 : decode cX2_answersAll 9 = .ok (.iload_n 3, 1) := by decide +kernel
theorem dX2_answersAll_10 : decode cX2_answersAll 10 = .ok (.invokevirtual 70, 3) := by decide +kernel
theorem dX2_answersAll_13 : decode cX2_answersAll 13 = .ok (.ifCond .eq 16, 3) := by decide +kernel
theorem dX2_answersAll_16 : decode cX2_answersAll 16 = .ok (.aload_n 0, 1) := by decide +kernel
theorem dX2_answersAll_17 : decode cX2_answersAll 17 = .ok (.getfield 18, 3) := by decide +kernel
theorem dX2_answersAll_20 : decode cX2_answersAll 20 = .ok (.iload_n 3, 1) := by decide +kernel
theorem dX2_answersAll_21 : decode cX2_answersAll 21 = .ok (.iaload, 1) := by decide +kernel
theorem dX2_answersAll_22 : decode cX2_answersAll 22 = .ok (.iload_n 2, 1) := by decide +kernel
theorem dX2_answersAll_23 : decode cX2_answersAll 23 = .ok (.iand, 1) := by decide +kernel
theorem dX2_answersAll_24 : decode cX2_answersAll 24 = .ok (.ifCond .ne 5, 3) := by decide +kernel
theorem dX2_answersAll_27 : decode cX2_answersAll 27 = .ok (.iconst 0, 1) := by decide +kernel
theorem dX2_answersAll_28 : decode cX2_answersAll 28 = .ok (.ireturn, 1) := by decide +kernel
theorem dX2_answersAll_29 : decode cX2_answersAll 29 = .ok (.iinc 3 1, 3) := by decide +kernel
theorem dX2_answersAll_32 : decode cX2_answersAll 32 = .ok (.goto (-30), 3) := by decide +kernel
theorem dX2_answersAll_35 : decode cX2_answersAll 35 = .ok (.iconst 1, 1) := by decide +kernel
theorem dX2_answersAll_36 : decode cX2_answersAll 36 = .ok (.ireturn, 1) := by decide +kernel
theorem dX2_findMost_0 : decode cX2_findMost 0 = .ok (.aload_n 0, 1) := by decide +kernel
theorem dX2_findMost_1 : decode cX2_findMost 1 = .ok (.aload_n 1, 1) := by decide +kernel
theorem dX2_findMost_2 : decode cX2_findMost 2 = .ok (.invokevirtual 56, 3) := by decide +kernel
theorem dX2_findMost_5 : decode cX2_findMost 5 = .ok (.aload_n 0, 1) := by decide +kernel
theorem dX2_findMost_6 : decode cX2_findMost 6 = .ok (.getfield 22, 3) := by decide +kernel
theorem dX2_findMost_9 : decode cX2_findMost 9 = .ok (.iconst 0, 1) := by decide +kernel
theorem dX2_findMost_10 : decode cX2_findMost 10 = .ok (.invokestatic 74, 3) := by decide +kernel
theorem dX2_findMost_13 : decode cX2_findMost 13 = .ok (.aload_n 1, 1) := by decide +kernel
theorem dX2_findMost_14 : decode cX2_findMost 14 = .ok (.getfield 80, 3) := by decide +kernel
theorem dX2_findMost_17 : decode cX2_findMost 17 = .ok (.iconst 1, 1) := by decide +kernel
theorem dX2_findMost_18 : decode cX2_findMost 18 = .ok (.isub, 1) := by decide +kernel
theorem dX2_findMost_19 : decode cX2_findMost 19 = .ok (.istore_n 2, 1) := by decide +kernel
theorem dX2_findMost_20 : decode cX2_findMost 20 = .ok (.iload_n 2, 1) := by decide +kernel
theorem dX2_findMost_21 : decode cX2_findMost 21 = .ok (.ifCond .lt 78, 3) := by decide +kernel
theorem dX2_findMost_24 : decode cX2_findMost 24 = .ok (.iconst 0, 1) := by decide +kernel
theorem dX2_findMost_25 : decode cX2_findMost 25 = .ok (.istore_n 3, 1) := by decide +kernel
theorem dX2_findMost_26 : decode cX2_findMost 26 = .ok (.iload_n 3, 1) := by decide +kernel
theorem dX2_findMost_27 : decode cX2_findMost 27 = .ok (.bipush 64, 2) := by decide +kernel
theorem dX2_findMost_29 : decode cX2_findMost 29 = .ok (.if_icmp .ge 64, 3) := by decide +kernel
theorem dX2_findMost_32 : decode cX2_findMost 32 = .ok (.aload_n 0, 1) := by decide +kernel
theorem dX2_findMost_33 : decode cX2_findMost 33 = .ok (.iload_n 2, 1) := by decide +kernel
theorem dX2_findMost_34 : decode cX2_findMost 34 = .ok (.iconst 1, 1) := by decide +kernel
theorem dX2_findMost_35 : decode cX2_findMost 35 = .ok (.iadd, 1) := by decide +kernel
theorem dX2_findMost_36 : decode cX2_findMost 36 = .ok (.iload_n 3, 1) := by decide +kernel
theorem dX2_findMost_37 : decode cX2_findMost 37 = .ok (.invokevirtual 83, 3) := by decide +kernel
theorem dX2_findMost_40 : decode cX2_findMost 40 = .ok (.istore 4, 2) := by decide +kernel
theorem dX2_findMost_42 : decode cX2_findMost 42 = .ok (.iconst 0, 1) := by decide +kernel
theorem dX2_findMost_43 : decode cX2_findMost 43 = .ok (.istore 5, 2) := by decide +kernel
theorem dX2_findMost_45 : decode cX2_findMost 45 = .ok (.iload 5, 2) := by decide +kernel
theorem dX2_findMost_47 : decode cX2_findMost 47 = .ok (.bipush 6, 2) := by decide +kernel
theorem dX2_findMost_49 : decode cX2_findMost 49 = .ok (.if_icmp .ge 25, 3) := by decide +kernel
theorem dX2_findMost_52 : decode cX2_findMost 52 = .ok (.iload 4, 2) := by decide +kernel
theorem dX2_findMost_54 : decode cX2_findMost 54 = .ok (.aload_n 0, 1) := by decide +kernel
theorem dX2_findMost_55 : decode cX2_findMost 55 = .ok (.aload_n 1, 1) := by decide +kernel
theorem dX2_findMost_56 : decode cX2_findMost 56 = .ok (.iload_n 2, 1) := by decide +kernel
theorem dX2_findMost_57 : decode cX2_findMost 57 = .ok (.iload 5, 2) := by decide +kernel
theorem dX2_findMost_59 : decode cX2_findMost 59 = .ok (.iload_n 3, 1) := by decide +kernel
theorem dX2_findMost_60 : decode cX2_findMost 60 = .ok (.invokevirtual 87, 3) := by decide +kernel
theorem dX2_findMost_63 : decode cX2_findMost 63 = .ok (.invokestatic 91, 3) := by decide +kernel
theorem dX2_findMost_66 : decode cX2_findMost 66 = .ok (.istore 4, 2) := by decide +kernel
theorem dX2_findMost_68 : decode cX2_findMost 68 = .ok (.iinc 5 1, 3) := by decide +kernel
theorem dX2_findMost_71 : decode cX2_findMost 71 = .ok (.goto (-26), 3) := by decide +kernel
theorem dX2_findMost_74 : decode cX2_findMost 74 = .ok (.aload_n 0, 1) := by decide +kernel
theorem dX2_findMost_75 : decode cX2_findMost 75 = .ok (.getfield 22, 3) := by decide +kernel
theorem dX2_findMost_78 : decode cX2_findMost 78 = .ok (.iload_n 2, 1) := by decide +kernel
theorem dX2_findMost_79 : decode cX2_findMost 79 = .ok (.bipush 64, 2) := by decide +kernel
theorem dX2_findMost_81 : decode cX2_findMost 81 = .ok (.imul, 1) := by decide +kernel
theorem dX2_findMost_82 : decode cX2_findMost 82 = .ok (.iload_n 3, 1) := by decide +kernel
theorem dX2_findMost_83 : decode cX2_findMost 83 = .ok (.iadd, 1) := by decide +kernel
theorem dX2_findMost_84 : decode cX2_findMost 84 = .ok (.iload 4, 2) := by decide +kernel
theorem dX2_findMost_86 : decode cX2_findMost 86 = .ok (.iastore, 1) := by decide +kernel
theorem dX2_findMost_87 : decode cX2_findMost 87 = .ok (.iinc 3 1, 3) := by decide +kernel
theorem dX2_findMost_90 : decode cX2_findMost 90 = .ok (.goto (-64), 3) := by decide +kernel
theorem dX2_findMost_93 : decode cX2_findMost 93 = .ok (.iinc 2 (-1), 3) := by decide +kernel
theorem dX2_findMost_96 : decode cX2_findMost 96 = .ok (.goto (-76), 3) := by decide +kernel
theorem dX2_findMost_99 : decode cX2_findMost 99 = .ok (.return_, 1) := by decide +kernel
theorem dX2_mostFrom_0 : decode cX2_mostFrom 0 = .ok (.iload_n 1, 1) := by decide +kernel
theorem dX2_mostFrom_1 : decode cX2_mostFrom 1 = .ok (.bipush 64, 2) := by decide +kernel
theorem dX2_mostFrom_3 : decode cX2_mostFrom 3 = .ok (.imul, 1) := by decide +kernel
theorem dX2_mostFrom_4 : decode cX2_mostFrom 4 = .ok (.iload_n 2, 1) := by decide +kernel
theorem dX2_mostFrom_5 : decode cX2_mostFrom 5 = .ok (.iadd, 1) := by decide +kernel
theorem dX2_mostFrom_6 : decode cX2_mostFrom 6 = .ok (.istore_n 3, 1) := by decide +kernel
theorem dX2_mostFrom_7 : decode cX2_mostFrom 7 = .ok (.iload_n 3, 1) := by decide +kernel
theorem dX2_mostFrom_8 : decode cX2_mostFrom 8 = .ok (.ifCond .lt 12, 3) := by decide +kernel
theorem dX2_mostFrom_11 : decode cX2_mostFrom 11 = .ok (.iload_n 3, 1) := by decide +kernel
theorem dX2_mostFrom_12 : decode cX2_mostFrom 12 = .ok (.aload_n 0, 1) := by decide +kernel
theorem dX2_mostFrom_13 : decode cX2_mostFrom 13 = .ok (.getfield 22, 3) := by decide +kernel
theorem dX2_mostFrom_16 : decode cX2_mostFrom 16 = .ok (.arraylength, 1) := by decide +kernel
theorem dX2_mostFrom_17 : decode cX2_mostFrom 17 = .ok (.if_icmp .lt 7, 3) := by decide +kernel
theorem dX2_mostFrom_20 : decode cX2_mostFrom 20 = .ok (.iconst 0, 1) := by decide +kernel
theorem dX2_mostFrom_21 : decode cX2_mostFrom 21 = .ok (.goto 9, 3) := by decide +kernel
theorem dX2_mostFrom_24 : decode cX2_mostFrom 24 = .ok (.aload_n 0, 1) := by decide +kernel
theorem dX2_mostFrom_25 : decode cX2_mostFrom 25 = .ok (.getfield 22, 3) := by decide +kernel
theorem dX2_mostFrom_28 : decode cX2_mostFrom 28 = .ok (.iload_n 3, 1) := by decide +kernel
theorem dX2_mostFrom_29 : decode cX2_mostFrom 29 = .ok (.iaload, 1) := by decide +kernel
theorem dX2_mostFrom_30 : decode cX2_mostFrom 30 = .ok (.ireturn, 1) := by decide +kernel
theorem dX2_mostBy_0 : decode cX2_mostBy 0 = .ok (.aload_n 1, 1) := by decide +kernel
theorem dX2_mostBy_1 : decode cX2_mostBy 1 = .ok (.iload_n 2, 1) := by decide +kernel
theorem dX2_mostBy_2 : decode cX2_mostBy 2 = .ok (.invokevirtual 34, 3) := by decide +kernel
theorem dX2_mostBy_5 : decode cX2_mostBy 5 = .ok (.astore 5, 2) := by decide +kernel
theorem dX2_mostBy_7 : decode cX2_mostBy 7 = .ok (.aload 5, 2) := by decide +kernel
theorem dX2_mostBy_9 : decode cX2_mostBy 9 = .ok (.ifnull 27, 3) := by decide +kernel
theorem dX2_mostBy_12 : decode cX2_mostBy 12 = .ok (.iload_n 2, 1) := by decide +kernel
theorem dX2_mostBy_13 : decode cX2_mostBy 13 = .ok (.bipush 6, 2) := by decide +kernel
theorem dX2_mostBy_15 : decode cX2_mostBy 15 = .ok (.if_icmp .ge 21, 3) := by decide +kernel
theorem dX2_mostBy_18 : decode cX2_mostBy 18 = .ok (.aload_n 0, 1) := by decide +kernel
theorem dX2_mostBy_19 : decode cX2_mostBy 19 = .ok (.getfield 18, 3) := by decide +kernel
theorem dX2_mostBy_22 : decode cX2_mostBy 22 = .ok (.iload_n 2, 1) := by decide +kernel
theorem dX2_mostBy_23 : decode cX2_mostBy 23 = .ok (.iaload, 1) := by decide +kernel
theorem dX2_mostBy_24 : decode cX2_mostBy 24 = .ok (.iload 4, 2) := by decide +kernel
theorem dX2_mostBy_26 : decode cX2_mostBy 26 = .ok (.iconst (-1), 1) := by decide +kernel
theorem dX2_mostBy_27 : decode cX2_mostBy 27 = .ok (.ixor, 1) := by decide +kernel
theorem dX2_mostBy_28 : decode cX2_mostBy 28 = .ok (.iand, 1) := by decide +kernel
theorem dX2_mostBy_29 : decode cX2_mostBy 29 = .ok (.iconst 1, 1) := by decide +kernel
theorem dX2_mostBy_30 : decode cX2_mostBy 30 = .ok (.iload_n 3, 1) := by decide +kernel
theorem dX2_mostBy_31 : decode cX2_mostBy 31 = .ok (.ishl, 1) := by decide +kernel
theorem dX2_mostBy_32 : decode cX2_mostBy 32 = .ok (.iand, 1) := by decide +kernel
theorem dX2_mostBy_33 : decode cX2_mostBy 33 = .ok (.ifCond .ne 5, 3) := by decide +kernel
theorem dX2_mostBy_36 : decode cX2_mostBy 36 = .ok (.iconst (-1), 1) := by decide +kernel
theorem dX2_mostBy_37 : decode cX2_mostBy 37 = .ok (.ireturn, 1) := by decide +kernel
theorem dX2_mostBy_38 : decode cX2_mostBy 38 = .ok (.aload 5, 2) := by decide +kernel
theorem dX2_mostBy_40 : decode cX2_mostBy 40 = .ok (.getfield 96, 3) := by decide +kernel
theorem dX2_mostBy_43 : decode cX2_mostBy 43 = .ok (.aload_n 0, 1) := by decide +kernel
theorem dX2_mostBy_44 : decode cX2_mostBy 44 = .ok (.iload_n 2, 1) := by decide +kernel
theorem dX2_mostBy_45 : decode cX2_mostBy 45 = .ok (.iconst 1, 1) := by decide +kernel
theorem dX2_mostBy_46 : decode cX2_mostBy 46 = .ok (.iadd, 1) := by decide +kernel
theorem dX2_mostBy_47 : decode cX2_mostBy 47 = .ok (.iload 4, 2) := by decide +kernel
theorem dX2_mostBy_49 : decode cX2_mostBy 49 = .ok (.iconst 1, 1) := by decide +kernel
theorem dX2_mostBy_50 : decode cX2_mostBy 50 = .ok (.iload_n 3, 1) := by decide +kernel
theorem dX2_mostBy_51 : decode cX2_mostBy 51 = .ok (.ishl, 1) := by decide +kernel
theorem dX2_mostBy_52 : decode cX2_mostBy 52 = .ok (.ior, 1) := by decide +kernel
theorem dX2_mostBy_53 : decode cX2_mostBy 53 = .ok (.invokevirtual 83, 3) := by decide +kernel
theorem dX2_mostBy_56 : decode cX2_mostBy 56 = .ok (.iadd, 1) := by decide +kernel
theorem dX2_mostBy_57 : decode cX2_mostBy 57 = .ok (.ireturn, 1) := by decide +kernel
theorem dX2_loadGoods_0 : decode cX2_loadGoods 0 = .ok (.aload_n 0, 1) := by decide +kernel
theorem dX2_loadGoods_1 : decode cX2_loadGoods 1 = .ok (.aload_n 1, 1) := by decide +kernel
theorem dX2_loadGoods_2 : decode cX2_loadGoods 2 = .ok (.invokevirtual 99, 3) := by decide +kernel
theorem dX2_loadGoods_5 : decode cX2_loadGoods 5 = .ok (.aload_n 0, 1) := by decide +kernel
theorem dX2_loadGoods_6 : decode cX2_loadGoods 6 = .ok (.iconst 0, 1) := by decide +kernel
theorem dX2_loadGoods_7 : decode cX2_loadGoods 7 = .ok (.iconst 0, 1) := by decide +kernel
theorem dX2_loadGoods_8 : decode cX2_loadGoods 8 = .ok (.invokevirtual 83, 3) := by decide +kernel
theorem dX2_loadGoods_11 : decode cX2_loadGoods 11 = .ok (.ireturn, 1) := by decide +kernel
theorem dX2_loadGuard_0 : decode cX2_loadGuard 0 = .ok (.aload_n 0, 1) := by decide +kernel
theorem dX2_loadGuard_1 : decode cX2_loadGuard 1 = .ok (.aload_n 1, 1) := by decide +kernel
theorem dX2_loadGuard_2 : decode cX2_loadGuard 2 = .ok (.invokevirtual 99, 3) := by decide +kernel
theorem dX2_loadGuard_5 : decode cX2_loadGuard 5 = .ok (.iconst 0, 1) := by decide +kernel
theorem dX2_loadGuard_6 : decode cX2_loadGuard 6 = .ok (.istore_n 3, 1) := by decide +kernel
theorem dX2_loadGuard_7 : decode cX2_loadGuard 7 = .ok (.bipush (-5), 2) := by decide +kernel
theorem dX2_loadGuard_9 : decode cX2_loadGuard 9 = .ok (.istore 4, 2) := by decide +kernel
theorem dX2_loadGuard_11 : decode cX2_loadGuard 11 = .ok (.iconst 0, 1) := by decide +kernel
theorem dX2_loadGuard_12 : decode cX2_loadGuard 12 = .ok (.istore 5, 2) := by decide +kernel
theorem dX2_loadGuard_14 : decode cX2_loadGuard 14 = .ok (.iload 5, 2) := by decide +kernel
theorem dX2_loadGuard_16 : decode cX2_loadGuard 16 = .ok (.iload_n 2, 1) := by decide +kernel
theorem dX2_loadGuard_17 : decode cX2_loadGuard 17 = .ok (.if_icmp .gt 42, 3) := by decide +kernel
theorem dX2_loadGuard_20 : decode cX2_loadGuard 20 = .ok (.iload 5, 2) := by decide +kernel
theorem dX2_loadGuard_22 : decode cX2_loadGuard 22 = .ok (.bipush 6, 2) := by decide +kernel
theorem dX2_loadGuard_24 : decode cX2_loadGuard 24 = .ok (.if_icmp .ge 35, 3) := by decide +kernel
theorem dX2_loadGuard_27 : decode cX2_loadGuard 27 = .ok (.aload_n 0, 1) := by decide +kernel
theorem dX2_loadGuard_28 : decode cX2_loadGuard 28 = .ok (.aload_n 1, 1) := by decide +kernel
theorem dX2_loadGuard_29 : decode cX2_loadGuard 29 = .ok (.iload 5, 2) := by decide +kernel
theorem dX2_loadGuard_31 : decode cX2_loadGuard 31 = .ok (.iload_n 3, 1) := by decide +kernel
theorem dX2_loadGuard_32 : decode cX2_loadGuard 32 = .ok (.invokevirtual 102, 3) := by decide +kernel
theorem dX2_loadGuard_35 : decode cX2_loadGuard 35 = .ok (.istore 4, 2) := by decide +kernel
theorem dX2_loadGuard_37 : decode cX2_loadGuard 37 = .ok (.iload_n 3, 1) := by decide +kernel
theorem dX2_loadGuard_38 : decode cX2_loadGuard 38 = .ok (.iload 4, 2) := by decide +kernel
theorem dX2_loadGuard_40 : decode cX2_loadGuard 40 = .ok (.ifCond .ge 7, 3) := by decide +kernel
theorem dX2_loadGuard_43 : decode cX2_loadGuard 43 = .ok (.iconst 0, 1) := by decide +kernel
theorem dX2_loadGuard_44 : decode cX2_loadGuard 44 = .ok (.goto 7, 3) := by decide +kernel
theorem dX2_loadGuard_47 : decode cX2_loadGuard 47 = .ok (.iconst 1, 1) := by decide +kernel
theorem dX2_loadGuard_48 : decode cX2_loadGuard 48 = .ok (.iload 4, 2) := by decide +kernel
theorem dX2_loadGuard_50 : decode cX2_loadGuard 50 = .ok (.ishl, 1) := by decide +kernel
theorem dX2_loadGuard_51 : decode cX2_loadGuard 51 = .ok (.ior, 1) := by decide +kernel
theorem dX2_loadGuard_52 : decode cX2_loadGuard 52 = .ok (.istore_n 3, 1) := by decide +kernel
theorem dX2_loadGuard_53 : decode cX2_loadGuard 53 = .ok (.iinc 5 1, 3) := by decide +kernel
theorem dX2_loadGuard_56 : decode cX2_loadGuard 56 = .ok (.goto (-42), 3) := by decide +kernel
theorem dX2_loadGuard_59 : decode cX2_loadGuard 59 = .ok (.iload 4, 2) := by decide +kernel
theorem dX2_loadGuard_61 : decode cX2_loadGuard 61 = .ok (.ireturn, 1) := by decide +kernel
theorem dX2_firstBest_0 : decode cX2_firstBest 0 = .ok (.iconst 0, 1) := by decide +kernel
theorem dX2_firstBest_1 : decode cX2_firstBest 1 = .ok (.istore 4, 2) := by decide +kernel
theorem dX2_firstBest_3 : decode cX2_firstBest 3 = .ok (.iload 4, 2) := by decide +kernel
theorem dX2_firstBest_5 : decode cX2_firstBest 5 = .ok (.bipush 6, 2) := by decide +kernel
theorem dX2_firstBest_7 : decode cX2_firstBest 7 = .ok (.if_icmp .ge 30, 3) := by decide +kernel
theorem dX2_firstBest_10 : decode cX2_firstBest 10 = .ok (.aload_n 0, 1) := by decide +kernel
theorem dX2_firstBest_11 : decode cX2_firstBest 11 = .ok (.aload_n 1, 1) := by decide +kernel
theorem dX2_firstBest_12 : decode cX2_firstBest 12 = .ok (.iload_n 2, 1) := by decide +kernel
theorem dX2_firstBest_13 : decode cX2_firstBest 13 = .ok (.iload 4, 2) := by decide +kernel
theorem dX2_firstBest_15 : decode cX2_firstBest 15 = .ok (.iload_n 3, 1) := by decide +kernel
theorem dX2_firstBest_16 : decode cX2_firstBest 16 = .ok (.invokevirtual 87, 3) := by decide +kernel
theorem dX2_firstBest_19 : decode cX2_firstBest 19 = .ok (.aload_n 0, 1) := by decide +kernel
theorem dX2_firstBest_20 : decode cX2_firstBest 20 = .ok (.iload_n 2, 1) := by decide +kernel
theorem dX2_firstBest_21 : decode cX2_firstBest 21 = .ok (.iload_n 3, 1) := by decide +kernel
theorem dX2_firstBest_22 : decode cX2_firstBest 22 = .ok (.invokevirtual 83, 3) := by decide +kernel
theorem dX2_firstBest_25 : decode cX2_firstBest 25 = .ok (.if_icmp .ne 6, 3) := by decide +kernel
theorem dX2_firstBest_28 : decode cX2_firstBest 28 = .ok (.iload 4, 2) := by decide +kernel
theorem dX2_firstBest_30 : decode cX2_firstBest 30 = .ok (.ireturn, 1) := by decide +kernel
theorem dX2_firstBest_31 : decode cX2_firstBest 31 = .ok (.iinc 4 1, 3) := by decide +kernel
theorem dX2_firstBest_34 : decode cX2_firstBest 34 = .ok (.goto (-31), 3) := by decide +kernel
theorem dX2_firstBest_37 : decode cX2_firstBest 37 = .ok (.bipush (-5), 2) := by decide +kernel
theorem dX2_firstBest_39 : decode cX2_firstBest 39 = .ok (.ireturn, 1) := by decide +kernel
theorem dX2_study_0 : decode cX2_study 0 = .ok (.aload_n 1, 1) := by decide +kernel
theorem dX2_study_1 : decode cX2_study 1 = .ok (.iload_n 2, 1) := by decide +kernel
theorem dX2_study_2 : decode cX2_study 2 = .ok (.invokevirtual 106, 3) := by decide +kernel
theorem dX2_study_5 : decode cX2_study 5 = .ok (.astore 4, 2) := by decide +kernel
theorem dX2_study_7 : decode cX2_study 7 = .ok (.aload 4, 2) := by decide +kernel
theorem dX2_study_9 : decode cX2_study 9 = .ok (.ifnonnull 6, 3) := by decide +kernel
theorem dX2_study_12 : decode cX2_study 12 = .ok (.bipush (-5), 2) := by decide +kernel
theorem dX2_study_14 : decode cX2_study 14 = .ok (.ireturn, 1) := by decide +kernel
theorem dX2_study_15 : decode cX2_study 15 = .ok (.iconst 0, 1) := by decide +kernel
theorem dX2_study_16 : decode cX2_study 16 = .ok (.istore 5, 2) := by decide +kernel
theorem dX2_study_18 : decode cX2_study 18 = .ok (.iconst 0, 1) := by decide +kernel
theorem dX2_study_19 : decode cX2_study 19 = .ok (.istore 6, 2) := by decide +kernel
theorem dX2_study_21 : decode cX2_study 21 = .ok (.iload 6, 2) := by decide +kernel
theorem dX2_study_23 : decode cX2_study 23 = .ok (.bipush 12, 2) := by decide +kernel
theorem dX2_study_25 : decode cX2_study 25 = .ok (.if_icmp .gt 55, 3) := by decide +kernel
theorem dX2_study_28 : decode cX2_study 28 = .ok (.aload_n 0, 1) := by decide +kernel
theorem dX2_study_29 : decode cX2_study 29 = .ok (.getfield 12, 3) := by decide +kernel
theorem dX2_study_32 : decode cX2_study 32 = .ok (.aload_n 1, 1) := by decide +kernel
theorem dX2_study_33 : decode cX2_study 33 = .ok (.iload_n 2, 1) := by decide +kernel
theorem dX2_study_34 : decode cX2_study 34 = .ok (.aload 4, 2) := by decide +kernel
theorem dX2_study_36 : decode cX2_study 36 = .ok (.getfield 110, 3) := by decide +kernel
theorem dX2_study_39 : decode cX2_study 39 = .ok (.iload 5, 2) := by decide +kernel
theorem dX2_study_41 : decode cX2_study 41 = .ok (.ior, 1) := by decide +kernel
theorem dX2_study_42 : decode cX2_study 42 = .ok (.iload_n 3, 1) := by decide +kernel
theorem dX2_study_43 : decode cX2_study 43 = .ok (.invokevirtual 115, 3) := by decide +kernel
theorem dX2_study_46 : decode cX2_study 46 = .ok (.ifCond .le 6, 3) := by decide +kernel
theorem dX2_study_49 : decode cX2_study 49 = .ok (.iload 5, 2) := by decide +kernel
theorem dX2_study_51 : decode cX2_study 51 = .ok (.ireturn, 1) := by decide +kernel
theorem dX2_study_52 : decode cX2_study 52 = .ok (.iload 5, 2) := by decide +kernel
theorem dX2_study_54 : decode cX2_study 54 = .ok (.iload_n 3, 1) := by decide +kernel
theorem dX2_study_55 : decode cX2_study 55 = .ok (.aload 4, 2) := by decide +kernel
theorem dX2_study_57 : decode cX2_study 57 = .ok (.getfield 110, 3) := by decide +kernel
theorem dX2_study_60 : decode cX2_study 60 = .ok (.iconst (-1), 1) := by decide +kernel
theorem dX2_study_61 : decode cX2_study 61 = .ok (.ixor, 1) := by decide +kernel
theorem dX2_study_62 : decode cX2_study 62 = .ok (.iand, 1) := by decide +kernel
theorem dX2_study_63 : decode cX2_study 63 = .ok (.iload 5, 2) := by decide +kernel
theorem dX2_study_65 : decode cX2_study 65 = .ok (.iconst (-1), 1) := by decide +kernel
theorem dX2_study_66 : decode cX2_study 66 = .ok (.ixor, 1) := by decide +kernel
theorem dX2_study_67 : decode cX2_study 67 = .ok (.iand, 1) := by decide +kernel
theorem dX2_study_68 : decode cX2_study 68 = .ok (.invokestatic 118, 3) := by decide +kernel
theorem dX2_study_71 : decode cX2_study 71 = .ok (.ior, 1) := by decide +kernel
theorem dX2_study_72 : decode cX2_study 72 = .ok (.istore 5, 2) := by decide +kernel
theorem dX2_study_74 : decode cX2_study 74 = .ok (.iinc 6 1, 3) := by decide +kernel
theorem dX2_study_77 : decode cX2_study 77 = .ok (.goto (-56), 3) := by decide +kernel
theorem dX2_study_80 : decode cX2_study 80 = .ok (.bipush (-5), 2) := by decide +kernel
theorem dX2_study_82 : decode cX2_study 82 = .ok (.ireturn, 1) := by decide +kernel
theorem dX2_stumps_0 : decode cX2_stumps 0 = .ok (.aload_n 1, 1) := by decide +kernel
theorem dX2_stumps_1 : decode cX2_stumps 1 = .ok (.iload_n 2, 1) := by decide +kernel
theorem dX2_stumps_2 : decode cX2_stumps 2 = .ok (.invokevirtual 106, 3) := by decide +kernel
theorem dX2_stumps_5 : decode cX2_stumps 5 = .ok (.astore_n 3, 1) := by decide +kernel
theorem dX2_stumps_6 : decode cX2_stumps 6 = .ok (.aload_n 3, 1) := by decide +kernel
theorem dX2_stumps_7 : decode cX2_stumps 7 = .ok (.ifnonnull 6, 3) := by decide +kernel
theorem dX2_stumps_10 : decode cX2_stumps 10 = .ok (.bipush (-5), 2) := by decide +kernel
theorem dX2_stumps_12 : decode cX2_stumps 12 = .ok (.ireturn, 1) := by decide +kernel
theorem dX2_stumps_13 : decode cX2_stumps 13 = .ok (.aload_n 0, 1) := by decide +kernel
theorem dX2_stumps_14 : decode cX2_stumps 14 = .ok (.aload_n 1, 1) := by decide +kernel
theorem dX2_stumps_15 : decode cX2_stumps 15 = .ok (.iload_n 2, 1) := by decide +kernel
theorem dX2_stumps_16 : decode cX2_stumps 16 = .ok (.aload_n 3, 1) := by decide +kernel
theorem dX2_stumps_17 : decode cX2_stumps 17 = .ok (.getfield 121, 3) := by decide +kernel
theorem dX2_stumps_20 : decode cX2_stumps 20 = .ok (.invokevirtual 124, 3) := by decide +kernel
theorem dX2_stumps_23 : decode cX2_stumps 23 = .ok (.bipush (-5), 2) := by decide +kernel
theorem dX2_stumps_25 : decode cX2_stumps 25 = .ok (.istore 4, 2) := by decide +kernel
theorem dX2_stumps_27 : decode cX2_stumps 27 = .ok (.bipush 13, 2) := by decide +kernel
theorem dX2_stumps_29 : decode cX2_stumps 29 = .ok (.istore 5, 2) := by decide +kernel
theorem dX2_stumps_31 : decode cX2_stumps 31 = .ok (.iconst 1, 1) := by decide +kernel
theorem dX2_stumps_32 : decode cX2_stumps 32 = .ok (.istore 6, 2) := by decide +kernel
theorem dX2_stumps_34 : decode cX2_stumps 34 = .ok (.iload 6, 2) := by decide +kernel
theorem dX2_stumps_36 : decode cX2_stumps 36 = .ok (.sipush 4096, 3) := by decide +kernel
theorem dX2_stumps_39 : decode cX2_stumps 39 = .ok (.if_icmp .ge 55, 3) := by decide +kernel
theorem dX2_stumps_42 : decode cX2_stumps 42 = .ok (.iload 6, 2) := by decide +kernel
theorem dX2_stumps_44 : decode cX2_stumps 44 = .ok (.invokestatic 60, 3) := by decide +kernel
theorem dX2_stumps_47 : decode cX2_stumps 47 = .ok (.istore 7, 2) := by decide +kernel
theorem dX2_stumps_49 : decode cX2_stumps 49 = .ok (.iload 7, 2) := by decide +kernel
theorem dX2_stumps_51 : decode cX2_stumps 51 = .ok (.iload 5, 2) := by decide +kernel
theorem dX2_stumps_53 : decode cX2_stumps 53 = .ok (.if_icmp .ge 35, 3) := by decide +kernel
theorem dX2_stumps_56 : decode cX2_stumps 56 = .ok (.aload_n 0, 1) := by decide +kernel
theorem dX2_stumps_57 : decode cX2_stumps 57 = .ok (.getfield 25, 3) := by decide +kernel
theorem dX2_stumps_60 : decode cX2_stumps 60 = .ok (.iload 7, 2) := by decide +kernel
theorem dX2_stumps_62 : decode cX2_stumps 62 = .ok (.iaload, 1) := by decide +kernel
theorem dX2_stumps_63 : decode cX2_stumps 63 = .ok (.iload 6, 2) := by decide +kernel
theorem dX2_stumps_65 : decode cX2_stumps 65 = .ok (.aload_n 3, 1) := by decide +kernel
theorem dX2_stumps_66 : decode cX2_stumps 66 = .ok (.getfield 110, 3) := by decide +kernel
theorem dX2_stumps_69 : decode cX2_stumps 69 = .ok (.iand, 1) := by decide +kernel
theorem dX2_stumps_70 : decode cX2_stumps 70 = .ok (.invokestatic 60, 3) := by decide +kernel
theorem dX2_stumps_73 : decode cX2_stumps 73 = .ok (.ishr, 1) := by decide +kernel
theorem dX2_stumps_74 : decode cX2_stumps 74 = .ok (.iconst 1, 1) := by decide +kernel
theorem dX2_stumps_75 : decode cX2_stumps 75 = .ok (.iand, 1) := by decide +kernel
theorem dX2_stumps_76 : decode cX2_stumps 76 = .ok (.iconst 1, 1) := by decide +kernel
theorem dX2_stumps_77 : decode cX2_stumps 77 = .ok (.if_icmp .ne 11, 3) := by decide +kernel
theorem dX2_stumps_80 : decode cX2_stumps 80 = .ok (.iload 6, 2) := by decide +kernel
theorem dX2_stumps_82 : decode cX2_stumps 82 = .ok (.istore 4, 2) := by decide +kernel
theorem dX2_stumps_84 : decode cX2_stumps 84 = .ok (.iload 7, 2) := by decide +kernel
theorem dX2_stumps_86 : decode cX2_stumps 86 = .ok (.istore 5, 2) := by decide +kernel
theorem dX2_stumps_88 : decode cX2_stumps 88 = .ok (.iinc 6 1, 3) := by decide +kernel
theorem dX2_stumps_91 : decode cX2_stumps 91 = .ok (.goto (-57), 3) := by decide +kernel
theorem dX2_stumps_94 : decode cX2_stumps 94 = .ok (.iload 4, 2) := by decide +kernel
theorem dX2_stumps_96 : decode cX2_stumps 96 = .ok (.ireturn, 1) := by decide +kernel
theorem dX2_findStumped_0 : decode cX2_findStumped 0 = .ok (.iconst 1, 1) := by decide +kernel
theorem dX2_findStumped_1 : decode cX2_findStumped 1 = .ok (.istore 4, 2) := by decide +kernel
theorem dX2_findStumped_3 : decode cX2_findStumped 3 = .ok (.iload 4, 2) := by decide +kernel
theorem dX2_findStumped_5 : decode cX2_findStumped 5 = .ok (.bipush 13, 2) := by decide +kernel
theorem dX2_findStumped_7 : decode cX2_findStumped 7 = .ok (.if_icmp .ge 26, 3) := by decide +kernel
theorem dX2_findStumped_10 : decode cX2_findStumped 10 = .ok (.aload_n 0, 1) := by decide +kernel
theorem dX2_findStumped_11 : decode cX2_findStumped 11 = .ok (.getfield 25, 3) := by decide +kernel
theorem dX2_findStumped_14 : decode cX2_findStumped 14 = .ok (.iload 4, 2) := by decide +kernel
theorem dX2_findStumped_16 : decode cX2_findStumped 16 = .ok (.aload_n 0, 1) := by decide +kernel
theorem dX2_findStumped_17 : decode cX2_findStumped 17 = .ok (.aload_n 1, 1) := by decide +kernel
theorem dX2_findStumped_18 : decode cX2_findStumped 18 = .ok (.iload_n 2, 1) := by decide +kernel
theorem dX2_findStumped_19 : decode cX2_findStumped 19 = .ok (.iload_n 3, 1) := by decide +kernel
theorem dX2_findStumped_20 : decode cX2_findStumped 20 = .ok (.iload 4, 2) := by decide +kernel
theorem dX2_findStumped_22 : decode cX2_findStumped 22 = .ok (.iconst 0, 1) := by decide +kernel
theorem dX2_findStumped_23 : decode cX2_findStumped 23 = .ok (.invokevirtual 128, 3) := by decide +kernel
theorem dX2_findStumped_26 : decode cX2_findStumped 26 = .ok (.iastore, 1) := by decide +kernel
theorem dX2_findStumped_27 : decode cX2_findStumped 27 = .ok (.iinc 4 1, 3) := by decide +kernel
theorem dX2_findStumped_30 : decode cX2_findStumped 30 = .ok (.goto (-27), 3) := by decide +kernel
theorem dX2_findStumped_33 : decode cX2_findStumped 33 = .ok (.return_, 1) := by decide +kernel
theorem dX2_fits_0 : decode cX2_fits 0 = .ok (.aload_n 1, 1) := by decide +kernel
theorem dX2_fits_1 : decode cX2_fits 1 = .ok (.getfield 132, 3) := by decide +kernel
theorem dX2_fits_4 : decode cX2_fits 4 = .ok (.ifnonnull 7, 3) := by decide +kernel
theorem dX2_fits_7 : decode cX2_fits 7 = .ok (.iconst 0, 1) := by decide +kernel
theorem dX2_fits_8 : decode cX2_fits 8 = .ok (.goto 23, 3) := by decide +kernel
theorem dX2_fits_11 : decode cX2_fits 11 = .ok (.aload_n 1, 1) := by decide +kernel
theorem dX2_fits_12 : decode cX2_fits 12 = .ok (.getfield 132, 3) := by decide +kernel
theorem dX2_fits_15 : decode cX2_fits 15 = .ok (.aload_n 1, 1) := by decide +kernel
theorem dX2_fits_16 : decode cX2_fits 16 = .ok (.iload_n 2, 1) := by decide +kernel
theorem dX2_fits_17 : decode cX2_fits 17 = .ok (.invokevirtual 106, 3) := by decide +kernel
theorem dX2_fits_20 : decode cX2_fits 20 = .ok (.iload_n 2, 1) := by decide +kernel
theorem dX2_fits_21 : decode cX2_fits 21 = .ok (.iload_n 3, 1) := by decide +kernel
theorem dX2_fits_22 : decode cX2_fits 22 = .ok (.iload 4, 2) := by decide +kernel
theorem dX2_fits_24 : decode cX2_fits 24 = .ok (.aload_n 1, 1) := by decide +kernel
theorem dX2_fits_25 : decode cX2_fits 25 = .ok (.getfield 136, 3) := by decide +kernel
theorem dX2_fits_28 : decode cX2_fits 28 = .ok (.invokevirtual 139, 3) := by decide +kernel
theorem dX2_fits_31 : decode cX2_fits 31 = .ok (.istore 6, 2) := by decide +kernel
theorem dX2_fits_33 : decode cX2_fits 33 = .ok (.iconst 0, 1) := by decide +kernel
theorem dX2_fits_34 : decode cX2_fits 34 = .ok (.istore 7, 2) := by decide +kernel
theorem dX2_fits_36 : decode cX2_fits 36 = .ok (.iconst 0, 1) := by decide +kernel
theorem dX2_fits_37 : decode cX2_fits 37 = .ok (.istore 8, 2) := by decide +kernel
theorem dX2_fits_39 : decode cX2_fits 39 = .ok (.iload 8, 2) := by decide +kernel
theorem dX2_fits_41 : decode cX2_fits 41 = .ok (.iload 4, 2) := by decide +kernel
theorem dX2_fits_43 : decode cX2_fits 43 = .ok (.if_icmp .gt 55, 3) := by decide +kernel
theorem dX2_fits_46 : decode cX2_fits 46 = .ok (.aload_n 0, 1) := by decide +kernel
theorem dX2_fits_47 : decode cX2_fits 47 = .ok (.getfield 12, 3) := by decide +kernel
theorem dX2_fits_50 : decode cX2_fits 50 = .ok (.aload_n 1, 1) := by decide +kernel
theorem dX2_fits_51 : decode cX2_fits 51 = .ok (.iload_n 2, 1) := by decide +kernel
theorem dX2_fits_52 : decode cX2_fits 52 = .ok (.iload_n 3, 1) := by decide +kernel
theorem dX2_fits_53 : decode cX2_fits 53 = .ok (.iload 4, 2) := by decide +kernel
theorem dX2_fits_55 : decode cX2_fits 55 = .ok (.iload 8, 2) := by decide +kernel
theorem dX2_fits_57 : decode cX2_fits 57 = .ok (.iload 6, 2) := by decide +kernel
theorem dX2_fits_59 : decode cX2_fits 59 = .ok (.invokevirtual 145, 3) := by decide +kernel
theorem dX2_fits_62 : decode cX2_fits 62 = .ok (.ifCond .le 7, 3) := by decide +kernel
theorem dX2_fits_65 : decode cX2_fits 65 = .ok (.iconst 1, 1) := by decide +kernel
theorem dX2_fits_66 : decode cX2_fits 66 = .ok (.goto 4, 3) := by decide +kernel
theorem dX2_fits_69 : decode cX2_fits 69 = .ok (.iconst 0, 1) := by decide +kernel
theorem dX2_fits_70 : decode cX2_fits 70 = .ok (.istore 9, 2) := by decide +kernel
theorem dX2_fits_72 : decode cX2_fits 72 = .ok (.iload 7, 2) := by decide +kernel
theorem dX2_fits_74 : decode cX2_fits 74 = .ok (.iload 9, 2) := by decide +kernel
theorem dX2_fits_76 : decode cX2_fits 76 = .ok (.iload 5, 2) := by decide +kernel
theorem dX2_fits_78 : decode cX2_fits 78 = .ok (.if_icmp .ne 10, 3) := by decide +kernel
theorem dX2_fits_81 : decode cX2_fits 81 = .ok (.iconst 1, 1) := by decide +kernel
theorem dX2_fits_82 : decode cX2_fits 82 = .ok (.iload 8, 2) := by decide +kernel
theorem dX2_fits_84 : decode cX2_fits 84 = .ok (.ishl, 1) := by decide +kernel
theorem dX2_fits_85 : decode cX2_fits 85 = .ok (.goto 4, 3) := by decide +kernel
theorem dX2_fits_88 : decode cX2_fits 88 = .ok (.iconst 0, 1) := by decide +kernel
theorem dX2_fits_89 : decode cX2_fits 89 = .ok (.ior, 1) := by decide +kernel
theorem dX2_fits_90 : decode cX2_fits 90 = .ok (.istore 7, 2) := by decide +kernel
theorem dX2_fits_92 : decode cX2_fits 92 = .ok (.iinc 8 1, 3) := by decide +kernel
theorem dX2_fits_95 : decode cX2_fits 95 = .ok (.goto (-56), 3) := by decide +kernel
theorem dX2_fits_98 : decode cX2_fits 98 = .ok (.iload 7, 2) := by decide +kernel
theorem dX2_fits_100 : decode cX2_fits 100 = .ok (.ireturn, 1) := by decide +kernel
theorem dX2_findRows_0 : decode cX2_findRows 0 = .ok (.aload_n 0, 1) := by decide +kernel
theorem dX2_findRows_1 : decode cX2_findRows 1 = .ok (.iconst 0, 1) := by decide +kernel
theorem dX2_findRows_2 : decode cX2_findRows 2 = .ok (.putfield 149, 3) := by decide +kernel
theorem dX2_findRows_5 : decode cX2_findRows 5 = .ok (.iconst 0, 1) := by decide +kernel
theorem dX2_findRows_6 : decode cX2_findRows 6 = .ok (.istore 4, 2) := by decide +kernel
theorem dX2_findRows_8 : decode cX2_findRows 8 = .ok (.iload 4, 2) := by decide +kernel
theorem dX2_findRows_10 : decode cX2_findRows 10 = .ok (.aload_n 1, 1) := by decide +kernel
theorem dX2_findRows_11 : decode cX2_findRows 11 = .ok (.getfield 152, 3) := by decide +kernel
theorem dX2_findRows_14 : decode cX2_findRows 14 = .ok (.getfield 156, 3) := by decide +kernel
theorem dX2_findRows_17 : decode cX2_findRows 17 = .ok (.if_icmp .ge 120, 3) := by decide +kernel
theorem dX2_findRows_20 : decode cX2_findRows 20 = .ok (.aload_n 1, 1) := by decide +kernel
theorem dX2_findRows_21 : decode cX2_findRows 21 = .ok (.aload_n 1, 1) := by decide +kernel
theorem dX2_findRows_22 : decode cX2_findRows 22 = .ok (.getfield 152, 3) := by decide +kernel
theorem dX2_findRows_25 : decode cX2_findRows 25 = .ok (.iload 4, 2) := by decide +kernel
theorem dX2_findRows_27 : decode cX2_findRows 27 = .ok (.invokevirtual 161, 3) := by decide +kernel
theorem dX2_findRows_30 : decode cX2_findRows 30 = .ok (.invokevirtual 34, 3) := by decide +kernel
theorem dX2_findRows_33 : decode cX2_findRows 33 = .ok (.astore 5, 2) := by decide +kernel
theorem dX2_findRows_35 : decode cX2_findRows 35 = .ok (.aload 5, 2) := by decide +kernel
theorem dX2_findRows_37 : decode cX2_findRows 37 = .ok (.ifnull 94, 3) := by decide +kernel
theorem dX2_findRows_40 : decode cX2_findRows 40 = .ok (.aload_n 1, 1) := by decide +kernel
theorem dX2_findRows_41 : decode cX2_findRows 41 = .ok (.getfield 152, 3) := by decide +kernel
theorem dX2_findRows_44 : decode cX2_findRows 44 = .ok (.iload 4, 2) := by decide +kernel
theorem dX2_findRows_46 : decode cX2_findRows 46 = .ok (.invokevirtual 164, 3) := by decide +kernel
theorem dX2_findRows_49 : decode cX2_findRows 49 = .ok (.iload_n 2, 1) := by decide +kernel
theorem dX2_findRows_50 : decode cX2_findRows 50 = .ok (.if_icmp .ne 81, 3) := by decide +kernel
theorem dX2_findRows_53 : decode cX2_findRows 53 = .ok (.aload_n 0, 1) := by decide +kernel
theorem dX2_findRows_54 : decode cX2_findRows 54 = .ok (.getfield 149, 3) := by decide +kernel
theorem dX2_findRows_57 : decode cX2_findRows 57 = .ok (.aload_n 0, 1) := by decide +kernel
theorem dX2_findRows_58 : decode cX2_findRows 58 = .ok (.getfield 31, 3) := by decide +kernel
theorem dX2_findRows_61 : decode cX2_findRows 61 = .ok (.arraylength, 1) := by decide +kernel
theorem dX2_findRows_62 : decode cX2_findRows 62 = .ok (.if_icmp .ge 69, 3) := by decide +kernel
theorem dX2_findRows_65 : decode cX2_findRows 65 = .ok (.aload_n 0, 1) := by decide +kernel
theorem dX2_findRows_66 : decode cX2_findRows 66 = .ok (.getfield 28, 3) := by decide +kernel
theorem dX2_findRows_69 : decode cX2_findRows 69 = .ok (.aload_n 0, 1) := by decide +kernel
theorem dX2_findRows_70 : decode cX2_findRows 70 = .ok (.getfield 149, 3) := by decide +kernel
theorem dX2_findRows_73 : decode cX2_findRows 73 = .ok (.aload 5, 2) := by decide +kernel
theorem dX2_findRows_75 : decode cX2_findRows 75 = .ok (.getfield 49, 3) := by decide +kernel
theorem dX2_findRows_78 : decode cX2_findRows 78 = .ok (.iastore, 1) := by decide +kernel
theorem dX2_findRows_79 : decode cX2_findRows 79 = .ok (.aload_n 0, 1) := by decide +kernel
theorem dX2_findRows_80 : decode cX2_findRows 80 = .ok (.getfield 31, 3) := by decide +kernel
theorem dX2_findRows_83 : decode cX2_findRows 83 = .ok (.aload_n 0, 1) := by decide +kernel
theorem dX2_findRows_84 : decode cX2_findRows 84 = .ok (.getfield 149, 3) := by decide +kernel
theorem dX2_findRows_87 : decode cX2_findRows 87 = .ok (.aload_n 0, 1) := by decide +kernel
theorem dX2_findRows_88 : decode cX2_findRows 88 = .ok (.aload_n 1, 1) := by decide +kernel
theorem dX2_findRows_89 : decode cX2_findRows 89 = .ok (.iload_n 2, 1) := by decide +kernel
theorem dX2_findRows_90 : decode cX2_findRows 90 = .ok (.iload_n 3, 1) := by decide +kernel
theorem dX2_findRows_91 : decode cX2_findRows 91 = .ok (.aload 5, 2) := by decide +kernel
theorem dX2_findRows_93 : decode cX2_findRows 93 = .ok (.getfield 49, 3) := by decide +kernel
theorem dX2_findRows_96 : decode cX2_findRows 96 = .ok (.invokestatic 60, 3) := by decide +kernel
theorem dX2_findRows_99 : decode cX2_findRows 99 = .ok (.aload_n 1, 1) := by decide +kernel
theorem dX2_findRows_100 : decode cX2_findRows 100 = .ok (.getfield 152, 3) := by decide +kernel
theorem dX2_findRows_103 : decode cX2_findRows 103 = .ok (.iload 4, 2) := by decide +kernel
theorem dX2_findRows_105 : decode cX2_findRows 105 = .ok (.invokevirtual 167, 3) := by decide +kernel
theorem dX2_findRows_108 : decode cX2_findRows 108 = .ok (.iconst 1, 1) := by decide +kernel
theorem dX2_findRows_109 : decode cX2_findRows 109 = .ok (.if_icmp .ne 7, 3) := by decide +kernel
theorem dX2_findRows_112 : decode cX2_findRows 112 = .ok (.iconst 1, 1) := by decide +kernel
theorem dX2_findRows_113 : decode cX2_findRows 113 = .ok (.goto 4, 3) := by decide +kernel
theorem dX2_findRows_116 : decode cX2_findRows 116 = .ok (.iconst 0, 1) := by decide +kernel
theorem dX2_findRows_117 : decode cX2_findRows 117 = .ok (.invokevirtual 128, 3) := by decide +kernel
theorem dX2_findRows_120 : decode cX2_findRows 120 = .ok (.iastore, 1) := by decide +kernel
theorem dX2_findRows_121 : decode cX2_findRows 121 = .ok (.aload_n 0, 1) := by decide +kernel
theorem dX2_findRows_122 : decode cX2_findRows 122 = .ok (.dup, 1) := by decide +kernel
theorem dX2_findRows_123 : decode cX2_findRows 123 = .ok (.getfield 149, 3) := by decide +kernel
theorem dX2_findRows_126 : decode cX2_findRows 126 = .ok (.iconst 1, 1) := by decide +kernel
theorem dX2_findRows_127 : decode cX2_findRows 127 = .ok (.iadd, 1) := by decide +kernel
theorem dX2_findRows_128 : decode cX2_findRows 128 = .ok (.putfield 149, 3) := by decide +kernel
theorem dX2_findRows_131 : decode cX2_findRows 131 = .ok (.iinc 4 1, 3) := by decide +kernel
theorem dX2_findRows_134 : decode cX2_findRows 134 = .ok (.goto (-126), 3) := by decide +kernel
theorem dX2_findRows_137 : decode cX2_findRows 137 = .ok (.return_, 1) := by decide +kernel
theorem dX2_allFit_0 : decode cX2_allFit 0 = .ok (.iconst 0, 1) := by decide +kernel
theorem dX2_allFit_1 : decode cX2_allFit 1 = .ok (.istore_n 2, 1) := by decide +kernel
theorem dX2_allFit_2 : decode cX2_allFit 2 = .ok (.iload_n 2, 1) := by decide +kernel
theorem dX2_allFit_3 : decode cX2_allFit 3 = .ok (.aload_n 0, 1) := by decide +kernel
theorem dX2_allFit_4 : decode cX2_allFit 4 = .ok (.getfield 149, 3) := by decide +kernel
theorem dX2_allFit_7 : decode cX2_allFit 7 = .ok (.if_icmp .ge 34, 3) := by decide +kernel
theorem dX2_allFit_10 : decode cX2_allFit 10 = .ok (.aload_n 0, 1) := by decide +kernel
theorem dX2_allFit_11 : decode cX2_allFit 11 = .ok (.getfield 31, 3) := by decide +kernel
theorem dX2_allFit_14 : decode cX2_allFit 14 = .ok (.iload_n 2, 1) := by decide +kernel
theorem dX2_allFit_15 : decode cX2_allFit 15 = .ok (.iaload, 1) := by decide +kernel
theorem dX2_allFit_16 : decode cX2_allFit 16 = .ok (.aload_n 0, 1) := by decide +kernel
theorem dX2_allFit_17 : decode cX2_allFit 17 = .ok (.getfield 28, 3) := by decide +kernel
theorem dX2_allFit_20 : decode cX2_allFit 20 = .ok (.iload_n 2, 1) := by decide +kernel
theorem dX2_allFit_21 : decode cX2_allFit 21 = .ok (.iaload, 1) := by decide +kernel
theorem dX2_allFit_22 : decode cX2_allFit 22 = .ok (.iload_n 1, 1) := by decide +kernel
theorem dX2_allFit_23 : decode cX2_allFit 23 = .ok (.iand, 1) := by decide +kernel
theorem dX2_allFit_24 : decode cX2_allFit 24 = .ok (.invokestatic 60, 3) := by decide +kernel
theorem dX2_allFit_27 : decode cX2_allFit 27 = .ok (.ishr, 1) := by decide +kernel
theorem dX2_allFit_28 : decode cX2_allFit 28 = .ok (.iconst 1, 1) := by decide +kernel
theorem dX2_allFit_29 : decode cX2_allFit 29 = .ok (.iand, 1) := by decide +kernel
theorem dX2_allFit_30 : decode cX2_allFit 30 = .ok (.ifCond .ne 5, 3) := by decide +kernel
theorem dX2_allFit_33 : decode cX2_allFit 33 = .ok (.iconst 0, 1) := by decide +kernel
theorem dX2_allFit_34 : decode cX2_allFit 34 = .ok (.ireturn, 1) := by decide +kernel
theorem dX2_allFit_35 : decode cX2_allFit 35 = .ok (.iinc 2 1, 3) := by decide +kernel
theorem dX2_allFit_38 : decode cX2_allFit 38 = .ok (.goto (-36), 3) := by decide +kernel
theorem dX2_allFit_41 : decode cX2_allFit 41 = .ok (.iconst 1, 1) := by decide +kernel
theorem dX2_allFit_42 : decode cX2_allFit 42 = .ok (.ireturn, 1) := by decide +kernel
theorem dX2_knewCount_0 : decode cX2_knewCount 0 = .ok (.aload_n 1, 1) := by decide +kernel
theorem dX2_knewCount_1 : decode cX2_knewCount 1 = .ok (.iload_n 2, 1) := by decide +kernel
theorem dX2_knewCount_2 : decode cX2_knewCount 2 = .ok (.invokevirtual 106, 3) := by decide +kernel
theorem dX2_knewCount_5 : decode cX2_knewCount 5 = .ok (.astore_n 3, 1) := by decide +kernel
theorem dX2_knewCount_6 : decode cX2_knewCount 6 = .ok (.aload_n 0, 1) := by decide +kernel
theorem dX2_knewCount_7 : decode cX2_knewCount 7 = .ok (.aload_n 1, 1) := by decide +kernel
theorem dX2_knewCount_8 : decode cX2_knewCount 8 = .ok (.iload_n 2, 1) := by decide +kernel
theorem dX2_knewCount_9 : decode cX2_knewCount 9 = .ok (.aload_n 3, 1) := by decide +kernel
theorem dX2_knewCount_10 : decode cX2_knewCount 10 = .ok (.ifnonnull 7, 3) := by decide +kernel
theorem dX2_knewCount_13 : decode cX2_knewCount 13 = .ok (.iconst 0, 1) := by decide +kernel
theorem dX2_knewCount_14 : decode cX2_knewCount 14 = .ok (.goto 7, 3) := by decide +kernel
theorem dX2_knewCount_17 : decode cX2_knewCount 17 = .ok (.aload_n 3, 1) := by decide +kernel
theorem dX2_knewCount_18 : decode cX2_knewCount 18 = .ok (.getfield 121, 3) := by decide +kernel
theorem dX2_knewCount_21 : decode cX2_knewCount 21 = .ok (.invokevirtual 170, 3) := by decide +kernel
theorem dX2_knewCount_24 : decode cX2_knewCount 24 = .ok (.iconst 0, 1) := by decide +kernel
theorem dX2_knewCount_25 : decode cX2_knewCount 25 = .ok (.istore 4, 2) := by decide +kernel
theorem dX2_knewCount_27 : decode cX2_knewCount 27 = .ok (.iconst 0, 1) := by decide +kernel
theorem dX2_knewCount_28 : decode cX2_knewCount 28 = .ok (.istore 5, 2) := by decide +kernel
theorem dX2_knewCount_30 : decode cX2_knewCount 30 = .ok (.iload 5, 2) := by decide +kernel
theorem dX2_knewCount_32 : decode cX2_knewCount 32 = .ok (.sipush 4096, 3) := by decide +kernel
theorem dX2_knewCount_35 : decode cX2_knewCount 35 = .ok (.if_icmp .ge 28, 3) := by decide +kernel
theorem dX2_knewCount_38 : decode cX2_knewCount 38 = .ok (.iload 4, 2) := by decide +kernel
theorem dX2_knewCount_40 : decode cX2_knewCount 40 = .ok (.aload_n 0, 1) := by decide +kernel
theorem dX2_knewCount_41 : decode cX2_knewCount 41 = .ok (.iload 5, 2) := by decide +kernel
theorem dX2_knewCount_43 : decode cX2_knewCount 43 = .ok (.invokevirtual 173, 3) := by decide +kernel
theorem dX2_knewCount_46 : decode cX2_knewCount 46 = .ok (.ifCond .eq 7, 3) := by decide +kernel
theorem dX2_knewCount_49 : decode cX2_knewCount 49 = .ok (.iconst 1, 1) := by decide +kernel
theorem dX2_knewCount_50 : decode cX2_knewCount 50 = .ok (.goto 4, 3) := by decide +kernel
theorem dX2_knewCount_53 : decode cX2_knewCount 53 = .ok (.iconst 0, 1) := by decide +kernel
theorem dX2_knewCount_54 : decode cX2_knewCount 54 = .ok (.iadd, 1) := by decide +kernel
theorem dX2_knewCount_55 : decode cX2_knewCount 55 = .ok (.istore 4, 2) := by decide +kernel
theorem dX2_knewCount_57 : decode cX2_knewCount 57 = .ok (.iinc 5 1, 3) := by decide +kernel
theorem dX2_knewCount_60 : decode cX2_knewCount 60 = .ok (.goto (-30), 3) := by decide +kernel
theorem dX2_knewCount_63 : decode cX2_knewCount 63 = .ok (.iload 4, 2) := by decide +kernel
theorem dX2_knewCount_65 : decode cX2_knewCount 65 = .ok (.ireturn, 1) := by decide +kernel
theorem dX2_knewLeast_0 : decode cX2_knewLeast 0 = .ok (.aload_n 1, 1) := by decide +kernel
theorem dX2_knewLeast_1 : decode cX2_knewLeast 1 = .ok (.iload_n 2, 1) := by decide +kernel
theorem dX2_knewLeast_2 : decode cX2_knewLeast 2 = .ok (.invokevirtual 106, 3) := by decide +kernel
theorem dX2_knewLeast_5 : decode cX2_knewLeast 5 = .ok (.astore_n 3, 1) := by decide +kernel
theorem dX2_knewLeast_6 : decode cX2_knewLeast 6 = .ok (.aload_n 0, 1) := by decide +kernel
theorem dX2_knewLeast_7 : decode cX2_knewLeast 7 = .ok (.aload_n 1, 1) := by decide +kernel
theorem dX2_knewLeast_8 : decode cX2_knewLeast 8 = .ok (.iload_n 2, 1) := by decide +kernel
theorem dX2_knewLeast_9 : decode cX2_knewLeast 9 = .ok (.aload_n 3, 1) := by decide +kernel
theorem dX2_knewLeast_10 : decode cX2_knewLeast 10 = .ok (.ifnonnull 7, 3) := by decide +kernel
theorem dX2_knewLeast_13 : decode cX2_knewLeast 13 = .ok (.iconst 0, 1) := by decide +kernel
theorem dX2_knewLeast_14 : decode cX2_knewLeast 14 = .ok (.goto 7, 3) := by decide +kernel
theorem dX2_knewLeast_17 : decode cX2_knewLeast 17 = .ok (.aload_n 3, 1) := by decide +kernel
theorem dX2_knewLeast_18 : decode cX2_knewLeast 18 = .ok (.getfield 121, 3) := by decide +kernel
theorem dX2_knewLeast_21 : decode cX2_knewLeast 21 = .ok (.invokevirtual 170, 3) := by decide +kernel
theorem dX2_knewLeast_24 : decode cX2_knewLeast 24 = .ok (.iconst 0, 1) := by decide +kernel
theorem dX2_knewLeast_25 : decode cX2_knewLeast 25 = .ok (.istore 4, 2) := by decide +kernel
theorem dX2_knewLeast_27 : decode cX2_knewLeast 27 = .ok (.iload 4, 2) := by decide +kernel
theorem dX2_knewLeast_29 : decode cX2_knewLeast 29 = .ok (.sipush 4096, 3) := by decide +kernel
theorem dX2_knewLeast_32 : decode cX2_knewLeast 32 = .ok (.if_icmp .ge 21, 3) := by decide +kernel
theorem dX2_knewLeast_35 : decode cX2_knewLeast 35 = .ok (.aload_n 0, 1) := by decide +kernel
theorem dX2_knewLeast_36 : decode cX2_knewLeast 36 = .ok (.iload 4, 2) := by decide +kernel
theorem dX2_knewLeast_38 : decode cX2_knewLeast 38 = .ok (.invokevirtual 173, 3) := by decide +kernel
theorem dX2_knewLeast_41 : decode cX2_knewLeast 41 = .ok (.ifCond .eq 6, 3) := by decide +kernel
theorem dX2_knewLeast_44 : decode cX2_knewLeast 44 = .ok (.iload 4, 2) := by decide +kernel
theorem dX2_knewLeast_46 : decode cX2_knewLeast 46 = .ok (.ireturn, 1) := by decide +kernel
theorem dX2_knewLeast_47 : decode cX2_knewLeast 47 = .ok (.iinc 4 1, 3) := by decide +kernel
theorem dX2_knewLeast_50 : decode cX2_knewLeast 50 = .ok (.goto (-23), 3) := by decide +kernel
theorem dX2_knewLeast_53 : decode cX2_knewLeast 53 = .ok (.bipush (-5), 2) := by decide +kernel
theorem dX2_knewLeast_55 : decode cX2_knewLeast 55 = .ok (.ireturn, 1) := by decide +kernel
theorem dX2_fitsWith_0 : decode cX2_fitsWith 0 = .ok (.aload_n 1, 1) := by decide +kernel
theorem dX2_fitsWith_1 : decode cX2_fitsWith 1 = .ok (.iload_n 2, 1) := by decide +kernel
theorem dX2_fitsWith_2 : decode cX2_fitsWith 2 = .ok (.invokevirtual 106, 3) := by decide +kernel
theorem dX2_fitsWith_5 : decode cX2_fitsWith 5 = .ok (.astore 4, 2) := by decide +kernel
theorem dX2_fitsWith_7 : decode cX2_fitsWith 7 = .ok (.aload_n 0, 1) := by decide +kernel
theorem dX2_fitsWith_8 : decode cX2_fitsWith 8 = .ok (.aload_n 1, 1) := by decide +kernel
theorem dX2_fitsWith_9 : decode cX2_fitsWith 9 = .ok (.iload_n 2, 1) := by decide +kernel
theorem dX2_fitsWith_10 : decode cX2_fitsWith 10 = .ok (.iload_n 3, 1) := by decide +kernel
theorem dX2_fitsWith_11 : decode cX2_fitsWith 11 = .ok (.invokevirtual 170, 3) := by decide +kernel
theorem dX2_fitsWith_14 : decode cX2_fitsWith 14 = .ok (.aload 4, 2) := by decide +kernel
theorem dX2_fitsWith_16 : decode cX2_fitsWith 16 = .ok (.ifnull 19, 3) := by decide +kernel
theorem dX2_fitsWith_19 : decode cX2_fitsWith 19 = .ok (.aload_n 0, 1) := by decide +kernel
theorem dX2_fitsWith_20 : decode cX2_fitsWith 20 = .ok (.aload 4, 2) := by decide +kernel
theorem dX2_fitsWith_22 : decode cX2_fitsWith 22 = .ok (.getfield 110, 3) := by decide +kernel
theorem dX2_fitsWith_25 : decode cX2_fitsWith 25 = .ok (.invokevirtual 173, 3) := by decide +kernel
theorem dX2_fitsWith_28 : decode cX2_fitsWith 28 = .ok (.ifCond .eq 7, 3) := by decide +kernel
theorem dX2_fitsWith_31 : decode cX2_fitsWith 31 = .ok (.iconst 1, 1) := by decide +kernel
theorem dX2_fitsWith_32 : decode cX2_fitsWith 32 = .ok (.goto 4, 3) := by decide +kernel
theorem dX2_fitsWith_35 : decode cX2_fitsWith 35 = .ok (.iconst 0, 1) := by decide +kernel
theorem dX2_fitsWith_36 : decode cX2_fitsWith 36 = .ok (.ireturn, 1) := by decide +kernel
theorem dX2_canCount_0 : decode cX2_canCount 0 = .ok (.iconst 0, 1) := by decide +kernel
theorem dX2_canCount_1 : decode cX2_canCount 1 = .ok (.istore_n 3, 1) := by decide +kernel
theorem dX2_canCount_2 : decode cX2_canCount 2 = .ok (.iconst 0, 1) := by decide +kernel
theorem dX2_canCount_3 : decode cX2_canCount 3 = .ok (.istore 4, 2) := by decide +kernel
theorem dX2_canCount_5 : decode cX2_canCount 5 = .ok (.iload 4, 2) := by decide +kernel
theorem dX2_canCount_7 : decode cX2_canCount 7 = .ok (.bipush 9, 2) := by decide +kernel
theorem dX2_canCount_9 : decode cX2_canCount 9 = .ok (.if_icmp .gt 28, 3) := by decide +kernel
theorem dX2_canCount_12 : decode cX2_canCount 12 = .ok (.iload_n 3, 1) := by decide +kernel
theorem dX2_canCount_13 : decode cX2_canCount 13 = .ok (.aload_n 0, 1) := by decide +kernel
theorem dX2_canCount_14 : decode cX2_canCount 14 = .ok (.aload_n 1, 1) := by decide +kernel
theorem dX2_canCount_15 : decode cX2_canCount 15 = .ok (.iload_n 2, 1) := by decide +kernel
theorem dX2_canCount_16 : decode cX2_canCount 16 = .ok (.iload 4, 2) := by decide +kernel
theorem dX2_canCount_18 : decode cX2_canCount 18 = .ok (.invokevirtual 176, 3) := by decide +kernel
theorem dX2_canCount_21 : decode cX2_canCount 21 = .ok (.ifCond .eq 7, 3) := by decide +kernel
theorem dX2_canCount_24 : decode cX2_canCount 24 = .ok (.iconst 1, 1) := by decide +kernel
theorem dX2_canCount_25 : decode cX2_canCount 25 = .ok (.goto 4, 3) := by decide +kernel
theorem dX2_canCount_28 : decode cX2_canCount 28 = .ok (.iconst 0, 1) := by decide +kernel
theorem dX2_canCount_29 : decode cX2_canCount 29 = .ok (.iadd, 1) := by decide +kernel
theorem dX2_canCount_30 : decode cX2_canCount 30 = .ok (.istore_n 3, 1) := by decide +kernel
theorem dX2_canCount_31 : decode cX2_canCount 31 = .ok (.iinc 4 1, 3) := by decide +kernel
theorem dX2_canCount_34 : decode cX2_canCount 34 = .ok (.goto (-29), 3) := by decide +kernel
theorem dX2_canCount_37 : decode cX2_canCount 37 = .ok (.iload_n 3, 1) := by decide +kernel
theorem dX2_canCount_38 : decode cX2_canCount 38 = .ok (.ireturn, 1) := by decide +kernel
theorem dX2_canLeast_0 : decode cX2_canLeast 0 = .ok (.iconst 0, 1) := by decide +kernel
theorem dX2_canLeast_1 : decode cX2_canLeast 1 = .ok (.istore_n 3, 1) := by decide +kernel
theorem dX2_canLeast_2 : decode cX2_canLeast 2 = .ok (.iload_n 3, 1) := by decide +kernel
theorem dX2_canLeast_3 : decode cX2_canLeast 3 = .ok (.bipush 9, 2) := by decide +kernel
theorem dX2_canLeast_5 : decode cX2_canLeast 5 = .ok (.if_icmp .gt 21, 3) := by decide +kernel
theorem dX2_canLeast_8 : decode cX2_canLeast 8 = .ok (.aload_n 0, 1) := by decide +kernel
theorem dX2_canLeast_9 : decode cX2_canLeast 9 = .ok (.aload_n 1, 1) := by decide +kernel
theorem dX2_canLeast_10 : decode cX2_canLeast 10 = .ok (.iload_n 2, 1) := by decide +kernel
theorem dX2_canLeast_11 : decode cX2_canLeast 11 = .ok (.iload_n 3, 1) := by decide +kernel
theorem dX2_canLeast_12 : decode cX2_canLeast 12 = .ok (.invokevirtual 176, 3) := by decide +kernel
theorem dX2_canLeast_15 : decode cX2_canLeast 15 = .ok (.ifCond .eq 5, 3) := by decide +kernel
theorem dX2_canLeast_18 : decode cX2_canLeast 18 = .ok (.iload_n 3, 1) := by decide +kernel
theorem dX2_canLeast_19 : decode cX2_canLeast 19 = .ok (.ireturn, 1) := by decide +kernel
theorem dX2_canLeast_20 : decode cX2_canLeast 20 = .ok (.iinc 3 1, 3) := by decide +kernel
theorem dX2_canLeast_23 : decode cX2_canLeast 23 = .ok (.goto (-21), 3) := by decide +kernel
theorem dX2_canLeast_26 : decode cX2_canLeast 26 = .ok (.bipush (-5), 2) := by decide +kernel
theorem dX2_canLeast_28 : decode cX2_canLeast 28 = .ok (.ireturn, 1) := by decide +kernel
theorem dX2_oddsAbove_0 : decode cX2_oddsAbove 0 = .ok (.iconst 0, 1) := by decide +kernel
theorem dX2_oddsAbove_1 : decode cX2_oddsAbove 1 = .ok (.istore 4, 2) := by decide +kernel
theorem dX2_oddsAbove_3 : decode cX2_oddsAbove 3 = .ok (.iconst 0, 1) := by decide +kernel
theorem dX2_oddsAbove_4 : decode cX2_oddsAbove 4 = .ok (.istore 5, 2) := by decide +kernel
theorem dX2_oddsAbove_6 : decode cX2_oddsAbove 6 = .ok (.iload 5, 2) := by decide +kernel
theorem dX2_oddsAbove_8 : decode cX2_oddsAbove 8 = .ok (.bipush 12, 2) := by decide +kernel
theorem dX2_oddsAbove_10 : decode cX2_oddsAbove 10 = .ok (.if_icmp .ge 37, 3) := by decide +kernel
theorem dX2_oddsAbove_13 : decode cX2_oddsAbove 13 = .ok (.iload 4, 2) := by decide +kernel
theorem dX2_oddsAbove_15 : decode cX2_oddsAbove 15 = .ok (.aload_n 0, 1) := by decide +kernel
theorem dX2_oddsAbove_16 : decode cX2_oddsAbove 16 = .ok (.getfield 12, 3) := by decide +kernel
theorem dX2_oddsAbove_19 : decode cX2_oddsAbove 19 = .ok (.aload_n 1, 1) := by decide +kernel
theorem dX2_oddsAbove_20 : decode cX2_oddsAbove 20 = .ok (.iload_n 2, 1) := by decide +kernel
theorem dX2_oddsAbove_21 : decode cX2_oddsAbove 21 = .ok (.iload_n 3, 1) := by decide +kernel
theorem dX2_oddsAbove_22 : decode cX2_oddsAbove 22 = .ok (.iconst 1, 1) := by decide +kernel
theorem dX2_oddsAbove_23 : decode cX2_oddsAbove 23 = .ok (.iload 5, 2) := by decide +kernel
theorem dX2_oddsAbove_25 : decode cX2_oddsAbove 25 = .ok (.ishl, 1) := by decide +kernel
theorem dX2_oddsAbove_26 : decode cX2_oddsAbove 26 = .ok (.ior, 1) := by decide +kernel
theorem dX2_oddsAbove_27 : decode cX2_oddsAbove 27 = .ok (.invokevirtual 52, 3) := by decide +kernel
theorem dX2_oddsAbove_30 : decode cX2_oddsAbove 30 = .ok (.ifCond .eq 7, 3) := by decide +kernel
theorem dX2_oddsAbove_33 : decode cX2_oddsAbove 33 = .ok (.iconst 1, 1) := by decide +kernel
theorem dX2_oddsAbove_34 : decode cX2_oddsAbove 34 = .ok (.goto 4, 3) := by decide +kernel
theorem dX2_oddsAbove_37 : decode cX2_oddsAbove 37 = .ok (.iconst 0, 1) := by decide +kernel
theorem dX2_oddsAbove_38 : decode cX2_oddsAbove 38 = .ok (.iadd, 1) := by decide +kernel
theorem dX2_oddsAbove_39 : decode cX2_oddsAbove 39 = .ok (.istore 4, 2) := by decide +kernel
theorem dX2_oddsAbove_41 : decode cX2_oddsAbove 41 = .ok (.iinc 5 1, 3) := by decide +kernel
theorem dX2_oddsAbove_44 : decode cX2_oddsAbove 44 = .ok (.goto (-38), 3) := by decide +kernel
theorem dX2_oddsAbove_47 : decode cX2_oddsAbove 47 = .ok (.iload 4, 2) := by decide +kernel
theorem dX2_oddsAbove_49 : decode cX2_oddsAbove 49 = .ok (.ireturn, 1) := by decide +kernel
theorem dX3_init_0 : decode cX3_init 0 = .ok (.aload_n 0, 1) := by decide +kernel
theorem dX3_init_1 : decode cX3_init 1 = .ok (.invokespecial 3, 3) := by decide +kernel
theorem dX3_init_4 : decode cX3_init 4 = .ok (.aload_n 0, 1) := by decide +kernel
theorem dX3_init_5 : decode cX3_init 5 = .ok (.iconst 4, 1) := by decide +kernel
theorem dX3_init_6 : decode cX3_init 6 = .ok (.newarray .int, 2) := by decide +kernel
theorem dX3_init_8 : decode cX3_init 8 = .ok (.putfield 9, 3) := by decide +kernel
theorem dX3_init_11 : decode cX3_init 11 = .ok (.return_, 1) := by decide +kernel
theorem dX3_become_0 : decode cX3_become 0 = .ok (.aload_n 0, 1) := by decide +kernel
theorem dX3_become_1 : decode cX3_become 1 = .ok (.iload_n 1, 1) := by decide +kernel
theorem dX3_become_2 : decode cX3_become 2 = .ok (.putfield 15, 3) := by decide +kernel
theorem dX3_become_5 : decode cX3_become 5 = .ok (.aload_n 0, 1) := by decide +kernel
theorem dX3_become_6 : decode cX3_become 6 = .ok (.iload_n 2, 1) := by decide +kernel
theorem dX3_become_7 : decode cX3_become 7 = .ok (.putfield 19, 3) := by decide +kernel
theorem dX3_become_10 : decode cX3_become 10 = .ok (.aload_n 0, 1) := by decide +kernel
theorem dX3_become_11 : decode cX3_become 11 = .ok (.iload_n 3, 1) := by decide +kernel
theorem dX3_become_12 : decode cX3_become 12 = .ok (.putfield 22, 3) := by decide +kernel
theorem dX3_become_15 : decode cX3_become 15 = .ok (.aload_n 0, 1) := by decide +kernel
theorem dX3_become_16 : decode cX3_become 16 = .ok (.iconst 0, 1) := by decide +kernel
theorem dX3_become_17 : decode cX3_become 17 = .ok (.putfield 25, 3) := by decide +kernel
theorem dX3_become_20 : decode cX3_become 20 = .ok (.aload_n 0, 1) := by decide +kernel
theorem dX3_become_21 : decode cX3_become 21 = .ok (.getfield 9, 3) := by decide +kernel
theorem dX3_become_24 : decode cX3_become 24 = .ok (.iconst 0, 1) := by decide +kernel
theorem dX3_become_25 : decode cX3_become 25 = .ok (.invokestatic 28, 3) := by decide +kernel
theorem dX3_become_28 : decode cX3_become 28 = .ok (.return_, 1) := by decide +kernel
theorem dX3_copy_0 : decode cX3_copy 0 = .ok (.aload_n 0, 1) := by decide +kernel
theorem dX3_copy_1 : decode cX3_copy 1 = .ok (.aload_n 1, 1) := by decide +kernel
theorem dX3_copy_2 : decode cX3_copy 2 = .ok (.getfield 15, 3) := by decide +kernel
theorem dX3_copy_5 : decode cX3_copy 5 = .ok (.putfield 15, 3) := by decide +kernel
theorem dX3_copy_8 : decode cX3_copy 8 = .ok (.aload_n 0, 1) := by decide +kernel
theorem dX3_copy_9 : decode cX3_copy 9 = .ok (.aload_n 1, 1) := by decide +kernel
theorem dX3_copy_10 : decode cX3_copy 10 = .ok (.getfield 19, 3) := by decide +kernel
theorem dX3_copy_13 : decode cX3_copy 13 = .ok (.putfield 19, 3) := by decide +kernel
theorem dX3_copy_16 : decode cX3_copy 16 = .ok (.aload_n 0, 1) := by decide +kernel
theorem dX3_copy_17 : decode cX3_copy 17 = .ok (.aload_n 1, 1) := by decide +kernel
theorem dX3_copy_18 : decode cX3_copy 18 = .ok (.getfield 22, 3) := by decide +kernel
theorem dX3_copy_21 : decode cX3_copy 21 = .ok (.putfield 22, 3) := by decide +kernel
theorem dX3_copy_24 : decode cX3_copy 24 = .ok (.aload_n 0, 1) := by decide +kernel
theorem dX3_copy_25 : decode cX3_copy 25 = .ok (.aload_n 1, 1) := by decide +kernel
theorem dX3_copy_26 : decode cX3_copy 26 = .ok (.getfield 25, 3) := by decide +kernel
theorem dX3_copy_29 : decode cX3_copy 29 = .ok (.putfield 25, 3) := by decide +kernel
theorem dX3_copy_32 : decode cX3_copy 32 = .ok (.aload_n 1, 1) := by decide +kernel
theorem dX3_copy_33 : decode cX3_copy 33 = .ok (.getfield 9, 3) := by decide +kernel
theorem dX3_copy_36 : decode cX3_copy 36 = .ok (.iconst 0, 1) := by decide +kernel
theorem dX3_copy_37 : decode cX3_copy 37 = .ok (.aload_n 0, 1) := by decide +kernel
theorem dX3_copy_38 : decode cX3_copy 38 = .ok (.getfield 9, 3) := by decide +kernel
theorem dX3_copy_41 : decode cX3_copy 41 = .ok (.iconst 0, 1) := by decide +kernel
theorem dX3_copy_42 : decode cX3_copy 42 = .ok (.iconst 4, 1) := by decide +kernel
theorem dX3_copy_43 : decode cX3_copy 43 = .ok (.invokestatic 34, 3) := by decide +kernel
theorem dX3_copy_46 : decode cX3_copy 46 = .ok (.return_, 1) := by decide +kernel
theorem dX3_changeRow_0 : decode cX3_changeRow 0 = .ok (.iload_n 1, 1) := by decide +kernel
theorem dX3_changeRow_1 : decode cX3_changeRow 1 = .ok (.ifCond .lt 12, 3) := by decide +kernel
theorem dX3_changeRow_4 : decode cX3_changeRow 4 = .ok (.iload_n 1, 1) := by decide +kernel
theorem dX3_changeRow_5 : decode cX3_changeRow 5 = .ok (.aload_n 0, 1) := by decide +kernel
theorem dX3_changeRow_6 : decode cX3_changeRow 6 = .ok (.getfield 9, 3) := by decide +kernel
theorem dX3_changeRow_9 : decode cX3_changeRow 9 = .ok (.arraylength, 1) := by decide +kernel
theorem dX3_changeRow_10 : decode cX3_changeRow 10 = .ok (.if_icmp .lt 5, 3) := by decide +kernel
theorem dX3_changeRow_13 : decode cX3_changeRow 13 = .ok (.iconst (-1), 1) := by decide +kernel
theorem dX3_changeRow_14 : decode cX3_changeRow 14 = .ok (.ireturn, 1) := by decide +kernel
theorem dX3_changeRow_15 : decode cX3_changeRow 15 = .ok (.aload_n 0, 1) := by decide +kernel
theorem dX3_changeRow_16 : decode cX3_changeRow 16 = .ok (.getfield 9, 3) := by decide +kernel
theorem dX3_changeRow_19 : decode cX3_changeRow 19 = .ok (.iload_n 1, 1) := by decide +kernel
theorem dX3_changeRow_20 : decode cX3_changeRow 20 = .ok (.iaload, 1) := by decide +kernel
theorem dX3_changeRow_21 : decode cX3_changeRow 21 = .ok (.istore_n 3, 1) := by decide +kernel
theorem dX3_changeRow_22 : decode cX3_changeRow 22 = .ok (.aload_n 0, 1) := by decide +kernel
theorem dX3_changeRow_23 : decode cX3_changeRow 23 = .ok (.getfield 9, 3) := by decide +kernel
theorem dX3_changeRow_26 : decode cX3_changeRow 26 = .ok (.iload_n 1, 1) := by decide +kernel
theorem dX3_changeRow_27 : decode cX3_changeRow 27 = .ok (.iload_n 2, 1) := by decide +kernel
theorem dX3_changeRow_28 : decode cX3_changeRow 28 = .ok (.iastore, 1) := by decide +kernel
theorem dX3_changeRow_29 : decode cX3_changeRow 29 = .ok (.iload_n 3, 1) := by decide +kernel
theorem dX3_changeRow_30 : decode cX3_changeRow 30 = .ok (.ireturn, 1) := by decide +kernel
theorem dX4_init_0 : decode cX4_init 0 = .ok (.aload_n 0, 1) := by decide +kernel
theorem dX4_init_1 : decode cX4_init 1 = .ok (.invokespecial 3, 3) := by decide +kernel
theorem dX4_init_4 : decode cX4_init 4 = .ok (.return_, 1) := by decide +kernel
theorem dX4_become_0 : decode cX4_become 0 = .ok (.aload_n 0, 1) := by decide +kernel
theorem dX4_become_1 : decode cX4_become 1 = .ok (.iload_n 1, 1) := by decide +kernel
theorem dX4_become_2 : decode cX4_become 2 = .ok (.putfield 9, 3) := by decide +kernel
theorem dX4_become_5 : decode cX4_become 5 = .ok (.aload_n 0, 1) := by decide +kernel
theorem dX4_become_6 : decode cX4_become 6 = .ok (.iload_n 2, 1) := by decide +kernel
theorem dX4_become_7 : decode cX4_become 7 = .ok (.putfield 15, 3) := by decide +kernel
theorem dX4_become_10 : decode cX4_become 10 = .ok (.aload_n 0, 1) := by decide +kernel
theorem dX4_become_11 : decode cX4_become 11 = .ok (.iconst 0, 1) := by decide +kernel
theorem dX4_become_12 : decode cX4_become 12 = .ok (.putfield 18, 3) := by decide +kernel
theorem dX4_become_15 : decode cX4_become 15 = .ok (.aload_n 0, 1) := by decide +kernel
theorem dX4_become_16 : decode cX4_become 16 = .ok (.bipush (-5), 2) := by decide +kernel
theorem dX4_become_18 : decode cX4_become 18 = .ok (.putfield 21, 3) := by decide +kernel
theorem dX4_become_21 : decode cX4_become 21 = .ok (.return_, 1) := by decide +kernel
theorem dX4_copy_0 : decode cX4_copy 0 = .ok (.aload_n 0, 1) := by decide +kernel
theorem dX4_copy_1 : decode cX4_copy 1 = .ok (.aload_n 1, 1) := by decide +kernel
theorem dX4_copy_2 : decode cX4_copy 2 = .ok (.getfield 9, 3) := by decide +kernel
theorem dX4_copy_5 : decode cX4_copy 5 = .ok (.putfield 9, 3) := by decide +kernel
theorem dX4_copy_8 : decode cX4_copy 8 = .ok (.aload_n 0, 1) := by decide +kernel
theorem dX4_copy_9 : decode cX4_copy 9 = .ok (.aload_n 1, 1) := by decide +kernel
theorem dX4_copy_10 : decode cX4_copy 10 = .ok (.getfield 15, 3) := by decide +kernel
theorem dX4_copy_13 : decode cX4_copy 13 = .ok (.putfield 15, 3) := by decide +kernel
theorem dX4_copy_16 : decode cX4_copy 16 = .ok (.aload_n 0, 1) := by decide +kernel
theorem dX4_copy_17 : decode cX4_copy 17 = .ok (.aload_n 1, 1) := by decide +kernel
theorem dX4_copy_18 : decode cX4_copy 18 = .ok (.getfield 18, 3) := by decide +kernel
theorem dX4_copy_21 : decode cX4_copy 21 = .ok (.putfield 18, 3) := by decide +kernel
theorem dX4_copy_24 : decode cX4_copy 24 = .ok (.aload_n 0, 1) := by decide +kernel
theorem dX4_copy_25 : decode cX4_copy 25 = .ok (.aload_n 1, 1) := by decide +kernel
theorem dX4_copy_26 : decode cX4_copy 26 = .ok (.getfield 21, 3) := by decide +kernel
theorem dX4_copy_29 : decode cX4_copy 29 = .ok (.putfield 21, 3) := by decide +kernel
theorem dX4_copy_32 : decode cX4_copy 32 = .ok (.return_, 1) := by decide +kernel
theorem dX5_init_0 : decode cX5_init 0 = .ok (.aload_n 0, 1) := by decide +kernel
theorem dX5_init_1 : decode cX5_init 1 = .ok (.invokespecial 3, 3) := by decide +kernel
theorem dX5_init_4 : decode cX5_init 4 = .ok (.aload_n 0, 1) := by decide +kernel
theorem dX5_init_5 : decode cX5_init 5 = .ok (.bipush 100, 2) := by decide +kernel
theorem dX5_init_7 : decode cX5_init 7 = .ok (.newarray .byte, 2) := by decide +kernel
theorem dX5_init_9 : decode cX5_init 9 = .ok (.putfield 11, 3) := by decide +kernel
theorem dX5_init_12 : decode cX5_init 12 = .ok (.return_, 1) := by decide +kernel
theorem dX5_add_0 : decode cX5_add 0 = .ok (.aload_n 0, 1) := by decide +kernel
theorem dX5_add_1 : decode cX5_add 1 = .ok (.getfield 15, 3) := by decide +kernel
theorem dX5_add_4 : decode cX5_add 4 = .ok (.bipush 100, 2) := by decide +kernel
theorem dX5_add_6 : decode cX5_add 6 = .ok (.if_icmp .lt 6, 3) := by decide +kernel
theorem dX5_add_9 : decode cX5_add 9 = .ok (.bipush (-4), 2) := by decide +kernel
theorem dX5_add_11 : decode cX5_add 11 = .ok (.ireturn, 1) := by decide +kernel
theorem dX5_add_12 : decode cX5_add 12 = .ok (.aload_n 0, 1) := by decide +kernel
theorem dX5_add_13 : decode cX5_add 13 = .ok (.getfield 11, 3) := by decide +kernel
theorem dX5_add_16 : decode cX5_add 16 = .ok (.aload_n 0, 1) := by decide +kernel
theorem dX5_add_17 : decode cX5_add 17 = .ok (.getfield 15, 3) := by decide +kernel
theorem dX5_add_20 : decode cX5_add 20 = .ok (.iload_n 1, 1) := by decide +kernel
theorem dX5_add_21 : decode cX5_add 21 = .ok (.i2b, 1) := by decide +kernel
theorem dX5_add_22 : decode cX5_add 22 = .ok (.bastore, 1) := by decide +kernel
theorem dX5_add_23 : decode cX5_add 23 = .ok (.aload_n 0, 1) := by decide +kernel
theorem dX5_add_24 : decode cX5_add 24 = .ok (.dup, 1) := by decide +kernel
theorem dX5_add_25 : decode cX5_add 25 = .ok (.getfield 15, 3) := by decide +kernel
theorem dX5_add_28 : decode cX5_add 28 = .ok (.iconst 1, 1) := by decide +kernel
theorem dX5_add_29 : decode cX5_add 29 = .ok (.iadd, 1) := by decide +kernel
theorem dX5_add_30 : decode cX5_add 30 = .ok (.putfield 15, 3) := by decide +kernel
theorem dX5_add_33 : decode cX5_add 33 = .ok (.aload_n 0, 1) := by decide +kernel
theorem dX5_add_34 : decode cX5_add 34 = .ok (.getfield 15, 3) := by decide +kernel
theorem dX5_add_37 : decode cX5_add 37 = .ok (.ireturn, 1) := by decide +kernel
theorem dX5_readInto_0 : decode cX5_readInto 0 = .ok (.aload_n 0, 1) := by decide +kernel
theorem dX5_readInto_1 : decode cX5_readInto 1 = .ok (.aload_n 1, 1) := by decide +kernel
theorem dX5_readInto_2 : decode cX5_readInto 2 = .ok (.putfield 19, 3) := by decide +kernel
theorem dX5_readInto_5 : decode cX5_readInto 5 = .ok (.aload_n 0, 1) := by decide +kernel
theorem dX5_readInto_6 : decode cX5_readInto 6 = .ok (.getfield 19, 3) := by decide +kernel
theorem dX5_readInto_9 : decode cX5_readInto 9 = .ok (.invokevirtual 23, 3) := by decide +kernel
theorem dX5_readInto_12 : decode cX5_readInto 12 = .ok (.aload_n 0, 1) := by decide +kernel
theorem dX5_readInto_13 : decode cX5_readInto 13 = .ok (.iconst 0, 1) := by decide +kernel
theorem dX5_readInto_14 : decode cX5_readInto 14 = .ok (.invokevirtual 28, 3) := by decide +kernel
theorem dX5_readInto_17 : decode cX5_readInto 17 = .ok (.aload_n 0, 1) := by decide +kernel
theorem dX5_readInto_18 : decode cX5_readInto 18 = .ok (.invokevirtual 32, 3) := by decide +kernel
theorem dX5_readInto_21 : decode cX5_readInto 21 = .ok (.istore_n 2, 1) := by decide +kernel
theorem dX5_readInto_22 : decode cX5_readInto 22 = .ok (.iconst 1, 1) := by decide +kernel
theorem dX5_readInto_23 : decode cX5_readInto 23 = .ok (.istore_n 3, 1) := by decide +kernel
theorem dX5_readInto_24 : decode cX5_readInto 24 = .ok (.iload_n 3, 1) := by decide +kernel
theorem dX5_readInto_25 : decode cX5_readInto 25 = .ok (.bipush 10, 2) := by decide +kernel
theorem dX5_readInto_27 : decode cX5_readInto 27 = .ok (.if_icmp .ge 43, 3) := by decide +kernel
theorem dX5_readInto_30 : decode cX5_readInto 30 = .ok (.iload_n 2, 1) := by decide +kernel
theorem dX5_readInto_31 : decode cX5_readInto 31 = .ok (.ifCond .eq 39, 3) := by decide +kernel
theorem dX5_readInto_34 : decode cX5_readInto 34 = .ok (.aload_n 0, 1) := by decide +kernel
theorem dX5_readInto_35 : decode cX5_readInto 35 = .ok (.getfield 36, 3) := by decide +kernel
theorem dX5_readInto_38 : decode cX5_readInto 38 = .ok (.iconst (-1), 1) := by decide +kernel
theorem dX5_readInto_39 : decode cX5_readInto 39 = .ok (.if_icmp .eq 31, 3) := by decide +kernel
theorem dX5_readInto_42 : decode cX5_readInto 42 = .ok (.aload_n 0, 1) := by decide +kernel
theorem dX5_readInto_43 : decode cX5_readInto 43 = .ok (.bipush 59, 2) := by decide +kernel
theorem dX5_readInto_45 : decode cX5_readInto 45 = .ok (.invokevirtual 39, 3) := by decide +kernel
theorem dX5_readInto_48 : decode cX5_readInto 48 = .ok (.ifCond .eq 14, 3) := by decide +kernel
theorem dX5_readInto_51 : decode cX5_readInto 51 = .ok (.aload_n 0, 1) := by decide +kernel
theorem dX5_readInto_52 : decode cX5_readInto 52 = .ok (.invokevirtual 32, 3) := by decide +kernel
theorem dX5_readInto_55 : decode cX5_readInto 55 = .ok (.ifCond .eq 7, 3) := by decide +kernel
theorem dX5_readInto_58 : decode cX5_readInto 58 = .ok (.iconst 1, 1) := by decide +kernel
theorem dX5_readInto_59 : decode cX5_readInto 59 = .ok (.goto 4, 3) := by decide +kernel
theorem dX5_readInto_62 : decode cX5_readInto 62 = .ok (.iconst 0, 1) := by decide +kernel
theorem dX5_readInto_63 : decode cX5_readInto 63 = .ok (.istore_n 2, 1) := by decide +kernel
theorem dX5_readInto_64 : decode cX5_readInto 64 = .ok (.iinc 3 1, 3) := by decide +kernel
theorem dX5_readInto_67 : decode cX5_readInto 67 = .ok (.goto (-43), 3) := by decide +kernel
theorem dX5_readInto_70 : decode cX5_readInto 70 = .ok (.iload_n 2, 1) := by decide +kernel
theorem dX5_readInto_71 : decode cX5_readInto 71 = .ok (.ifCond .eq 15, 3) := by decide +kernel
theorem dX5_readInto_74 : decode cX5_readInto 74 = .ok (.aload_n 0, 1) := by decide +kernel
theorem dX5_readInto_75 : decode cX5_readInto 75 = .ok (.getfield 36, 3) := by decide +kernel
theorem dX5_readInto_78 : decode cX5_readInto 78 = .ok (.iconst (-1), 1) := by decide +kernel
theorem dX5_readInto_79 : decode cX5_readInto 79 = .ok (.if_icmp .ne 7, 3) := by decide +kernel
theorem dX5_readInto_82 : decode cX5_readInto 82 = .ok (.iconst 1, 1) := by decide +kernel
theorem dX5_readInto_83 : decode cX5_readInto 83 = .ok (.goto 4, 3) := by decide +kernel
theorem dX5_readInto_86 : decode cX5_readInto 86 = .ok (.iconst 0, 1) := by decide +kernel
theorem dX5_readInto_87 : decode cX5_readInto 87 = .ok (.istore_n 2, 1) := by decide +kernel
theorem dX5_readInto_88 : decode cX5_readInto 88 = .ok (.aload_n 0, 1) := by decide +kernel
theorem dX5_readInto_89 : decode cX5_readInto 89 = .ok (.iconst 0, 1) := by decide +kernel
theorem dX5_readInto_90 : decode cX5_readInto 90 = .ok (.putfield 15, 3) := by decide +kernel
theorem dX5_readInto_93 : decode cX5_readInto 93 = .ok (.iload_n 2, 1) := by decide +kernel
theorem dX5_readInto_94 : decode cX5_readInto 94 = .ok (.ifCond .eq 7, 3) := by decide +kernel
theorem dX5_readInto_97 : decode cX5_readInto 97 = .ok (.iconst (-1), 1) := by decide +kernel
theorem dX5_readInto_98 : decode cX5_readInto 98 = .ok (.goto 7, 3) := by decide +kernel
theorem dX5_readInto_101 : decode cX5_readInto 101 = .ok (.aload_n 0, 1) := by decide +kernel
theorem dX5_readInto_102 : decode cX5_readInto 102 = .ok (.getfield 43, 3) := by decide +kernel
theorem dX5_readInto_105 : decode cX5_readInto 105 = .ok (.ireturn, 1) := by decide +kernel
theorem dX5_goTo_0 : decode cX5_goTo 0 = .ok (.aload_n 0, 1) := by decide +kernel
theorem dX5_goTo_1 : decode cX5_goTo 1 = .ok (.iload_n 1, 1) := by decide +kernel
theorem dX5_goTo_2 : decode cX5_goTo 2 = .ok (.putfield 43, 3) := by decide +kernel
theorem dX5_goTo_5 : decode cX5_goTo 5 = .ok (.aload_n 0, 1) := by decide +kernel
theorem dX5_goTo_6 : decode cX5_goTo 6 = .ok (.iload_n 1, 1) := by decide +kernel
theorem dX5_goTo_7 : decode cX5_goTo 7 = .ok (.ifCond .lt 17, 3) := by decide +kernel
theorem dX5_goTo_10 : decode cX5_goTo 10 = .ok (.iload_n 1, 1) := by decide +kernel
theorem dX5_goTo_11 : decode cX5_goTo 11 = .ok (.aload_n 0, 1) := by decide +kernel
theorem dX5_goTo_12 : decode cX5_goTo 12 = .ok (.getfield 15, 3) := by decide +kernel
theorem dX5_goTo_15 : decode cX5_goTo 15 = .ok (.if_icmp .ge 9, 3) := by decide +kernel
theorem dX5_goTo_18 : decode cX5_goTo 18 = .ok (.iload_n 1, 1) := by decide +kernel
theorem dX5_goTo_19 : decode cX5_goTo 19 = .ok (.bipush 100, 2) := by decide +kernel
theorem dX5_goTo_21 : decode cX5_goTo 21 = .ok (.if_icmp .lt 7, 3) := by decide +kernel
theorem dX5_goTo_24 : decode cX5_goTo 24 = .ok (.iconst (-1), 1) := by decide +kernel
theorem dX5_goTo_25 : decode cX5_goTo 25 = .ok (.goto 9, 3) := by decide +kernel
theorem dX5_goTo_28 : decode cX5_goTo 28 = .ok (.aload_n 0, 1) := by decide +kernel
theorem dX5_goTo_29 : decode cX5_goTo 29 = .ok (.getfield 11, 3) := by decide +kernel
theorem dX5_goTo_32 : decode cX5_goTo 32 = .ok (.iload_n 1, 1) := by decide +kernel
theorem dX5_goTo_33 : decode cX5_goTo 33 = .ok (.baload, 1) := by decide +kernel
theorem dX5_goTo_34 : decode cX5_goTo 34 = .ok (.putfield 36, 3) := by decide +kernel
theorem dX5_goTo_37 : decode cX5_goTo 37 = .ok (.return_, 1) := by decide +kernel
theorem dX5_skip_0 : decode cX5_skip 0 = .ok (.aload_n 0, 1) := by decide +kernel
theorem dX5_skip_1 : decode cX5_skip 1 = .ok (.getfield 36, 3) := by decide +kernel
theorem dX5_skip_4 : decode cX5_skip 4 = .ok (.iload_n 1, 1) := by decide +kernel
theorem dX5_skip_5 : decode cX5_skip 5 = .ok (.if_icmp .eq 5, 3) := by decide +kernel
theorem dX5_skip_8 : decode cX5_skip 8 = .ok (.iconst 0, 1) := by decide +kernel
theorem dX5_skip_9 : decode cX5_skip 9 = .ok (.ireturn, 1) := by decide +kernel
theorem dX5_skip_10 : decode cX5_skip 10 = .ok (.aload_n 0, 1) := by decide +kernel
theorem dX5_skip_11 : decode cX5_skip 11 = .ok (.aload_n 0, 1) := by decide +kernel
theorem dX5_skip_12 : decode cX5_skip 12 = .ok (.getfield 43, 3) := by decide +kernel
theorem dX5_skip_15 : decode cX5_skip 15 = .ok (.iconst 1, 1) := by decide +kernel
theorem dX5_skip_16 : decode cX5_skip 16 = .ok (.iadd, 1) := by decide +kernel
theorem dX5_skip_17 : decode cX5_skip 17 = .ok (.invokevirtual 28, 3) := by decide +kernel
theorem dX5_skip_20 : decode cX5_skip 20 = .ok (.iconst 1, 1) := by decide +kernel
theorem dX5_skip_21 : decode cX5_skip 21 = .ok (.ireturn, 1) := by decide +kernel
theorem dX5_placeIn_0 : decode cX5_placeIn 0 = .ok (.iconst 0, 1) := by decide +kernel
theorem dX5_placeIn_1 : decode cX5_placeIn 1 = .ok (.istore_n 2, 1) := by decide +kernel
theorem dX5_placeIn_2 : decode cX5_placeIn 2 = .ok (.iload_n 2, 1) := by decide +kernel
theorem dX5_placeIn_3 : decode cX5_placeIn 3 = .ok (.aload_n 1, 1) := by decide +kernel
theorem dX5_placeIn_4 : decode cX5_placeIn 4 = .ok (.invokevirtual 46, 3) := by decide +kernel
theorem dX5_placeIn_7 : decode cX5_placeIn 7 = .ok (.if_icmp .ge 23, 3) := by decide +kernel
theorem dX5_placeIn_10 : decode cX5_placeIn 10 = .ok (.aload_n 1, 1) := by decide +kernel
theorem dX5_placeIn_11 : decode cX5_placeIn 11 = .ok (.iload_n 2, 1) := by decide +kernel
theorem dX5_placeIn_12 : decode cX5_placeIn 12 = .ok (.invokevirtual 51, 3) := by decide +kernel
theorem dX5_placeIn_15 : decode cX5_placeIn 15 = .ok (.aload_n 0, 1) := by decide +kernel
theorem dX5_placeIn_16 : decode cX5_placeIn 16 = .ok (.getfield 36, 3) := by decide +kernel
theorem dX5_placeIn_19 : decode cX5_placeIn 19 = .ok (.if_icmp .ne 5, 3) := by decide +kernel
theorem dX5_placeIn_22 : decode cX5_placeIn 22 = .ok (.iload_n 2, 1) := by decide +kernel
theorem dX5_placeIn_23 : decode cX5_placeIn 23 = .ok (.ireturn, 1) := by decide +kernel
theorem dX5_placeIn_24 : decode cX5_placeIn 24 = .ok (.iinc 2 1, 3) := by decide +kernel
theorem dX5_placeIn_27 : decode cX5_placeIn 27 = .ok (.goto (-25), 3) := by decide +kernel
theorem dX5_placeIn_30 : decode cX5_placeIn 30 = .ok (.iconst (-1), 1) := by decide +kernel
theorem dX5_placeIn_31 : decode cX5_placeIn 31 = .ok (.ireturn, 1) := by decide +kernel
theorem dX5_readClause_0 : decode cX5_readClause 0 = .ok (.aload_n 0, 1) := by decide +kernel
theorem dX5_readClause_1 : decode cX5_readClause 1 = .ok (.getfield 36, 3) := by decide +kernel
theorem dX5_readClause_4 : decode cX5_readClause 4 = .ok (.istore_n 1, 1) := by decide +kernel
theorem dX5_readClause_5 : decode cX5_readClause 5 = .ok (.aload_n 0, 1) := by decide +kernel
theorem dX5_readClause_6 : decode cX5_readClause 6 = .ok (.iload_n 1, 1) := by decide +kernel
theorem dX5_readClause_7 : decode cX5_readClause 7 = .ok (.bipush 107, 2) := by decide +kernel
theorem dX5_readClause_9 : decode cX5_readClause 9 = .ok (.if_icmp .ne 8, 3) := by decide +kernel
theorem dX5_readClause_12 : decode cX5_readClause 12 = .ok (.ldc 55, 2) := by decide +kernel
theorem dX5_readClause_14 : decode cX5_readClause 14 = .ok (.goto 16, 3) := by decide +kernel
theorem dX5_readClause_17 : decode cX5_readClause 17 = .ok (.iload_n 1, 1) := by decide +kernel
theorem dX5_readClause_18 : decode cX5_readClause 18 = .ok (.bipush 100, 2) := by decide +kernel
theorem dX5_readClause_20 : decode cX5_readClause 20 = .ok (.if_icmp .ne 8, 3) := by decide +kernel
theorem dX5_readClause_23 : decode cX5_readClause 23 = .ok (.ldc 57, 2) := by decide +kernel
theorem dX5_readClause_25 : decode cX5_readClause 25 = .ok (.goto 5, 3) := by decide +kernel
theorem dX5_readClause_28 : decode cX5_readClause 28 = .ok (.ldc 59, 2) := by decide +kernel
theorem dX5_readClause_30 : decode cX5_readClause 30 = .ok (.invokevirtual 61, 3) := by decide +kernel
theorem dX5_readClause_33 : decode cX5_readClause 33 = .ok (.ifCond .ne 5, 3) := by decide +kernel
theorem dX5_readClause_36 : decode cX5_readClause 36 = .ok (.iconst 0, 1) := by decide +kernel
theorem dX5_readClause_37 : decode cX5_readClause 37 = .ok (.ireturn, 1) := by decide +kernel
theorem dX5_readClause_38 : decode cX5_readClause 38 = .ok (.iload_n 1, 1) := by decide +kernel
theorem dX5_readClause_39 : decode cX5_readClause 39 = .ok (.bipush 100, 2) := by decide +kernel
theorem dX5_readClause_41 : decode cX5_readClause 41 = .ok (.if_icmp .ne 11, 3) := by decide +kernel
theorem dX5_readClause_44 : decode cX5_readClause 44 = .ok (.aload_n 0, 1) := by decide +kernel
theorem dX5_readClause_45 : decode cX5_readClause 45 = .ok (.getfield 65, 3) := by decide +kernel
theorem dX5_readClause_48 : decode cX5_readClause 48 = .ok (.ineg, 1) := by decide +kernel
theorem dX5_readClause_49 : decode cX5_readClause 49 = .ok (.goto 7, 3) := by decide +kernel
theorem dX5_readClause_52 : decode cX5_readClause 52 = .ok (.aload_n 0, 1) := by decide +kernel
theorem dX5_readClause_53 : decode cX5_readClause 53 = .ok (.getfield 65, 3) := by decide +kernel
theorem dX5_readClause_56 : decode cX5_readClause 56 = .ok (.istore_n 2, 1) := by decide +kernel
theorem dX5_readClause_57 : decode cX5_readClause 57 = .ok (.iload_n 1, 1) := by decide +kernel
theorem dX5_readClause_58 : decode cX5_readClause 58 = .ok (.bipush 114, 2) := by decide +kernel
theorem dX5_readClause_60 : decode cX5_readClause 60 = .ok (.if_icmp .ne 13, 3) := by decide +kernel
theorem dX5_readClause_63 : decode cX5_readClause 63 = .ok (.aload_n 0, 1) := by decide +kernel
theorem dX5_readClause_64 : decode cX5_readClause 64 = .ok (.getfield 19, 3) := by decide +kernel
theorem dX5_readClause_67 : decode cX5_readClause 67 = .ok (.iload_n 2, 1) := by decide +kernel
theorem dX5_readClause_68 : decode cX5_readClause 68 = .ok (.putfield 68, 3) := by decide +kernel
theorem dX5_readClause_71 : decode cX5_readClause 71 = .ok (.iconst 1, 1) := by decide +kernel
theorem dX5_readClause_72 : decode cX5_readClause 72 = .ok (.ireturn, 1) := by decide +kernel
theorem dX5_readClause_73 : decode cX5_readClause 73 = .ok (.aload_n 0, 1) := by decide +kernel
theorem dX5_readClause_74 : decode cX5_readClause 74 = .ok (.bipush 32, 2) := by decide +kernel
theorem dX5_readClause_76 : decode cX5_readClause 76 = .ok (.invokevirtual 39, 3) := by decide +kernel
theorem dX5_readClause_79 : decode cX5_readClause 79 = .ok (.ifCond .eq 11, 3) := by decide +kernel
theorem dX5_readClause_82 : decode cX5_readClause 82 = .ok (.aload_n 0, 1) := by decide +kernel
theorem dX5_readClause_83 : decode cX5_readClause 83 = .ok (.iconst 0, 1) := by decide +kernel
theorem dX5_readClause_84 : decode cX5_readClause 84 = .ok (.invokevirtual 71, 3) := by decide +kernel
theorem dX5_readClause_87 : decode cX5_readClause 87 = .ok (.ifCond .ne 5, 3) := by decide +kernel
theorem dX5_readClause_90 : decode cX5_readClause 90 = .ok (.iconst 0, 1) := by decide +kernel
theorem dX5_readClause_91 : decode cX5_readClause 91 = .ok (.ireturn, 1) := by decide +kernel
theorem dX5_readClause_92 : decode cX5_readClause 92 = .ok (.aload_n 0, 1) := by decide +kernel
theorem dX5_readClause_93 : decode cX5_readClause 93 = .ok (.getfield 19, 3) := by decide +kernel
theorem dX5_readClause_96 : decode cX5_readClause 96 = .ok (.iload_n 2, 1) := by decide +kernel
theorem dX5_readClause_97 : decode cX5_readClause 97 = .ok (.invokevirtual 74, 3) := by decide +kernel
theorem dX5_readClause_100 : decode cX5_readClause 100 = .ok (.iconst 1, 1) := by decide +kernel
theorem dX5_readClause_101 : decode cX5_readClause 101 = .ok (.ireturn, 1) := by decide +kernel
theorem dX5_readNumbered_0 : decode cX5_readNumbered 0 = .ok (.iconst 0, 1) := by decide +kernel
theorem dX5_readNumbered_1 : decode cX5_readNumbered 1 = .ok (.istore_n 2, 1) := by decide +kernel
theorem dX5_readNumbered_2 : decode cX5_readNumbered 2 = .ok (.iload_n 2, 1) := by decide +kernel
theorem dX5_readNumbered_3 : decode cX5_readNumbered 3 = .ok (.aload_n 1, 1) := by decide +kernel
theorem dX5_readNumbered_4 : decode cX5_readNumbered 4 = .ok (.invokevirtual 46, 3) := by decide +kernel
theorem dX5_readNumbered_7 : decode cX5_readNumbered 7 = .ok (.if_icmp .ge 23, 3) := by decide +kernel
theorem dX5_readNumbered_10 : decode cX5_readNumbered 10 = .ok (.aload_n 0, 1) := by decide +kernel
theorem dX5_readNumbered_11 : decode cX5_readNumbered 11 = .ok (.aload_n 1, 1) := by decide +kernel
theorem dX5_readNumbered_12 : decode cX5_readNumbered 12 = .ok (.iload_n 2, 1) := by decide +kernel
theorem dX5_readNumbered_13 : decode cX5_readNumbered 13 = .ok (.invokevirtual 51, 3) := by decide +kernel
theorem dX5_readNumbered_16 : decode cX5_readNumbered 16 = .ok (.invokevirtual 39, 3) := by decide +kernel
theorem dX5_readNumbered_19 : decode cX5_readNumbered 19 = .ok (.ifCond .ne 5, 3) := by decide +kernel
theorem dX5_readNumbered_22 : decode cX5_readNumbered 22 = .ok (.iconst 0, 1) := by decide +kernel
theorem dX5_readNumbered_23 : decode cX5_readNumbered 23 = .ok (.ireturn, 1) := by decide +kernel
theorem dX5_readNumbered_24 : decode cX5_readNumbered 24 = .ok (.iinc 2 1, 3) := by decide +kernel
theorem dX5_readNumbered_27 : decode cX5_readNumbered 27 = .ok (.goto (-25), 3) := by decide +kernel
theorem dX5_readNumbered_30 : decode cX5_readNumbered 30 = .ok (.aload_n 0, 1) := by decide +kernel
theorem dX5_readNumbered_31 : decode cX5_readNumbered 31 = .ok (.invokevirtual 77, 3) := by decide +kernel
theorem dX5_readNumbered_34 : decode cX5_readNumbered 34 = .ok (.ireturn, 1) := by decide +kernel
theorem dX5_readNumber_0 : decode cX5_readNumber 0 = .ok (.aload_n 0, 1) := by decide +kernel
theorem dX5_readNumber_1 : decode cX5_readNumber 1 = .ok (.ldc 80, 2) := by decide +kernel
theorem dX5_readNumber_3 : decode cX5_readNumber 3 = .ok (.invokevirtual 82, 3) := by decide +kernel
theorem dX5_readNumber_6 : decode cX5_readNumber 6 = .ok (.istore_n 1, 1) := by decide +kernel
theorem dX5_readNumber_7 : decode cX5_readNumber 7 = .ok (.iload_n 1, 1) := by decide +kernel
theorem dX5_readNumber_8 : decode cX5_readNumber 8 = .ok (.ifCond .ge 5, 3) := by decide +kernel
theorem dX5_readNumber_11 : decode cX5_readNumber 11 = .ok (.iconst 0, 1) := by decide +kernel
theorem dX5_readNumber_12 : decode cX5_readNumber 12 = .ok (.ireturn, 1) := by decide +kernel
theorem dX5_readNumber_13 : decode cX5_readNumber 13 = .ok (.aload_n 0, 1) := by decide +kernel
theorem dX5_readNumber_14 : decode cX5_readNumber 14 = .ok (.aload_n 0, 1) := by decide +kernel
theorem dX5_readNumber_15 : decode cX5_readNumber 15 = .ok (.getfield 43, 3) := by decide +kernel
theorem dX5_readNumber_18 : decode cX5_readNumber 18 = .ok (.iconst 1, 1) := by decide +kernel
theorem dX5_readNumber_19 : decode cX5_readNumber 19 = .ok (.iadd, 1) := by decide +kernel
theorem dX5_readNumber_20 : decode cX5_readNumber 20 = .ok (.invokevirtual 28, 3) := by decide +kernel
theorem dX5_readNumber_23 : decode cX5_readNumber 23 = .ok (.aload_n 0, 1) := by decide +kernel
theorem dX5_readNumber_24 : decode cX5_readNumber 24 = .ok (.iload_n 1, 1) := by decide +kernel
theorem dX5_readNumber_25 : decode cX5_readNumber 25 = .ok (.putfield 65, 3) := by decide +kernel
theorem dX5_readNumber_28 : decode cX5_readNumber 28 = .ok (.aload_n 0, 1) := by decide +kernel
theorem dX5_readNumber_29 : decode cX5_readNumber 29 = .ok (.ldc 80, 2) := by decide +kernel
theorem dX5_readNumber_31 : decode cX5_readNumber 31 = .ok (.invokevirtual 82, 3) := by decide +kernel
theorem dX5_readNumber_34 : decode cX5_readNumber 34 = .ok (.istore_n 2, 1) := by decide +kernel
theorem dX5_readNumber_35 : decode cX5_readNumber 35 = .ok (.iload_n 2, 1) := by decide +kernel
theorem dX5_readNumber_36 : decode cX5_readNumber 36 = .ok (.ifCond .lt 23, 3) := by decide +kernel
theorem dX5_readNumber_39 : decode cX5_readNumber 39 = .ok (.aload_n 0, 1) := by decide +kernel
theorem dX5_readNumber_40 : decode cX5_readNumber 40 = .ok (.aload_n 0, 1) := by decide +kernel
theorem dX5_readNumber_41 : decode cX5_readNumber 41 = .ok (.getfield 43, 3) := by decide +kernel
theorem dX5_readNumber_44 : decode cX5_readNumber 44 = .ok (.iconst 1, 1) := by decide +kernel
theorem dX5_readNumber_45 : decode cX5_readNumber 45 = .ok (.iadd, 1) := by decide +kernel
theorem dX5_readNumber_46 : decode cX5_readNumber 46 = .ok (.invokevirtual 28, 3) := by decide +kernel
theorem dX5_readNumber_49 : decode cX5_readNumber 49 = .ok (.aload_n 0, 1) := by decide +kernel
theorem dX5_readNumber_50 : decode cX5_readNumber 50 = .ok (.iload_n 1, 1) := by decide +kernel
theorem dX5_readNumber_51 : decode cX5_readNumber 51 = .ok (.bipush 10, 2) := by decide +kernel
theorem dX5_readNumber_53 : decode cX5_readNumber 53 = .ok (.imul, 1) := by decide +kernel
theorem dX5_readNumber_54 : decode cX5_readNumber 54 = .ok (.iload_n 2, 1) := by decide +kernel
theorem dX5_readNumber_55 : decode cX5_readNumber 55 = .ok (.iadd, 1) := by decide +kernel
theorem dX5_readNumber_56 : decode cX5_readNumber 56 = .ok (.putfield 65, 3) := by decide +kernel
theorem dX5_readNumber_59 : decode cX5_readNumber 59 = .ok (.iconst 1, 1) := by decide +kernel
theorem dX5_readNumber_60 : decode cX5_readNumber 60 = .ok (.ireturn, 1) := by decide +kernel
theorem dX5_readEither_0 : decode cX5_readEither 0 = .ok (.iconst 0, 1) := by decide +kernel
theorem dX5_readEither_1 : decode cX5_readEither 1 = .ok (.istore_n 2, 1) := by decide +kernel
theorem dX5_readEither_2 : decode cX5_readEither 2 = .ok (.iconst 0, 1) := by decide +kernel
theorem dX5_readEither_3 : decode cX5_readEither 3 = .ok (.istore_n 3, 1) := by decide +kernel
theorem dX5_readEither_4 : decode cX5_readEither 4 = .ok (.iconst 0, 1) := by decide +kernel
theorem dX5_readEither_5 : decode cX5_readEither 5 = .ok (.istore 4, 2) := by decide +kernel
theorem dX5_readEither_7 : decode cX5_readEither 7 = .ok (.iload 4, 2) := by decide +kernel
theorem dX5_readEither_9 : decode cX5_readEither 9 = .ok (.bipush 100, 2) := by decide +kernel
theorem dX5_readEither_11 : decode cX5_readEither 11 = .ok (.if_icmp .ge 67, 3) := by decide +kernel
theorem dX5_readEither_14 : decode cX5_readEither 14 = .ok (.aload_n 0, 1) := by decide +kernel
theorem dX5_readEither_15 : decode cX5_readEither 15 = .ok (.iload_n 1, 1) := by decide +kernel
theorem dX5_readEither_16 : decode cX5_readEither 16 = .ok (.invokevirtual 86, 3) := by decide +kernel
theorem dX5_readEither_19 : decode cX5_readEither 19 = .ok (.ifCond .ne 5, 3) := by decide +kernel
theorem dX5_readEither_22 : decode cX5_readEither 22 = .ok (.iconst 0, 1) := by decide +kernel
theorem dX5_readEither_23 : decode cX5_readEither 23 = .ok (.ireturn, 1) := by decide +kernel
theorem dX5_readEither_24 : decode cX5_readEither 24 = .ok (.iload_n 2, 1) := by decide +kernel
theorem dX5_readEither_25 : decode cX5_readEither 25 = .ok (.ifCond .eq 11, 3) := by decide +kernel
theorem dX5_readEither_28 : decode cX5_readEither 28 = .ok (.aload_n 0, 1) := by decide +kernel
theorem dX5_readEither_29 : decode cX5_readEither 29 = .ok (.getfield 19, 3) := by decide +kernel
theorem dX5_readEither_32 : decode cX5_readEither 32 = .ok (.iconst 1, 1) := by decide +kernel
theorem dX5_readEither_33 : decode cX5_readEither 33 = .ok (.invokevirtual 89, 3) := by decide +kernel
theorem dX5_readEither_36 : decode cX5_readEither 36 = .ok (.aload_n 0, 1) := by decide +kernel
theorem dX5_readEither_37 : decode cX5_readEither 37 = .ok (.bipush 38, 2) := by decide +kernel
theorem dX5_readEither_39 : decode cX5_readEither 39 = .ok (.invokevirtual 39, 3) := by decide +kernel
theorem dX5_readEither_42 : decode cX5_readEither 42 = .ok (.istore_n 2, 1) := by decide +kernel
theorem dX5_readEither_43 : decode cX5_readEither 43 = .ok (.iload_n 2, 1) := by decide +kernel
theorem dX5_readEither_44 : decode cX5_readEither 44 = .ok (.ifCond .ne 28, 3) := by decide +kernel
theorem dX5_readEither_47 : decode cX5_readEither 47 = .ok (.iload_n 3, 1) := by decide +kernel
theorem dX5_readEither_48 : decode cX5_readEither 48 = .ok (.ifCond .eq 11, 3) := by decide +kernel
theorem dX5_readEither_51 : decode cX5_readEither 51 = .ok (.aload_n 0, 1) := by decide +kernel
theorem dX5_readEither_52 : decode cX5_readEither 52 = .ok (.getfield 19, 3) := by decide +kernel
theorem dX5_readEither_55 : decode cX5_readEither 55 = .ok (.iconst 2, 1) := by decide +kernel
theorem dX5_readEither_56 : decode cX5_readEither 56 = .ok (.invokevirtual 89, 3) := by decide +kernel
theorem dX5_readEither_59 : decode cX5_readEither 59 = .ok (.aload_n 0, 1) := by decide +kernel
theorem dX5_readEither_60 : decode cX5_readEither 60 = .ok (.bipush 124, 2) := by decide +kernel
theorem dX5_readEither_62 : decode cX5_readEither 62 = .ok (.invokevirtual 39, 3) := by decide +kernel
theorem dX5_readEither_65 : decode cX5_readEither 65 = .ok (.istore_n 3, 1) := by decide +kernel
theorem dX5_readEither_66 : decode cX5_readEither 66 = .ok (.iload_n 3, 1) := by decide +kernel
theorem dX5_readEither_67 : decode cX5_readEither 67 = .ok (.ifCond .ne 5, 3) := by decide +kernel
theorem dX5_readEither_70 : decode cX5_readEither 70 = .ok (.iconst 1, 1) := by decide +kernel
theorem dX5_readEither_71 : decode cX5_readEither 71 = .ok (.ireturn, 1) := by decide +kernel
theorem dX5_readEither_72 : decode cX5_readEither 72 = .ok (.iinc 4 1, 3) := by decide +kernel
theorem dX5_readEither_75 : decode cX5_readEither 75 = .ok (.goto (-68), 3) := by decide +kernel
theorem dX5_readEither_78 : decode cX5_readEither 78 = .ok (.iconst 0, 1) := by decide +kernel
theorem dX5_readEither_79 : decode cX5_readEither 79 = .ok (.ireturn, 1) := by decide +kernel
theorem dX5_readPart_0 : decode cX5_readPart 0 = .ok (.aload_n 0, 1) := by decide +kernel
theorem dX5_readPart_1 : decode cX5_readPart 1 = .ok (.getfield 36, 3) := by decide +kernel
theorem dX5_readPart_4 : decode cX5_readPart 4 = .ok (.bipush 33, 2) := by decide +kernel
theorem dX5_readPart_6 : decode cX5_readPart 6 = .ok (.if_icmp .eq 17, 3) := by decide +kernel
theorem dX5_readPart_9 : decode cX5_readPart 9 = .ok (.aload_n 0, 1) := by decide +kernel
theorem dX5_readPart_10 : decode cX5_readPart 10 = .ok (.getfield 36, 3) := by decide +kernel
theorem dX5_readPart_13 : decode cX5_readPart 13 = .ok (.bipush 40, 2) := by decide +kernel
theorem dX5_readPart_15 : decode cX5_readPart 15 = .ok (.if_icmp .eq 8, 3) := by decide +kernel
theorem dX5_readPart_18 : decode cX5_readPart 18 = .ok (.aload_n 0, 1) := by decide +kernel
theorem dX5_readPart_19 : decode cX5_readPart 19 = .ok (.invokevirtual 92, 3) := by decide +kernel
theorem dX5_readPart_22 : decode cX5_readPart 22 = .ok (.ireturn, 1) := by decide +kernel
theorem dX5_readPart_23 : decode cX5_readPart 23 = .ok (.iload_n 1, 1) := by decide +kernel
theorem dX5_readPart_24 : decode cX5_readPart 24 = .ok (.iconst 4, 1) := by decide +kernel
theorem dX5_readPart_25 : decode cX5_readPart 25 = .ok (.if_icmp .lt 5, 3) := by decide +kernel
theorem dX5_readPart_28 : decode cX5_readPart 28 = .ok (.iconst 0, 1) := by decide +kernel
theorem dX5_readPart_29 : decode cX5_readPart 29 = .ok (.ireturn, 1) := by decide +kernel
theorem dX5_readPart_30 : decode cX5_readPart 30 = .ok (.aload_n 0, 1) := by decide +kernel
theorem dX5_readPart_31 : decode cX5_readPart 31 = .ok (.bipush 40, 2) := by decide +kernel
theorem dX5_readPart_33 : decode cX5_readPart 33 = .ok (.invokevirtual 39, 3) := by decide +kernel
theorem dX5_readPart_36 : decode cX5_readPart 36 = .ok (.ifCond .eq 28, 3) := by decide +kernel
theorem dX5_readPart_39 : decode cX5_readPart 39 = .ok (.aload_n 0, 1) := by decide +kernel
theorem dX5_readPart_40 : decode cX5_readPart 40 = .ok (.iload_n 1, 1) := by decide +kernel
theorem dX5_readPart_41 : decode cX5_readPart 41 = .ok (.iconst 1, 1) := by decide +kernel
theorem dX5_readPart_42 : decode cX5_readPart 42 = .ok (.iadd, 1) := by decide +kernel
theorem dX5_readPart_43 : decode cX5_readPart 43 = .ok (.invokevirtual 71, 3) := by decide +kernel
theorem dX5_readPart_46 : decode cX5_readPart 46 = .ok (.ifCond .eq 16, 3) := by decide +kernel
theorem dX5_readPart_49 : decode cX5_readPart 49 = .ok (.aload_n 0, 1) := by decide +kernel
theorem dX5_readPart_50 : decode cX5_readPart 50 = .ok (.bipush 41, 2) := by decide +kernel
theorem dX5_readPart_52 : decode cX5_readPart 52 = .ok (.invokevirtual 39, 3) := by decide +kernel
theorem dX5_readPart_55 : decode cX5_readPart 55 = .ok (.ifCond .eq 7, 3) := by decide +kernel
theorem dX5_readPart_58 : decode cX5_readPart 58 = .ok (.iconst 1, 1) := by decide +kernel
theorem dX5_readPart_59 : decode cX5_readPart 59 = .ok (.goto 4, 3) := by decide +kernel
theorem dX5_readPart_62 : decode cX5_readPart 62 = .ok (.iconst 0, 1) := by decide +kernel
theorem dX5_readPart_63 : decode cX5_readPart 63 = .ok (.ireturn, 1) := by decide +kernel
theorem dX5_readPart_64 : decode cX5_readPart 64 = .ok (.aload_n 0, 1) := by decide +kernel
theorem dX5_readPart_65 : decode cX5_readPart 65 = .ok (.aload_n 0, 1) := by decide +kernel
theorem dX5_readPart_66 : decode cX5_readPart 66 = .ok (.getfield 43, 3) := by decide +kernel
theorem dX5_readPart_69 : decode cX5_readPart 69 = .ok (.iconst 1, 1) := by decide +kernel
theorem dX5_readPart_70 : decode cX5_readPart 70 = .ok (.iadd, 1) := by decide +kernel
theorem dX5_readPart_71 : decode cX5_readPart 71 = .ok (.invokevirtual 28, 3) := by decide +kernel
theorem dX5_readPart_74 : decode cX5_readPart 74 = .ok (.aload_n 0, 1) := by decide +kernel
theorem dX5_readPart_75 : decode cX5_readPart 75 = .ok (.iload_n 1, 1) := by decide +kernel
theorem dX5_readPart_76 : decode cX5_readPart 76 = .ok (.iconst 1, 1) := by decide +kernel
theorem dX5_readPart_77 : decode cX5_readPart 77 = .ok (.iadd, 1) := by decide +kernel
theorem dX5_readPart_78 : decode cX5_readPart 78 = .ok (.invokevirtual 86, 3) := by decide +kernel
theorem dX5_readPart_81 : decode cX5_readPart 81 = .ok (.ifCond .ne 5, 3) := by decide +kernel
theorem dX5_readPart_84 : decode cX5_readPart 84 = .ok (.iconst 0, 1) := by decide +kernel
theorem dX5_readPart_85 : decode cX5_readPart 85 = .ok (.ireturn, 1) := by decide +kernel
theorem dX5_readPart_86 : decode cX5_readPart 86 = .ok (.aload_n 0, 1) := by decide +kernel
theorem dX5_readPart_87 : decode cX5_readPart 87 = .ok (.getfield 19, 3) := by decide +kernel
theorem dX5_readPart_90 : decode cX5_readPart 90 = .ok (.iconst 0, 1) := by decide +kernel
theorem dX5_readPart_91 : decode cX5_readPart 91 = .ok (.invokevirtual 89, 3) := by decide +kernel
theorem dX5_readPart_94 : decode cX5_readPart 94 = .ok (.iconst 1, 1) := by decide +kernel
theorem dX5_readPart_95 : decode cX5_readPart 95 = .ok (.ireturn, 1) := by decide +kernel
theorem dX5_readTest_0 : decode cX5_readTest 0 = .ok (.aload_n 0, 1) := by decide +kernel
theorem dX5_readTest_1 : decode cX5_readTest 1 = .ok (.ldc 95, 2) := by decide +kernel
theorem dX5_readTest_3 : decode cX5_readTest 3 = .ok (.invokevirtual 82, 3) := by decide +kernel
theorem dX5_readTest_6 : decode cX5_readTest 6 = .ok (.istore_n 1, 1) := by decide +kernel
theorem dX5_readTest_7 : decode cX5_readTest 7 = .ok (.iload_n 1, 1) := by decide +kernel
theorem dX5_readTest_8 : decode cX5_readTest 8 = .ok (.ifCond .ge 5, 3) := by decide +kernel
theorem dX5_readTest_11 : decode cX5_readTest 11 = .ok (.iconst 0, 1) := by decide +kernel
theorem dX5_readTest_12 : decode cX5_readTest 12 = .ok (.ireturn, 1) := by decide +kernel
theorem dX5_readTest_13 : decode cX5_readTest 13 = .ok (.aload_n 0, 1) := by decide +kernel
theorem dX5_readTest_14 : decode cX5_readTest 14 = .ok (.aload_n 0, 1) := by decide +kernel
theorem dX5_readTest_15 : decode cX5_readTest 15 = .ok (.getfield 43, 3) := by decide +kernel
theorem dX5_readTest_18 : decode cX5_readTest 18 = .ok (.iconst 1, 1) := by decide +kernel
theorem dX5_readTest_19 : decode cX5_readTest 19 = .ok (.iadd, 1) := by decide +kernel
theorem dX5_readTest_20 : decode cX5_readTest 20 = .ok (.invokevirtual 28, 3) := by decide +kernel
theorem dX5_readTest_23 : decode cX5_readTest 23 = .ok (.aload_n 0, 1) := by decide +kernel
theorem dX5_readTest_24 : decode cX5_readTest 24 = .ok (.ldc 97, 2) := by decide +kernel
theorem dX5_readTest_26 : decode cX5_readTest 26 = .ok (.invokevirtual 82, 3) := by decide +kernel
theorem dX5_readTest_29 : decode cX5_readTest 29 = .ok (.istore_n 2, 1) := by decide +kernel
theorem dX5_readTest_30 : decode cX5_readTest 30 = .ok (.iload_n 2, 1) := by decide +kernel
theorem dX5_readTest_31 : decode cX5_readTest 31 = .ok (.ifCond .ge 5, 3) := by decide +kernel
theorem dX5_readTest_34 : decode cX5_readTest 34 = .ok (.iconst 0, 1) := by decide +kernel
theorem dX5_readTest_35 : decode cX5_readTest 35 = .ok (.ireturn, 1) := by decide +kernel
theorem dX5_readTest_36 : decode cX5_readTest 36 = .ok (.aload_n 0, 1) := by decide +kernel
theorem dX5_readTest_37 : decode cX5_readTest 37 = .ok (.aload_n 0, 1) := by decide +kernel
theorem dX5_readTest_38 : decode cX5_readTest 38 = .ok (.getfield 43, 3) := by decide +kernel
theorem dX5_readTest_41 : decode cX5_readTest 41 = .ok (.iconst 1, 1) := by decide +kernel
theorem dX5_readTest_42 : decode cX5_readTest 42 = .ok (.iadd, 1) := by decide +kernel
theorem dX5_readTest_43 : decode cX5_readTest 43 = .ok (.invokevirtual 28, 3) := by decide +kernel
theorem dX5_readTest_46 : decode cX5_readTest 46 = .ok (.aload_n 0, 1) := by decide +kernel
theorem dX5_readTest_47 : decode cX5_readTest 47 = .ok (.invokevirtual 77, 3) := by decide +kernel
theorem dX5_readTest_50 : decode cX5_readTest 50 = .ok (.ifCond .ne 5, 3) := by decide +kernel
theorem dX5_readTest_53 : decode cX5_readTest 53 = .ok (.iconst 0, 1) := by decide +kernel
theorem dX5_readTest_54 : decode cX5_readTest 54 = .ok (.ireturn, 1) := by decide +kernel
theorem dX5_readTest_55 : decode cX5_readTest 55 = .ok (.aload_n 0, 1) := by decide +kernel
theorem dX5_readTest_56 : decode cX5_readTest 56 = .ok (.getfield 19, 3) := by decide +kernel
theorem dX5_readTest_59 : decode cX5_readTest 59 = .ok (.iload_n 1, 1) := by decide +kernel
theorem dX5_readTest_60 : decode cX5_readTest 60 = .ok (.iload_n 2, 1) := by decide +kernel
theorem dX5_readTest_61 : decode cX5_readTest 61 = .ok (.aload_n 0, 1) := by decide +kernel
theorem dX5_readTest_62 : decode cX5_readTest 62 = .ok (.getfield 65, 3) := by decide +kernel
theorem dX5_readTest_65 : decode cX5_readTest 65 = .ok (.invokevirtual 99, 3) := by decide +kernel
theorem dX5_readTest_68 : decode cX5_readTest 68 = .ok (.iconst 1, 1) := by decide +kernel
theorem dX5_readTest_69 : decode cX5_readTest 69 = .ok (.ireturn, 1) := by decide +kernel
theorem dX6_init_0 : decode cX6_init 0 = .ok (.aload_n 0, 1) := by decide +kernel
theorem dX6_init_1 : decode cX6_init 1 = .ok (.invokespecial 3, 3) := by decide +kernel
theorem dX6_init_4 : decode cX6_init 4 = .ok (.aload_n 0, 1) := by decide +kernel
theorem dX6_init_5 : decode cX6_init 5 = .ok (.iconst 0, 1) := by decide +kernel
theorem dX6_init_6 : decode cX6_init 6 = .ok (.iload_n 1, 1) := by decide +kernel
theorem dX6_init_7 : decode cX6_init 7 = .ok (.bipush 100, 2) := by decide +kernel
theorem dX6_init_9 : decode cX6_init 9 = .ok (.invokestatic 9, 3) := by decide +kernel
theorem dX6_init_12 : decode cX6_init 12 = .ok (.invokestatic 15, 3) := by decide +kernel
theorem dX6_init_15 : decode cX6_init 15 = .ok (.putfield 18, 3) := by decide +kernel
theorem dX6_init_18 : decode cX6_init 18 = .ok (.aload_n 0, 1) := by decide +kernel
theorem dX6_init_19 : decode cX6_init 19 = .ok (.aload_n 0, 1) := by decide +kernel
theorem dX6_init_20 : decode cX6_init 20 = .ok (.getfield 18, 3) := by decide +kernel
theorem dX6_init_23 : decode cX6_init 23 = .ok (.iconst 3, 1) := by decide +kernel
theorem dX6_init_24 : decode cX6_init 24 = .ok (.imul, 1) := by decide +kernel
theorem dX6_init_25 : decode cX6_init 25 = .ok (.newarray .int, 2) := by decide +kernel
theorem dX6_init_27 : decode cX6_init 27 = .ok (.putfield 24, 3) := by decide +kernel
theorem dX6_init_30 : decode cX6_init 30 = .ok (.return_, 1) := by decide +kernel
theorem dX6_empty_0 : decode cX6_empty 0 = .ok (.aload_n 0, 1) := by decide +kernel
theorem dX6_empty_1 : decode cX6_empty 1 = .ok (.iconst 0, 1) := by decide +kernel
theorem dX6_empty_2 : decode cX6_empty 2 = .ok (.putfield 28, 3) := by decide +kernel
theorem dX6_empty_5 : decode cX6_empty 5 = .ok (.iconst 0, 1) := by decide +kernel
theorem dX6_empty_6 : decode cX6_empty 6 = .ok (.ireturn, 1) := by decide +kernel
theorem dX6_add_0 : decode cX6_add 0 = .ok (.aload_n 0, 1) := by decide +kernel
theorem dX6_add_1 : decode cX6_add 1 = .ok (.getfield 28, 3) := by decide +kernel
theorem dX6_add_4 : decode cX6_add 4 = .ok (.aload_n 0, 1) := by decide +kernel
theorem dX6_add_5 : decode cX6_add 5 = .ok (.getfield 18, 3) := by decide +kernel
theorem dX6_add_8 : decode cX6_add 8 = .ok (.if_icmp .lt 6, 3) := by decide +kernel
theorem dX6_add_11 : decode cX6_add 11 = .ok (.bipush (-4), 2) := by decide +kernel
theorem dX6_add_13 : decode cX6_add 13 = .ok (.ireturn, 1) := by decide +kernel
theorem dX6_add_14 : decode cX6_add 14 = .ok (.aload_n 0, 1) := by decide +kernel
theorem dX6_add_15 : decode cX6_add 15 = .ok (.getfield 24, 3) := by decide +kernel
theorem dX6_add_18 : decode cX6_add 18 = .ok (.aload_n 0, 1) := by decide +kernel
theorem dX6_add_19 : decode cX6_add 19 = .ok (.getfield 28, 3) := by decide +kernel
theorem dX6_add_22 : decode cX6_add 22 = .ok (.iconst 3, 1) := by decide +kernel
theorem dX6_add_23 : decode cX6_add 23 = .ok (.imul, 1) := by decide +kernel
theorem dX6_add_24 : decode cX6_add 24 = .ok (.iload_n 1, 1) := by decide +kernel
theorem dX6_add_25 : decode cX6_add 25 = .ok (.iastore, 1) := by decide +kernel
theorem dX6_add_26 : decode cX6_add 26 = .ok (.aload_n 0, 1) := by decide +kernel
theorem dX6_add_27 : decode cX6_add 27 = .ok (.getfield 24, 3) := by decide +kernel
theorem dX6_add_30 : decode cX6_add 30 = .ok (.aload_n 0, 1) := by decide +kernel
theorem dX6_add_31 : decode cX6_add 31 = .ok (.getfield 28, 3) := by decide +kernel
theorem dX6_add_34 : decode cX6_add 34 = .ok (.iconst 3, 1) := by decide +kernel
theorem dX6_add_35 : decode cX6_add 35 = .ok (.imul, 1) := by decide +kernel
theorem dX6_add_36 : decode cX6_add 36 = .ok (.iconst 1, 1) := by decide +kernel
theorem dX6_add_37 : decode cX6_add 37 = .ok (.iadd, 1) := by decide +kernel
theorem dX6_add_38 : decode cX6_add 38 = .ok (.iload_n 2, 1) := by decide +kernel
theorem dX6_add_39 : decode cX6_add 39 = .ok (.iastore, 1) := by decide +kernel
theorem dX6_add_40 : decode cX6_add 40 = .ok (.aload_n 0, 1) := by decide +kernel
theorem dX6_add_41 : decode cX6_add 41 = .ok (.getfield 24, 3) := by decide +kernel
theorem dX6_add_44 : decode cX6_add 44 = .ok (.aload_n 0, 1) := by decide +kernel
theorem dX6_add_45 : decode cX6_add 45 = .ok (.getfield 28, 3) := by decide +kernel
theorem dX6_add_48 : decode cX6_add 48 = .ok (.iconst 3, 1) := by decide +kernel
theorem dX6_add_49 : decode cX6_add 49 = .ok (.imul, 1) := by decide +kernel
theorem dX6_add_50 : decode cX6_add 50 = .ok (.iconst 2, 1) := by decide +kernel
theorem dX6_add_51 : decode cX6_add 51 = .ok (.iadd, 1) := by decide +kernel
theorem dX6_add_52 : decode cX6_add 52 = .ok (.iload_n 3, 1) := by decide +kernel
theorem dX6_add_53 : decode cX6_add 53 = .ok (.iastore, 1) := by decide +kernel
theorem dX6_add_54 : decode cX6_add 54 = .ok (.aload_n 0, 1) := by decide +kernel
theorem dX6_add_55 : decode cX6_add 55 = .ok (.dup, 1) := by decide +kernel
theorem dX6_add_56 : decode cX6_add 56 = .ok (.getfield 28, 3) := by decide +kernel
theorem dX6_add_59 : decode cX6_add 59 = .ok (.iconst 1, 1) := by decide +kernel
theorem dX6_add_60 : decode cX6_add 60 = .ok (.iadd, 1) := by decide +kernel
theorem dX6_add_61 : decode cX6_add 61 = .ok (.putfield 28, 3) := by decide +kernel
theorem dX6_add_64 : decode cX6_add 64 = .ok (.aload_n 0, 1) := by decide +kernel
theorem dX6_add_65 : decode cX6_add 65 = .ok (.getfield 28, 3) := by decide +kernel
theorem dX6_add_68 : decode cX6_add 68 = .ok (.ireturn, 1) := by decide +kernel
theorem dX6_first_0 : decode cX6_first 0 = .ok (.aload_n 0, 1) := by decide +kernel
theorem dX6_first_1 : decode cX6_first 1 = .ok (.iload_n 1, 1) := by decide +kernel
theorem dX6_first_2 : decode cX6_first 2 = .ok (.iconst 0, 1) := by decide +kernel
theorem dX6_first_3 : decode cX6_first 3 = .ok (.invokevirtual 31, 3) := by decide +kernel
theorem dX6_first_6 : decode cX6_first 6 = .ok (.ireturn, 1) := by decide +kernel
theorem dX6_second_0 : decode cX6_second 0 = .ok (.aload_n 0, 1) := by decide +kernel
theorem dX6_second_1 : decode cX6_second 1 = .ok (.iload_n 1, 1) := by decide +kernel
theorem dX6_second_2 : decode cX6_second 2 = .ok (.iconst 1, 1) := by decide +kernel
theorem dX6_second_3 : decode cX6_second 3 = .ok (.invokevirtual 31, 3) := by decide +kernel
theorem dX6_second_6 : decode cX6_second 6 = .ok (.ireturn, 1) := by decide +kernel
theorem dX6_third_0 : decode cX6_third 0 = .ok (.aload_n 0, 1) := by decide +kernel
theorem dX6_third_1 : decode cX6_third 1 = .ok (.iload_n 1, 1) := by decide +kernel
theorem dX6_third_2 : decode cX6_third 2 = .ok (.iconst 2, 1) := by decide +kernel
theorem dX6_third_3 : decode cX6_third 3 = .ok (.invokevirtual 31, 3) := by decide +kernel
theorem dX6_third_6 : decode cX6_third 6 = .ok (.ireturn, 1) := by decide +kernel
theorem dX6_cell_0 : decode cX6_cell 0 = .ok (.iload_n 1, 1) := by decide +kernel
theorem dX6_cell_1 : decode cX6_cell 1 = .ok (.ifCond .lt 11, 3) := by decide +kernel
theorem dX6_cell_4 : decode cX6_cell 4 = .ok (.iload_n 1, 1) := by decide +kernel
theorem dX6_cell_5 : decode cX6_cell 5 = .ok (.aload_n 0, 1) := by decide +kernel
theorem dX6_cell_6 : decode cX6_cell 6 = .ok (.getfield 28, 3) := by decide +kernel
theorem dX6_cell_9 : decode cX6_cell 9 = .ok (.if_icmp .lt 7, 3) := by decide +kernel
theorem dX6_cell_12 : decode cX6_cell 12 = .ok (.iconst (-1), 1) := by decide +kernel
theorem dX6_cell_13 : decode cX6_cell 13 = .ok (.goto 13, 3) := by decide +kernel
theorem dX6_cell_16 : decode cX6_cell 16 = .ok (.aload_n 0, 1) := by decide +kernel
theorem dX6_cell_17 : decode cX6_cell 17 = .ok (.getfield 24, 3) := by decide +kernel
theorem dX6_cell_20 : decode cX6_cell 20 = .ok (.iload_n 1, 1) := by decide +kernel
theorem dX6_cell_21 : decode cX6_cell 21 = .ok (.iconst 3, 1) := by decide +kernel
theorem dX6_cell_22 : decode cX6_cell 22 = .ok (.imul, 1) := by decide +kernel
theorem dX6_cell_23 : decode cX6_cell 23 = .ok (.iload_n 2, 1) := by decide +kernel
theorem dX6_cell_24 : decode cX6_cell 24 = .ok (.iadd, 1) := by decide +kernel
theorem dX6_cell_25 : decode cX6_cell 25 = .ok (.iaload, 1) := by decide +kernel
theorem dX6_cell_26 : decode cX6_cell 26 = .ok (.ireturn, 1) := by decide +kernel
theorem dX6_copy_0 : decode cX6_copy 0 = .ok (.aload_n 0, 1) := by decide +kernel
theorem dX6_copy_1 : decode cX6_copy 1 = .ok (.aload_n 1, 1) := by decide +kernel
theorem dX6_copy_2 : decode cX6_copy 2 = .ok (.getfield 28, 3) := by decide +kernel
theorem dX6_copy_5 : decode cX6_copy 5 = .ok (.aload_n 0, 1) := by decide +kernel
theorem dX6_copy_6 : decode cX6_copy 6 = .ok (.getfield 18, 3) := by decide +kernel
theorem dX6_copy_9 : decode cX6_copy 9 = .ok (.invokestatic 9, 3) := by decide +kernel
theorem dX6_copy_12 : decode cX6_copy 12 = .ok (.putfield 28, 3) := by decide +kernel
theorem dX6_copy_15 : decode cX6_copy 15 = .ok (.aload_n 1, 1) := by decide +kernel
theorem dX6_copy_16 : decode cX6_copy 16 = .ok (.getfield 24, 3) := by decide +kernel
theorem dX6_copy_19 : decode cX6_copy 19 = .ok (.iconst 0, 1) := by decide +kernel
theorem dX6_copy_20 : decode cX6_copy 20 = .ok (.aload_n 0, 1) := by decide +kernel
theorem dX6_copy_21 : decode cX6_copy 21 = .ok (.getfield 24, 3) := by decide +kernel
theorem dX6_copy_24 : decode cX6_copy 24 = .ok (.iconst 0, 1) := by decide +kernel
theorem dX6_copy_25 : decode cX6_copy 25 = .ok (.aload_n 0, 1) := by decide +kernel
theorem dX6_copy_26 : decode cX6_copy 26 = .ok (.getfield 24, 3) := by decide +kernel
theorem dX6_copy_29 : decode cX6_copy 29 = .ok (.arraylength, 1) := by decide +kernel
theorem dX6_copy_30 : decode cX6_copy 30 = .ok (.aload_n 1, 1) := by decide +kernel
theorem dX6_copy_31 : decode cX6_copy 31 = .ok (.getfield 24, 3) := by decide +kernel
theorem dX6_copy_34 : decode cX6_copy 34 = .ok (.arraylength, 1) := by decide +kernel
theorem dX6_copy_35 : decode cX6_copy 35 = .ok (.invokestatic 9, 3) := by decide +kernel
theorem dX6_copy_38 : decode cX6_copy 38 = .ok (.invokestatic 34, 3) := by decide +kernel
theorem dX6_copy_41 : decode cX6_copy 41 = .ok (.return_, 1) := by decide +kernel
theorem dX7_init_0 : decode cX7_init 0 = .ok (.aload_n 0, 1) := by decide +kernel
theorem dX7_init_1 : decode cX7_init 1 = .ok (.invokespecial 3, 3) := by decide +kernel
theorem dX7_init_4 : decode cX7_init 4 = .ok (.aload_n 0, 1) := by decide +kernel
theorem dX7_init_5 : decode cX7_init 5 = .ok (.bipush 6, 2) := by decide +kernel
theorem dX7_init_7 : decode cX7_init 7 = .ok (.anewarray 9, 3) := by decide +kernel
theorem dX7_init_10 : decode cX7_init 10 = .ok (.putfield 11, 3) := by decide +kernel
theorem dX7_init_13 : decode cX7_init 13 = .ok (.iconst 0, 1) := by decide +kernel
theorem dX7_init_14 : decode cX7_init 14 = .ok (.istore_n 1, 1) := by decide +kernel
theorem dX7_init_15 : decode cX7_init 15 = .ok (.iload_n 1, 1) := by decide +kernel
theorem dX7_init_16 : decode cX7_init 16 = .ok (.bipush 6, 2) := by decide +kernel
theorem dX7_init_18 : decode cX7_init 18 = .ok (.if_icmp .ge 22, 3) := by decide +kernel
theorem dX7_init_21 : decode cX7_init 21 = .ok (.aload_n 0, 1) := by decide +kernel
theorem dX7_init_22 : decode cX7_init 22 = .ok (.getfield 11, 3) := by decide +kernel
theorem dX7_init_25 : decode cX7_init 25 = .ok (.iload_n 1, 1) := by decide +kernel
theorem dX7_init_26 : decode cX7_init 26 = .ok (.new 9, 3) := by decide +kernel
theorem dX7_init_29 : decode cX7_init 29 = .ok (.dup, 1) := by decide +kernel
theorem dX7_init_30 : decode cX7_init 30 = .ok (.invokespecial 17, 3) := by decide +kernel
theorem dX7_init_33 : decode cX7_init 33 = .ok (.aastore, 1) := by decide +kernel
theorem dX7_init_34 : decode cX7_init 34 = .ok (.iinc 1 1, 3) := by decide +kernel
theorem dX7_init_37 : decode cX7_init 37 = .ok (.goto (-22), 3) := by decide +kernel
theorem dX7_init_40 : decode cX7_init 40 = .ok (.return_, 1) := by decide +kernel
theorem dX7_spareBorder_0 : decode cX7_spareBorder 0 = .ok (.aload_n 0, 1) := by decide +kernel
theorem dX7_spareBorder_1 : decode cX7_spareBorder 1 = .ok (.getfield 18, 3) := by decide +kernel
theorem dX7_spareBorder_4 : decode cX7_spareBorder 4 = .ok (.aload_n 0, 1) := by decide +kernel
theorem dX7_spareBorder_5 : decode cX7_spareBorder 5 = .ok (.getfield 11, 3) := by decide +kernel
theorem dX7_spareBorder_8 : decode cX7_spareBorder 8 = .ok (.arraylength, 1) := by decide +kernel
theorem dX7_spareBorder_9 : decode cX7_spareBorder 9 = .ok (.if_icmp .lt 7, 3) := by decide +kernel
theorem dX7_spareBorder_12 : decode cX7_spareBorder 12 = .ok (.aconst_null, 1) := by decide +kernel
theorem dX7_spareBorder_13 : decode cX7_spareBorder 13 = .ok (.goto 12, 3) := by decide +kernel
theorem dX7_spareBorder_16 : decode cX7_spareBorder 16 = .ok (.aload_n 0, 1) := by decide +kernel
theorem dX7_spareBorder_17 : decode cX7_spareBorder 17 = .ok (.getfield 11, 3) := by decide +kernel
theorem dX7_spareBorder_20 : decode cX7_spareBorder 20 = .ok (.aload_n 0, 1) := by decide +kernel
theorem dX7_spareBorder_21 : decode cX7_spareBorder 21 = .ok (.getfield 18, 3) := by decide +kernel
theorem dX7_spareBorder_24 : decode cX7_spareBorder 24 = .ok (.aaload, 1) := by decide +kernel
theorem dX7_spareBorder_25 : decode cX7_spareBorder 25 = .ok (.areturn, 1) := by decide +kernel
theorem dX7_keepSpare_0 : decode cX7_keepSpare 0 = .ok (.aload_n 0, 1) := by decide +kernel
theorem dX7_keepSpare_1 : decode cX7_keepSpare 1 = .ok (.dup, 1) := by decide +kernel
theorem dX7_keepSpare_2 : decode cX7_keepSpare 2 = .ok (.getfield 18, 3) := by decide +kernel
theorem dX7_keepSpare_5 : decode cX7_keepSpare 5 = .ok (.iconst 1, 1) := by decide +kernel
theorem dX7_keepSpare_6 : decode cX7_keepSpare 6 = .ok (.iadd, 1) := by decide +kernel
theorem dX7_keepSpare_7 : decode cX7_keepSpare 7 = .ok (.putfield 18, 3) := by decide +kernel
theorem dX7_keepSpare_10 : decode cX7_keepSpare 10 = .ok (.aload_n 0, 1) := by decide +kernel
theorem dX7_keepSpare_11 : decode cX7_keepSpare 11 = .ok (.getfield 18, 3) := by decide +kernel
theorem dX7_keepSpare_14 : decode cX7_keepSpare 14 = .ok (.iconst 1, 1) := by decide +kernel
theorem dX7_keepSpare_15 : decode cX7_keepSpare 15 = .ok (.isub, 1) := by decide +kernel
theorem dX7_keepSpare_16 : decode cX7_keepSpare 16 = .ok (.ireturn, 1) := by decide +kernel
theorem dX7_wit_0 : decode cX7_wit 0 = .ok (.aload_n 1, 1) := by decide +kernel
theorem dX7_wit_1 : decode cX7_wit 1 = .ok (.iload_n 2, 1) := by decide +kernel
theorem dX7_wit_2 : decode cX7_wit 2 = .ok (.invokevirtual 22, 3) := by decide +kernel
theorem dX7_wit_5 : decode cX7_wit 5 = .ok (.astore 5, 2) := by decide +kernel
theorem dX7_wit_7 : decode cX7_wit 7 = .ok (.aload 5, 2) := by decide +kernel
theorem dX7_wit_9 : decode cX7_wit 9 = .ok (.ifnonnull 5, 3) := by decide +kernel
theorem dX7_wit_12 : decode cX7_wit 12 = .ok (.iconst 0, 1) := by decide +kernel
theorem dX7_wit_13 : decode cX7_wit 13 = .ok (.ireturn, 1) := by decide +kernel
theorem dX7_wit_14 : decode cX7_wit 14 = .ok (.iload 4, 2) := by decide +kernel
theorem dX7_wit_16 : decode cX7_wit 16 = .ok (.invokestatic 28, 3) := by decide +kernel
theorem dX7_wit_19 : decode cX7_wit 19 = .ok (.istore 6, 2) := by decide +kernel
theorem dX7_wit_21 : decode cX7_wit 21 = .ok (.aload_n 1, 1) := by decide +kernel
theorem dX7_wit_22 : decode cX7_wit 22 = .ok (.getfield 34, 3) := by decide +kernel
theorem dX7_wit_25 : decode cX7_wit 25 = .ok (.ifnonnull 7, 3) := by decide +kernel
theorem dX7_wit_28 : decode cX7_wit 28 = .ok (.iconst 0, 1) := by decide +kernel
theorem dX7_wit_29 : decode cX7_wit 29 = .ok (.goto 24, 3) := by decide +kernel
theorem dX7_wit_32 : decode cX7_wit 32 = .ok (.aload_n 1, 1) := by decide +kernel
theorem dX7_wit_33 : decode cX7_wit 33 = .ok (.getfield 34, 3) := by decide +kernel
theorem dX7_wit_36 : decode cX7_wit 36 = .ok (.aload 5, 2) := by decide +kernel
theorem dX7_wit_38 : decode cX7_wit 38 = .ok (.iload_n 2, 1) := by decide +kernel
theorem dX7_wit_39 : decode cX7_wit 39 = .ok (.aload 5, 2) := by decide +kernel
theorem dX7_wit_41 : decode cX7_wit 41 = .ok (.getfield 38, 3) := by decide +kernel
theorem dX7_wit_44 : decode cX7_wit 44 = .ok (.iload 6, 2) := by decide +kernel
theorem dX7_wit_46 : decode cX7_wit 46 = .ok (.aload_n 1, 1) := by decide +kernel
theorem dX7_wit_47 : decode cX7_wit 47 = .ok (.getfield 43, 3) := by decide +kernel
theorem dX7_wit_50 : decode cX7_wit 50 = .ok (.invokevirtual 46, 3) := by decide +kernel
theorem dX7_wit_53 : decode cX7_wit 53 = .ok (.istore 7, 2) := by decide +kernel
theorem dX7_wit_55 : decode cX7_wit 55 = .ok (.aload_n 0, 1) := by decide +kernel
theorem dX7_wit_56 : decode cX7_wit 56 = .ok (.aload_n 1, 1) := by decide +kernel
theorem dX7_wit_57 : decode cX7_wit 57 = .ok (.iload_n 2, 1) := by decide +kernel
theorem dX7_wit_58 : decode cX7_wit 58 = .ok (.aload 5, 2) := by decide +kernel
theorem dX7_wit_60 : decode cX7_wit 60 = .ok (.getfield 38, 3) := by decide +kernel
theorem dX7_wit_63 : decode cX7_wit 63 = .ok (.iload 6, 2) := by decide +kernel
theorem dX7_wit_65 : decode cX7_wit 65 = .ok (.iload 4, 2) := by decide +kernel
theorem dX7_wit_67 : decode cX7_wit 67 = .ok (.iload_n 3, 1) := by decide +kernel
theorem dX7_wit_68 : decode cX7_wit 68 = .ok (.iand, 1) := by decide +kernel
theorem dX7_wit_69 : decode cX7_wit 69 = .ok (.invokestatic 28, 3) := by decide +kernel
theorem dX7_wit_72 : decode cX7_wit 72 = .ok (.iload 7, 2) := by decide +kernel
theorem dX7_wit_74 : decode cX7_wit 74 = .ok (.invokevirtual 50, 3) := by decide +kernel
theorem dX7_wit_77 : decode cX7_wit 77 = .ok (.ireturn, 1) := by decide +kernel
theorem dX7_witKnowing_0 : decode cX7_witKnowing 0 = .ok (.aload_n 1, 1) := by decide +kernel
theorem dX7_witKnowing_1 : decode cX7_witKnowing 1 = .ok (.iload_n 2, 1) := by decide +kernel
theorem dX7_witKnowing_2 : decode cX7_witKnowing 2 = .ok (.invokevirtual 22, 3) := by decide +kernel
theorem dX7_witKnowing_5 : decode cX7_witKnowing 5 = .ok (.astore 7, 2) := by decide +kernel
theorem dX7_witKnowing_7 : decode cX7_witKnowing 7 = .ok (.aload 7, 2) := by decide +kernel
theorem dX7_witKnowing_9 : decode cX7_witKnowing 9 = .ok (.ifnonnull 5, 3) := by decide +kernel
theorem dX7_witKnowing_12 : decode cX7_witKnowing 12 = .ok (.iconst 0, 1) := by decide +kernel
theorem dX7_witKnowing_13 : decode cX7_witKnowing 13 = .ok (.ireturn, 1) := by decide +kernel
theorem dX7_witKnowing_14 : decode cX7_witKnowing 14 = .ok (.iconst 2, 1) := by decide +kernel
theorem dX7_witKnowing_15 : decode cX7_witKnowing 15 = .ok (.iload 5, 2) := by decide +kernel
theorem dX7_witKnowing_17 : decode cX7_witKnowing 17 = .ok (.imul, 1) := by decide +kernel
theorem dX7_witKnowing_18 : decode cX7_witKnowing 18 = .ok (.iload 4, 2) := by decide +kernel
theorem dX7_witKnowing_20 : decode cX7_witKnowing 20 = .ok (.iload 5, 2) := by decide +kernel
theorem dX7_witKnowing_22 : decode cX7_witKnowing 22 = .ok (.isub, 1) := by decide +kernel
theorem dX7_witKnowing_23 : decode cX7_witKnowing 23 = .ok (.isub, 1) := by decide +kernel
theorem dX7_witKnowing_24 : decode cX7_witKnowing 24 = .ok (.aload 7, 2) := by decide +kernel
theorem dX7_witKnowing_26 : decode cX7_witKnowing 26 = .ok (.getfield 54, 3) := by decide +kernel
theorem dX7_witKnowing_29 : decode cX7_witKnowing 29 = .ok (.bipush 10, 2) := by decide +kernel
theorem dX7_witKnowing_31 : decode cX7_witKnowing 31 = .ok (.idiv, 1) := by decide +kernel
theorem dX7_witKnowing_32 : decode cX7_witKnowing 32 = .ok (.isub, 1) := by decide +kernel
theorem dX7_witKnowing_33 : decode cX7_witKnowing 33 = .ok (.iload 6, 2) := by decide +kernel
theorem dX7_witKnowing_35 : decode cX7_witKnowing 35 = .ok (.iadd, 1) := by decide +kernel
theorem dX7_witKnowing_36 : decode cX7_witKnowing 36 = .ok (.istore 8, 2) := by decide +kernel
theorem dX7_witKnowing_38 : decode cX7_witKnowing 38 = .ok (.aload 7, 2) := by decide +kernel
theorem dX7_witKnowing_40 : decode cX7_witKnowing 40 = .ok (.getfield 57, 3) := by decide +kernel
theorem dX7_witKnowing_43 : decode cX7_witKnowing 43 = .ok (.tableswitch 131 1 6 #[37, 42, 49, 62, 82, 105], 37) := by decide +kernel
theorem dX7_witKnowing_80 : decode cX7_witKnowing 80 = .ok (.iload 8, 2) := by decide +kernel
theorem dX7_witKnowing_82 : decode cX7_witKnowing 82 = .ok (.iload_n 3, 1) := by decide +kernel
theorem dX7_witKnowing_83 : decode cX7_witKnowing 83 = .ok (.iadd, 1) := by decide +kernel
theorem dX7_witKnowing_84 : decode cX7_witKnowing 84 = .ok (.ireturn, 1) := by decide +kernel
theorem dX7_witKnowing_85 : decode cX7_witKnowing 85 = .ok (.iload 8, 2) := by decide +kernel
theorem dX7_witKnowing_87 : decode cX7_witKnowing 87 = .ok (.iconst 2, 1) := by decide +kernel
theorem dX7_witKnowing_88 : decode cX7_witKnowing 88 = .ok (.idiv, 1) := by decide +kernel
theorem dX7_witKnowing_89 : decode cX7_witKnowing 89 = .ok (.iconst 1, 1) := by decide +kernel
theorem dX7_witKnowing_90 : decode cX7_witKnowing 90 = .ok (.iadd, 1) := by decide +kernel
theorem dX7_witKnowing_91 : decode cX7_witKnowing 91 = .ok (.ireturn, 1) := by decide +kernel
theorem dX7_witKnowing_92 : decode cX7_witKnowing 92 = .ok (.iload 4, 2) := by decide +kernel
theorem dX7_witKnowing_94 : decode cX7_witKnowing 94 = .ok (.iconst 2, 1) := by decide +kernel
theorem dX7_witKnowing_95 : decode cX7_witKnowing 95 = .ok (.if_icmp .ge 7, 3) := by decide +kernel
theorem dX7_witKnowing_98 : decode cX7_witKnowing 98 = .ok (.iconst 0, 1) := by decide +kernel
theorem dX7_witKnowing_99 : decode cX7_witKnowing 99 = .ok (.goto 5, 3) := by decide +kernel
theorem dX7_witKnowing_102 : decode cX7_witKnowing 102 = .ok (.iload 8, 2) := by decide +kernel
theorem dX7_witKnowing_104 : decode cX7_witKnowing 104 = .ok (.ireturn, 1) := by decide +kernel
theorem dX7_witKnowing_105 : decode cX7_witKnowing 105 = .ok (.iload 8, 2) := by decide +kernel
theorem dX7_witKnowing_107 : decode cX7_witKnowing 107 = .ok (.iload_n 3, 1) := by decide +kernel
theorem dX7_witKnowing_108 : decode cX7_witKnowing 108 = .ok (.iadd, 1) := by decide +kernel
theorem dX7_witKnowing_109 : decode cX7_witKnowing 109 = .ok (.aload_n 1, 1) := by decide +kernel
theorem dX7_witKnowing_110 : decode cX7_witKnowing 110 = .ok (.getfield 43, 3) := by decide +kernel
theorem dX7_witKnowing_113 : decode cX7_witKnowing 113 = .ok (.iconst 3, 1) := by decide +kernel
theorem dX7_witKnowing_114 : decode cX7_witKnowing 114 = .ok (.irem, 1) := by decide +kernel
theorem dX7_witKnowing_115 : decode cX7_witKnowing 115 = .ok (.ifCond .ne 7, 3) := by decide +kernel
theorem dX7_witKnowing_118 : decode cX7_witKnowing 118 = .ok (.iconst 3, 1) := by decide +kernel
theorem dX7_witKnowing_119 : decode cX7_witKnowing 119 = .ok (.goto 4, 3) := by decide +kernel
theorem dX7_witKnowing_122 : decode cX7_witKnowing 122 = .ok (.iconst 0, 1) := by decide +kernel
theorem dX7_witKnowing_123 : decode cX7_witKnowing 123 = .ok (.iadd, 1) := by decide +kernel
theorem dX7_witKnowing_124 : decode cX7_witKnowing 124 = .ok (.ireturn, 1) := by decide +kernel
theorem dX7_witKnowing_125 : decode cX7_witKnowing 125 = .ok (.iload 8, 2) := by decide +kernel
theorem dX7_witKnowing_127 : decode cX7_witKnowing 127 = .ok (.iconst 2, 1) := by decide +kernel
theorem dX7_witKnowing_128 : decode cX7_witKnowing 128 = .ok (.idiv, 1) := by decide +kernel
theorem dX7_witKnowing_129 : decode cX7_witKnowing 129 = .ok (.iconst 1, 1) := by decide +kernel
theorem dX7_witKnowing_130 : decode cX7_witKnowing 130 = .ok (.iadd, 1) := by decide +kernel
theorem dX7_witKnowing_131 : decode cX7_witKnowing 131 = .ok (.aload 7, 2) := by decide +kernel
theorem dX7_witKnowing_133 : decode cX7_witKnowing 133 = .ok (.getfield 54, 3) := by decide +kernel
theorem dX7_witKnowing_136 : decode cX7_witKnowing 136 = .ok (.bipush 30, 2) := by decide +kernel
theorem dX7_witKnowing_138 : decode cX7_witKnowing 138 = .ok (.if_icmp .lt 7, 3) := by decide +kernel
theorem dX7_witKnowing_141 : decode cX7_witKnowing 141 = .ok (.iconst 4, 1) := by decide +kernel
theorem dX7_witKnowing_142 : decode cX7_witKnowing 142 = .ok (.goto 4, 3) := by decide +kernel
theorem dX7_witKnowing_145 : decode cX7_witKnowing 145 = .ok (.iconst 0, 1) := by decide +kernel
theorem dX7_witKnowing_146 : decode cX7_witKnowing 146 = .ok (.isub, 1) := by decide +kernel
theorem dX7_witKnowing_147 : decode cX7_witKnowing 147 = .ok (.ireturn, 1) := by decide +kernel
theorem dX7_witKnowing_148 : decode cX7_witKnowing 148 = .ok (.iload 4, 2) := by decide +kernel
theorem dX7_witKnowing_150 : decode cX7_witKnowing 150 = .ok (.iconst 2, 1) := by decide +kernel
theorem dX7_witKnowing_151 : decode cX7_witKnowing 151 = .ok (.if_icmp .ge 7, 3) := by decide +kernel
theorem dX7_witKnowing_154 : decode cX7_witKnowing 154 = .ok (.iconst 0, 1) := by decide +kernel
theorem dX7_witKnowing_155 : decode cX7_witKnowing 155 = .ok (.goto 5, 3) := by decide +kernel
theorem dX7_witKnowing_158 : decode cX7_witKnowing 158 = .ok (.iload 8, 2) := by decide +kernel
theorem dX7_witKnowing_160 : decode cX7_witKnowing 160 = .ok (.aload 7, 2) := by decide +kernel
theorem dX7_witKnowing_162 : decode cX7_witKnowing 162 = .ok (.getfield 60, 3) := by decide +kernel
theorem dX7_witKnowing_165 : decode cX7_witKnowing 165 = .ok (.iload 4, 2) := by decide +kernel
theorem dX7_witKnowing_167 : decode cX7_witKnowing 167 = .ok (.iconst 3, 1) := by decide +kernel
theorem dX7_witKnowing_168 : decode cX7_witKnowing 168 = .ok (.iand, 1) := by decide +kernel
theorem dX7_witKnowing_169 : decode cX7_witKnowing 169 = .ok (.iaload, 1) := by decide +kernel
theorem dX7_witKnowing_170 : decode cX7_witKnowing 170 = .ok (.iadd, 1) := by decide +kernel
theorem dX7_witKnowing_171 : decode cX7_witKnowing 171 = .ok (.iconst 4, 1) := by decide +kernel
theorem dX7_witKnowing_172 : decode cX7_witKnowing 172 = .ok (.isub, 1) := by decide +kernel
theorem dX7_witKnowing_173 : decode cX7_witKnowing 173 = .ok (.ireturn, 1) := by decide +kernel
theorem dX7_witKnowing_174 : decode cX7_witKnowing 174 = .ok (.iload 8, 2) := by decide +kernel
theorem dX7_witKnowing_176 : decode cX7_witKnowing 176 = .ok (.ireturn, 1) := by decide +kernel
theorem dX7_answers_0 : decode cX7_answers 0 = .ok (.aload_n 1, 1) := by decide +kernel
theorem dX7_answers_1 : decode cX7_answers 1 = .ok (.iload_n 2, 1) := by decide +kernel
theorem dX7_answers_2 : decode cX7_answers 2 = .ok (.invokevirtual 22, 3) := by decide +kernel
theorem dX7_answers_5 : decode cX7_answers 5 = .ok (.astore 4, 2) := by decide +kernel
theorem dX7_answers_7 : decode cX7_answers 7 = .ok (.aload 4, 2) := by decide +kernel
theorem dX7_answers_9 : decode cX7_answers 9 = .ok (.ifnull 22, 3) := by decide +kernel
theorem dX7_answers_12 : decode cX7_answers 12 = .ok (.aload_n 0, 1) := by decide +kernel
theorem dX7_answers_13 : decode cX7_answers 13 = .ok (.aload_n 1, 1) := by decide +kernel
theorem dX7_answers_14 : decode cX7_answers 14 = .ok (.iload_n 2, 1) := by decide +kernel
theorem dX7_answers_15 : decode cX7_answers 15 = .ok (.aload 4, 2) := by decide +kernel
theorem dX7_answers_17 : decode cX7_answers 17 = .ok (.getfield 64, 3) := by decide +kernel
theorem dX7_answers_20 : decode cX7_answers 20 = .ok (.iload_n 3, 1) := by decide +kernel
theorem dX7_answers_21 : decode cX7_answers 21 = .ok (.invokevirtual 67, 3) := by decide +kernel
theorem dX7_answers_24 : decode cX7_answers 24 = .ok (.ifCond .le 7, 3) := by decide +kernel
theorem dX7_answers_27 : decode cX7_answers 27 = .ok (.iconst 1, 1) := by decide +kernel
theorem dX7_answers_28 : decode cX7_answers 28 = .ok (.goto 4, 3) := by decide +kernel
theorem dX7_answers_31 : decode cX7_answers 31 = .ok (.iconst 0, 1) := by decide +kernel
theorem dX7_answers_32 : decode cX7_answers 32 = .ok (.ireturn, 1) := by decide +kernel
theorem dX7_putTo_0 : decode cX7_putTo 0 = .ok (.aload_n 1, 1) := by decide +kernel
theorem dX7_putTo_1 : decode cX7_putTo 1 = .ok (.iload_n 2, 1) := by decide +kernel
theorem dX7_putTo_2 : decode cX7_putTo 2 = .ok (.invokevirtual 71, 3) := by decide +kernel
theorem dX7_putTo_5 : decode cX7_putTo 5 = .ok (.astore 4, 2) := by decide +kernel
theorem dX7_putTo_7 : decode cX7_putTo 7 = .ok (.aload_n 1, 1) := by decide +kernel
theorem dX7_putTo_8 : decode cX7_putTo 8 = .ok (.iload_n 3, 1) := by decide +kernel
theorem dX7_putTo_9 : decode cX7_putTo 9 = .ok (.invokevirtual 22, 3) := by decide +kernel
theorem dX7_putTo_12 : decode cX7_putTo 12 = .ok (.astore 5, 2) := by decide +kernel
theorem dX7_putTo_14 : decode cX7_putTo 14 = .ok (.aload 4, 2) := by decide +kernel
theorem dX7_putTo_16 : decode cX7_putTo 16 = .ok (.ifnull 16, 3) := by decide +kernel
theorem dX7_putTo_19 : decode cX7_putTo 19 = .ok (.aload 5, 2) := by decide +kernel
theorem dX7_putTo_21 : decode cX7_putTo 21 = .ok (.ifnull 11, 3) := by decide +kernel
theorem dX7_putTo_24 : decode cX7_putTo 24 = .ok (.aload 4, 2) := by decide +kernel
theorem dX7_putTo_26 : decode cX7_putTo 26 = .ok (.getfield 75, 3) := by decide +kernel
theorem dX7_putTo_29 : decode cX7_putTo 29 = .ok (.ifCond .eq 4, 3) := by decide +kernel
theorem dX7_putTo_32 : decode cX7_putTo 32 = .ok (.return_, 1) := by decide +kernel
theorem dX7_putTo_33 : decode cX7_putTo 33 = .ok (.aload_n 0, 1) := by decide +kernel
theorem dX7_putTo_34 : decode cX7_putTo 34 = .ok (.aload_n 1, 1) := by decide +kernel
theorem dX7_putTo_35 : decode cX7_putTo 35 = .ok (.iload_n 3, 1) := by decide +kernel
theorem dX7_putTo_36 : decode cX7_putTo 36 = .ok (.aload 4, 2) := by decide +kernel
theorem dX7_putTo_38 : decode cX7_putTo 38 = .ok (.getfield 80, 3) := by decide +kernel
theorem dX7_putTo_41 : decode cX7_putTo 41 = .ok (.invokevirtual 83, 3) := by decide +kernel
theorem dX7_putTo_44 : decode cX7_putTo 44 = .ok (.ifCond .eq 30, 3) := by decide +kernel
theorem dX7_putTo_47 : decode cX7_putTo 47 = .ok (.aload 4, 2) := by decide +kernel
theorem dX7_putTo_49 : decode cX7_putTo 49 = .ok (.iconst 1, 1) := by decide +kernel
theorem dX7_putTo_50 : decode cX7_putTo 50 = .ok (.putfield 75, 3) := by decide +kernel
theorem dX7_putTo_53 : decode cX7_putTo 53 = .ok (.aload 5, 2) := by decide +kernel
theorem dX7_putTo_55 : decode cX7_putTo 55 = .ok (.bipush 99, 2) := by decide +kernel
theorem dX7_putTo_57 : decode cX7_putTo 57 = .ok (.aload 5, 2) := by decide +kernel
theorem dX7_putTo_59 : decode cX7_putTo 59 = .ok (.getfield 54, 3) := by decide +kernel
theorem dX7_putTo_62 : decode cX7_putTo 62 = .ok (.bipush 10, 2) := by decide +kernel
theorem dX7_putTo_64 : decode cX7_putTo 64 = .ok (.iadd, 1) := by decide +kernel
theorem dX7_putTo_65 : decode cX7_putTo 65 = .ok (.invokestatic 87, 3) := by decide +kernel
theorem dX7_putTo_68 : decode cX7_putTo 68 = .ok (.putfield 54, 3) := by decide +kernel
theorem dX7_putTo_71 : decode cX7_putTo 71 = .ok (.goto 42, 3) := by decide +kernel
theorem dX7_putTo_74 : decode cX7_putTo 74 = .ok (.aload 4, 2) := by decide +kernel
theorem dX7_putTo_76 : decode cX7_putTo 76 = .ok (.iconst 2, 1) := by decide +kernel
theorem dX7_putTo_77 : decode cX7_putTo 77 = .ok (.putfield 75, 3) := by decide +kernel
theorem dX7_putTo_80 : decode cX7_putTo 80 = .ok (.aload 5, 2) := by decide +kernel
theorem dX7_putTo_82 : decode cX7_putTo 82 = .ok (.astore 6, 2) := by decide +kernel
theorem dX7_putTo_84 : decode cX7_putTo 84 = .ok (.aload 6, 2) := by decide +kernel
theorem dX7_putTo_86 : decode cX7_putTo 86 = .ok (.aload 6, 2) := by decide +kernel
theorem dX7_putTo_88 : decode cX7_putTo 88 = .ok (.getfield 64, 3) := by decide +kernel
theorem dX7_putTo_91 : decode cX7_putTo 91 = .ok (.aload 4, 2) := by decide +kernel
theorem dX7_putTo_93 : decode cX7_putTo 93 = .ok (.getfield 80, 3) := by decide +kernel
theorem dX7_putTo_96 : decode cX7_putTo 96 = .ok (.aload 5, 2) := by decide +kernel
theorem dX7_putTo_98 : decode cX7_putTo 98 = .ok (.getfield 64, 3) := by decide +kernel
theorem dX7_putTo_101 : decode cX7_putTo 101 = .ok (.iconst (-1), 1) := by decide +kernel
theorem dX7_putTo_102 : decode cX7_putTo 102 = .ok (.ixor, 1) := by decide +kernel
theorem dX7_putTo_103 : decode cX7_putTo 103 = .ok (.iand, 1) := by decide +kernel
theorem dX7_putTo_104 : decode cX7_putTo 104 = .ok (.invokestatic 93, 3) := by decide +kernel
theorem dX7_putTo_107 : decode cX7_putTo 107 = .ok (.ior, 1) := by decide +kernel
theorem dX7_putTo_108 : decode cX7_putTo 108 = .ok (.dup_x1, 1) := by decide +kernel
theorem dX7_putTo_109 : decode cX7_putTo 109 = .ok (.putfield 64, 3) := by decide +kernel
theorem dX7_putTo_112 : decode cX7_putTo 112 = .ok (.pop, 1) := by decide +kernel
theorem dX7_putTo_113 : decode cX7_putTo 113 = .ok (.return_, 1) := by decide +kernel
theorem dX7_letPass_0 : decode cX7_letPass 0 = .ok (.iconst 0, 1) := by decide +kernel
theorem dX7_letPass_1 : decode cX7_letPass 1 = .ok (.istore_n 3, 1) := by decide +kernel
theorem dX7_letPass_2 : decode cX7_letPass 2 = .ok (.iload_n 3, 1) := by decide +kernel
theorem dX7_letPass_3 : decode cX7_letPass 3 = .ok (.iload_n 2, 1) := by decide +kernel
theorem dX7_letPass_4 : decode cX7_letPass 4 = .ok (.if_icmp .ge 14, 3) := by decide +kernel
theorem dX7_letPass_7 : decode cX7_letPass 7 = .ok (.aload_n 0, 1) := by decide +kernel
theorem dX7_letPass_8 : decode cX7_letPass 8 = .ok (.aload_n 1, 1) := by decide +kernel
theorem dX7_letPass_9 : decode cX7_letPass 9 = .ok (.invokevirtual 96, 3) := by decide +kernel
theorem dX7_letPass_12 : decode cX7_letPass 12 = .ok (.iinc 3 1, 3) := by decide +kernel
theorem dX7_letPass_15 : decode cX7_letPass 15 = .ok (.goto (-13), 3) := by decide +kernel
theorem dX7_letPass_18 : decode cX7_letPass 18 = .ok (.return_, 1) := by decide +kernel
theorem dX7_letHourPass_0 : decode cX7_letHourPass 0 = .ok (.iconst 0, 1) := by decide +kernel
theorem dX7_letHourPass_1 : decode cX7_letHourPass 1 = .ok (.istore_n 2, 1) := by decide +kernel
theorem dX7_letHourPass_2 : decode cX7_letHourPass 2 = .ok (.iload_n 2, 1) := by decide +kernel
theorem dX7_letHourPass_3 : decode cX7_letHourPass 3 = .ok (.aload_n 1, 1) := by decide +kernel
theorem dX7_letHourPass_4 : decode cX7_letHourPass 4 = .ok (.getfield 100, 3) := by decide +kernel
theorem dX7_letHourPass_7 : decode cX7_letHourPass 7 = .ok (.if_icmp .ge 29, 3) := by decide +kernel
theorem dX7_letHourPass_10 : decode cX7_letHourPass 10 = .ok (.aload_n 1, 1) := by decide +kernel
theorem dX7_letHourPass_11 : decode cX7_letHourPass 11 = .ok (.iload_n 2, 1) := by decide +kernel
theorem dX7_letHourPass_12 : decode cX7_letHourPass 12 = .ok (.invokevirtual 71, 3) := by decide +kernel
theorem dX7_letHourPass_15 : decode cX7_letHourPass 15 = .ok (.astore_n 3, 1) := by decide +kernel
theorem dX7_letHourPass_16 : decode cX7_letHourPass 16 = .ok (.aload_n 3, 1) := by decide +kernel
theorem dX7_letHourPass_17 : decode cX7_letHourPass 17 = .ok (.ifnull 13, 3) := by decide +kernel
theorem dX7_letHourPass_20 : decode cX7_letHourPass 20 = .ok (.aload_n 0, 1) := by decide +kernel
theorem dX7_letHourPass_21 : decode cX7_letHourPass 21 = .ok (.aload_n 1, 1) := by decide +kernel
theorem dX7_letHourPass_22 : decode cX7_letHourPass 22 = .ok (.iload_n 2, 1) := by decide +kernel
theorem dX7_letHourPass_23 : decode cX7_letHourPass 23 = .ok (.aload_n 3, 1) := by decide +kernel
theorem dX7_letHourPass_24 : decode cX7_letHourPass 24 = .ok (.getfield 103, 3) := by decide +kernel
theorem dX7_letHourPass_27 : decode cX7_letHourPass 27 = .ok (.invokevirtual 106, 3) := by decide +kernel
theorem dX7_letHourPass_30 : decode cX7_letHourPass 30 = .ok (.iinc 2 1, 3) := by decide +kernel
theorem dX7_letHourPass_33 : decode cX7_letHourPass 33 = .ok (.goto (-31), 3) := by decide +kernel
theorem dX7_letHourPass_36 : decode cX7_letHourPass 36 = .ok (.aload_n 1, 1) := by decide +kernel
theorem dX7_letHourPass_37 : decode cX7_letHourPass 37 = .ok (.invokevirtual 110, 3) := by decide +kernel
theorem dX7_letHourPass_40 : decode cX7_letHourPass 40 = .ok (.istore_n 2, 1) := by decide +kernel
theorem dX7_letHourPass_41 : decode cX7_letHourPass 41 = .ok (.iconst 0, 1) := by decide +kernel
theorem dX7_letHourPass_42 : decode cX7_letHourPass 42 = .ok (.istore_n 3, 1) := by decide +kernel
theorem dX7_letHourPass_43 : decode cX7_letHourPass 43 = .ok (.iload_n 3, 1) := by decide +kernel
theorem dX7_letHourPass_44 : decode cX7_letHourPass 44 = .ok (.aload_n 1, 1) := by decide +kernel
theorem dX7_letHourPass_45 : decode cX7_letHourPass 45 = .ok (.getfield 114, 3) := by decide +kernel
theorem dX7_letHourPass_48 : decode cX7_letHourPass 48 = .ok (.if_icmp .ge 37, 3) := by decide +kernel
theorem dX7_letHourPass_51 : decode cX7_letHourPass 51 = .ok (.aload_n 1, 1) := by decide +kernel
theorem dX7_letHourPass_52 : decode cX7_letHourPass 52 = .ok (.iload_n 3, 1) := by decide +kernel
theorem dX7_letHourPass_53 : decode cX7_letHourPass 53 = .ok (.invokevirtual 22, 3) := by decide +kernel
theorem dX7_letHourPass_56 : decode cX7_letHourPass 56 = .ok (.astore 4, 2) := by decide +kernel
theorem dX7_letHourPass_58 : decode cX7_letHourPass 58 = .ok (.aload 4, 2) := by decide +kernel
theorem dX7_letHourPass_60 : decode cX7_letHourPass 60 = .ok (.ifnull 19, 3) := by decide +kernel
theorem dX7_letHourPass_63 : decode cX7_letHourPass 63 = .ok (.aload 4, 2) := by decide +kernel
theorem dX7_letHourPass_65 : decode cX7_letHourPass 65 = .ok (.iconst 0, 1) := by decide +kernel
theorem dX7_letHourPass_66 : decode cX7_letHourPass 66 = .ok (.aload 4, 2) := by decide +kernel
theorem dX7_letHourPass_68 : decode cX7_letHourPass 68 = .ok (.getfield 54, 3) := by decide +kernel
theorem dX7_letHourPass_71 : decode cX7_letHourPass 71 = .ok (.iload_n 2, 1) := by decide +kernel
theorem dX7_letHourPass_72 : decode cX7_letHourPass 72 = .ok (.isub, 1) := by decide +kernel
theorem dX7_letHourPass_73 : decode cX7_letHourPass 73 = .ok (.invokestatic 117, 3) := by decide +kernel
theorem dX7_letHourPass_76 : decode cX7_letHourPass 76 = .ok (.putfield 54, 3) := by decide +kernel
theorem dX7_letHourPass_79 : decode cX7_letHourPass 79 = .ok (.iinc 3 1, 3) := by decide +kernel
theorem dX7_letHourPass_82 : decode cX7_letHourPass 82 = .ok (.goto (-39), 3) := by decide +kernel
theorem dX7_letHourPass_85 : decode cX7_letHourPass 85 = .ok (.aload_n 1, 1) := by decide +kernel
theorem dX7_letHourPass_86 : decode cX7_letHourPass 86 = .ok (.dup, 1) := by decide +kernel
theorem dX7_letHourPass_87 : decode cX7_letHourPass 87 = .ok (.getfield 43, 3) := by decide +kernel
theorem dX7_letHourPass_90 : decode cX7_letHourPass 90 = .ok (.iconst 1, 1) := by decide +kernel
theorem dX7_letHourPass_91 : decode cX7_letHourPass 91 = .ok (.iadd, 1) := by decide +kernel
theorem dX7_letHourPass_92 : decode cX7_letHourPass 92 = .ok (.putfield 43, 3) := by decide +kernel
theorem dX7_letHourPass_95 : decode cX7_letHourPass 95 = .ok (.return_, 1) := by decide +kernel
theorem dX7_carryOut_0 : decode cX7_carryOut 0 = .ok (.iload_n 2, 1) := by decide +kernel
theorem dX7_carryOut_1 : decode cX7_carryOut 1 = .ok (.ifCond .ne 11, 3) := by decide +kernel
theorem dX7_carryOut_4 : decode cX7_carryOut 4 = .ok (.aload_n 0, 1) := by decide +kernel
theorem dX7_carryOut_5 : decode cX7_carryOut 5 = .ok (.aload_n 1, 1) := by decide +kernel
theorem dX7_carryOut_6 : decode cX7_carryOut 6 = .ok (.invokevirtual 96, 3) := by decide +kernel
theorem dX7_carryOut_9 : decode cX7_carryOut 9 = .ok (.goto 68, 3) := by decide +kernel
theorem dX7_carryOut_12 : decode cX7_carryOut 12 = .ok (.iload_n 2, 1) := by decide +kernel
theorem dX7_carryOut_13 : decode cX7_carryOut 13 = .ok (.iconst 1, 1) := by decide +kernel
theorem dX7_carryOut_14 : decode cX7_carryOut 14 = .ok (.if_icmp .ne 19, 3) := by decide +kernel
theorem dX7_carryOut_17 : decode cX7_carryOut 17 = .ok (.aload_n 0, 1) := by decide +kernel
theorem dX7_carryOut_18 : decode cX7_carryOut 18 = .ok (.aload_n 1, 1) := by decide +kernel
theorem dX7_carryOut_19 : decode cX7_carryOut 19 = .ok (.iload_n 3, 1) := by decide +kernel
theorem dX7_carryOut_20 : decode cX7_carryOut 20 = .ok (.bipush 10, 2) := by decide +kernel
theorem dX7_carryOut_22 : decode cX7_carryOut 22 = .ok (.idiv, 1) := by decide +kernel
theorem dX7_carryOut_23 : decode cX7_carryOut 23 = .ok (.iload_n 3, 1) := by decide +kernel
theorem dX7_carryOut_24 : decode cX7_carryOut 24 = .ok (.bipush 10, 2) := by decide +kernel
theorem dX7_carryOut_26 : decode cX7_carryOut 26 = .ok (.irem, 1) := by decide +kernel
theorem dX7_carryOut_27 : decode cX7_carryOut 27 = .ok (.invokevirtual 106, 3) := by decide +kernel
theorem dX7_carryOut_30 : decode cX7_carryOut 30 = .ok (.goto 47, 3) := by decide +kernel
theorem dX7_carryOut_33 : decode cX7_carryOut 33 = .ok (.iload_n 2, 1) := by decide +kernel
theorem dX7_carryOut_34 : decode cX7_carryOut 34 = .ok (.iconst 2, 1) := by decide +kernel
theorem dX7_carryOut_35 : decode cX7_carryOut 35 = .ok (.if_icmp .ne 24, 3) := by decide +kernel
theorem dX7_carryOut_38 : decode cX7_carryOut 38 = .ok (.aload_n 1, 1) := by decide +kernel
theorem dX7_carryOut_39 : decode cX7_carryOut 39 = .ok (.iload_n 3, 1) := by decide +kernel
theorem dX7_carryOut_40 : decode cX7_carryOut 40 = .ok (.invokevirtual 22, 3) := by decide +kernel
theorem dX7_carryOut_43 : decode cX7_carryOut 43 = .ok (.astore 4, 2) := by decide +kernel
theorem dX7_carryOut_45 : decode cX7_carryOut 45 = .ok (.aload 4, 2) := by decide +kernel
theorem dX7_carryOut_47 : decode cX7_carryOut 47 = .ok (.ifnull 9, 3) := by decide +kernel
theorem dX7_carryOut_50 : decode cX7_carryOut 50 = .ok (.aload 4, 2) := by decide +kernel
theorem dX7_carryOut_52 : decode cX7_carryOut 52 = .ok (.iconst 0, 1) := by decide +kernel
theorem dX7_carryOut_53 : decode cX7_carryOut 53 = .ok (.putfield 54, 3) := by decide +kernel
theorem dX7_carryOut_56 : decode cX7_carryOut 56 = .ok (.goto 21, 3) := by decide +kernel
theorem dX7_carryOut_59 : decode cX7_carryOut 59 = .ok (.aload_n 1, 1) := by decide +kernel
theorem dX7_carryOut_60 : decode cX7_carryOut 60 = .ok (.iload_n 3, 1) := by decide +kernel
theorem dX7_carryOut_61 : decode cX7_carryOut 61 = .ok (.invokevirtual 71, 3) := by decide +kernel
theorem dX7_carryOut_64 : decode cX7_carryOut 64 = .ok (.astore 4, 2) := by decide +kernel
theorem dX7_carryOut_66 : decode cX7_carryOut 66 = .ok (.aload 4, 2) := by decide +kernel
theorem dX7_carryOut_68 : decode cX7_carryOut 68 = .ok (.ifnull 9, 3) := by decide +kernel
theorem dX7_carryOut_71 : decode cX7_carryOut 71 = .ok (.aload 4, 2) := by decide +kernel
theorem dX7_carryOut_73 : decode cX7_carryOut 73 = .ok (.iconst 0, 1) := by decide +kernel
theorem dX7_carryOut_74 : decode cX7_carryOut 74 = .ok (.putfield 75, 3) := by decide +kernel
theorem dX7_carryOut_77 : decode cX7_carryOut 77 = .ok (.return_, 1) := by decide +kernel
theorem dX8_init_0 : decode cX8_init 0 = .ok (.aload_n 0, 1) := by decide +kernel
theorem dX8_init_1 : decode cX8_init 1 = .ok (.invokespecial 3, 3) := by decide +kernel
theorem dX8_init_4 : decode cX8_init 4 = .ok (.aload_n 0, 1) := by decide +kernel
theorem dX8_init_5 : decode cX8_init 5 = .ok (.bipush 60, 2) := by decide +kernel
theorem dX8_init_7 : decode cX8_init 7 = .ok (.newarray .long, 2) := by decide +kernel
theorem dX8_init_9 : decode cX8_init 9 = .ok (.putfield 9, 3) := by decide +kernel
theorem dX8_init_12 : decode cX8_init 12 = .ok (.aload_n 0, 1) := by decide +kernel
theorem dX8_init_13 : decode cX8_init 13 = .ok (.iconst (-1), 1) := by decide +kernel
theorem dX8_init_14 : decode cX8_init 14 = .ok (.putfield 15, 3) := by decide +kernel
theorem dX8_init_17 : decode cX8_init 17 = .ok (.return_, 1) := by decide +kernel
theorem dX8_holds_0 : decode cX8_holds 0 = .ok (.aload_n 0, 1) := by decide +kernel
theorem dX8_holds_1 : decode cX8_holds 1 = .ok (.getfield 15, 3) := by decide +kernel
theorem dX8_holds_4 : decode cX8_holds 4 = .ok (.ifCond .lt 7, 3) := by decide +kernel
theorem dX8_holds_7 : decode cX8_holds 7 = .ok (.iconst 1, 1) := by decide +kernel
theorem dX8_holds_8 : decode cX8_holds 8 = .ok (.goto 4, 3) := by decide +kernel
theorem dX8_holds_11 : decode cX8_holds 11 = .ok (.iconst 0, 1) := by decide +kernel
theorem dX8_holds_12 : decode cX8_holds 12 = .ok (.ireturn, 1) := by decide +kernel
theorem dX8_become_0 : decode cX8_become 0 = .ok (.aload_n 0, 1) := by decide +kernel
theorem dX8_become_1 : decode cX8_become 1 = .ok (.iload_n 1, 1) := by decide +kernel
theorem dX8_become_2 : decode cX8_become 2 = .ok (.putfield 15, 3) := by decide +kernel
theorem dX8_become_5 : decode cX8_become 5 = .ok (.aload_n 0, 1) := by decide +kernel
theorem dX8_become_6 : decode cX8_become 6 = .ok (.iconst 0, 1) := by decide +kernel
theorem dX8_become_7 : decode cX8_become 7 = .ok (.iload_n 2, 1) := by decide +kernel
theorem dX8_become_8 : decode cX8_become 8 = .ok (.bipush 60, 2) := by decide +kernel
theorem dX8_become_10 : decode cX8_become 10 = .ok (.invokestatic 19, 3) := by decide +kernel
theorem dX8_become_13 : decode cX8_become 13 = .ok (.invokestatic 25, 3) := by decide +kernel
theorem dX8_become_16 : decode cX8_become 16 = .ok (.putfield 28, 3) := by decide +kernel
theorem dX8_become_19 : decode cX8_become 19 = .ok (.aload_n 0, 1) := by decide +kernel
theorem dX8_become_20 : decode cX8_become 20 = .ok (.getfield 9, 3) := by decide +kernel
theorem dX8_become_23 : decode cX8_become 23 = .ok (.lconst 0, 1) := by decide +kernel
theorem dX8_become_24 : decode cX8_become 24 = .ok (.invokestatic 31, 3) := by decide +kernel
theorem dX8_become_27 : decode cX8_become 27 = .ok (.return_, 1) := by decide +kernel
theorem dX8_hasPlace_0 : decode cX8_hasPlace 0 = .ok (.iload_n 1, 1) := by decide +kernel
theorem dX8_hasPlace_1 : decode cX8_hasPlace 1 = .ok (.ifCond .lt 15, 3) := by decide +kernel
theorem dX8_hasPlace_4 : decode cX8_hasPlace 4 = .ok (.iload_n 1, 1) := by decide +kernel
theorem dX8_hasPlace_5 : decode cX8_hasPlace 5 = .ok (.aload_n 0, 1) := by decide +kernel
theorem dX8_hasPlace_6 : decode cX8_hasPlace 6 = .ok (.getfield 28, 3) := by decide +kernel
theorem dX8_hasPlace_9 : decode cX8_hasPlace 9 = .ok (.if_icmp .ge 7, 3) := by decide +kernel
theorem dX8_hasPlace_12 : decode cX8_hasPlace 12 = .ok (.iconst 1, 1) := by decide +kernel
theorem dX8_hasPlace_13 : decode cX8_hasPlace 13 = .ok (.goto 4, 3) := by decide +kernel
theorem dX8_hasPlace_16 : decode cX8_hasPlace 16 = .ok (.iconst 0, 1) := by decide +kernel
theorem dX8_hasPlace_17 : decode cX8_hasPlace 17 = .ok (.ireturn, 1) := by decide +kernel
theorem dX8_hasRun_0 : decode cX8_hasRun 0 = .ok (.iload_n 1, 1) := by decide +kernel
theorem dX8_hasRun_1 : decode cX8_hasRun 1 = .ok (.ifCond .lt 29, 3) := by decide +kernel
theorem dX8_hasRun_4 : decode cX8_hasRun 4 = .ok (.iload_n 2, 1) := by decide +kernel
theorem dX8_hasRun_5 : decode cX8_hasRun 5 = .ok (.ifCond .lt 25, 3) := by decide +kernel
theorem dX8_hasRun_8 : decode cX8_hasRun 8 = .ok (.iload_n 1, 1) := by decide +kernel
theorem dX8_hasRun_9 : decode cX8_hasRun 9 = .ok (.aload_n 0, 1) := by decide +kernel
theorem dX8_hasRun_10 : decode cX8_hasRun 10 = .ok (.getfield 28, 3) := by decide +kernel
theorem dX8_hasRun_13 : decode cX8_hasRun 13 = .ok (.if_icmp .gt 17, 3) := by decide +kernel
theorem dX8_hasRun_16 : decode cX8_hasRun 16 = .ok (.iload_n 2, 1) := by decide +kernel
theorem dX8_hasRun_17 : decode cX8_hasRun 17 = .ok (.aload_n 0, 1) := by decide +kernel
theorem dX8_hasRun_18 : decode cX8_hasRun 18 = .ok (.getfield 28, 3) := by decide +kernel
theorem dX8_hasRun_21 : decode cX8_hasRun 21 = .ok (.iload_n 1, 1) := by decide +kernel
theorem dX8_hasRun_22 : decode cX8_hasRun 22 = .ok (.isub, 1) := by decide +kernel
theorem dX8_hasRun_23 : decode cX8_hasRun 23 = .ok (.if_icmp .gt 7, 3) := by decide +kernel
theorem dX8_hasRun_26 : decode cX8_hasRun 26 = .ok (.iconst 1, 1) := by decide +kernel
theorem dX8_hasRun_27 : decode cX8_hasRun 27 = .ok (.goto 4, 3) := by decide +kernel
theorem dX8_hasRun_30 : decode cX8_hasRun 30 = .ok (.iconst 0, 1) := by decide +kernel
theorem dX8_hasRun_31 : decode cX8_hasRun 31 = .ok (.ireturn, 1) := by decide +kernel
theorem dX8_get_0 : decode cX8_get 0 = .ok (.aload_n 0, 1) := by decide +kernel
theorem dX8_get_1 : decode cX8_get 1 = .ok (.iload_n 1, 1) := by decide +kernel
theorem dX8_get_2 : decode cX8_get 2 = .ok (.invokevirtual 37, 3) := by decide +kernel
theorem dX8_get_5 : decode cX8_get 5 = .ok (.ifCond .eq 12, 3) := by decide +kernel
theorem dX8_get_8 : decode cX8_get 8 = .ok (.aload_n 0, 1) := by decide +kernel
theorem dX8_get_9 : decode cX8_get 9 = .ok (.getfield 9, 3) := by decide +kernel
theorem dX8_get_12 : decode cX8_get 12 = .ok (.iload_n 1, 1) := by decide +kernel
theorem dX8_get_13 : decode cX8_get 13 = .ok (.laload, 1) := by decide +kernel
theorem dX8_get_14 : decode cX8_get 14 = .ok (.goto 4, 3) := by decide +kernel
theorem dX8_get_17 : decode cX8_get 17 = .ok (.lconst 0, 1) := by decide +kernel
theorem dX8_get_18 : decode cX8_get 18 = .ok (.lreturn, 1) := by decide +kernel
theorem dX8_put_0 : decode cX8_put 0 = .ok (.aload_n 0, 1) := by decide +kernel
theorem dX8_put_1 : decode cX8_put 1 = .ok (.iload_n 1, 1) := by decide +kernel
theorem dX8_put_2 : decode cX8_put 2 = .ok (.invokevirtual 37, 3) := by decide +kernel
theorem dX8_put_5 : decode cX8_put 5 = .ok (.ifCond .eq 14, 3) := by decide +kernel
theorem dX8_put_8 : decode cX8_put 8 = .ok (.aload_n 0, 1) := by decide +kernel
theorem dX8_put_9 : decode cX8_put 9 = .ok (.getfield 9, 3) := by decide +kernel
theorem dX8_put_12 : decode cX8_put 12 = .ok (.iload_n 1, 1) := by decide +kernel
theorem dX8_put_13 : decode cX8_put 13 = .ok (.aload_n 0, 1) := by decide +kernel
theorem dX8_put_14 : decode cX8_put 14 = .ok (.lload_n 2, 1) := by decide +kernel
theorem dX8_put_15 : decode cX8_put 15 = .ok (.invokevirtual 41, 3) := by decide +kernel
theorem dX8_put_18 : decode cX8_put 18 = .ok (.lastore, 1) := by decide +kernel
theorem dX8_put_19 : decode cX8_put 19 = .ok (.return_, 1) := by decide +kernel
theorem dX8_cut_0 : decode cX8_cut 0 = .ok (.aload_n 0, 1) := by decide +kernel
theorem dX8_cut_1 : decode cX8_cut 1 = .ok (.getfield 15, 3) := by decide +kernel
theorem dX8_cut_4 : decode cX8_cut 4 = .ok (.tableswitch 48 0 3 #[32, 37, 42, 46], 32) := by decide +kernel
theorem dX8_cut_36 : decode cX8_cut 36 = .ok (.lload_n 1, 1) := by decide +kernel
theorem dX8_cut_37 : decode cX8_cut 37 = .ok (.l2i, 1) := by decide +kernel
theorem dX8_cut_38 : decode cX8_cut 38 = .ok (.i2b, 1) := by decide +kernel
theorem dX8_cut_39 : decode cX8_cut 39 = .ok (.i2l, 1) := by decide +kernel
theorem dX8_cut_40 : decode cX8_cut 40 = .ok (.lreturn, 1) := by decide +kernel
theorem dX8_cut_41 : decode cX8_cut 41 = .ok (.lload_n 1, 1) := by decide +kernel
theorem dX8_cut_42 : decode cX8_cut 42 = .ok (.l2i, 1) := by decide +kernel
theorem dX8_cut_43 : decode cX8_cut 43 = .ok (.i2s, 1) := by decide +kernel
theorem dX8_cut_44 : decode cX8_cut 44 = .ok (.i2l, 1) := by decide +kernel
theorem dX8_cut_45 : decode cX8_cut 45 = .ok (.lreturn, 1) := by decide +kernel
theorem dX8_cut_46 : decode cX8_cut 46 = .ok (.lload_n 1, 1) := by decide +kernel
theorem dX8_cut_47 : decode cX8_cut 47 = .ok (.l2i, 1) := by decide +kernel
theorem dX8_cut_48 : decode cX8_cut 48 = .ok (.i2l, 1) := by decide +kernel
theorem dX8_cut_49 : decode cX8_cut 49 = .ok (.lreturn, 1) := by decide +kernel
theorem dX8_cut_50 : decode cX8_cut 50 = .ok (.lload_n 1, 1) := by decide +kernel
theorem dX8_cut_51 : decode cX8_cut 51 = .ok (.lreturn, 1) := by decide +kernel
theorem dX8_cut_52 : decode cX8_cut 52 = .ok (.lload_n 1, 1) := by decide +kernel
theorem dX8_cut_53 : decode cX8_cut 53 = .ok (.lconst 0, 1) := by decide +kernel
theorem dX8_cut_54 : decode cX8_cut 54 = .ok (.lcmp, 1) := by decide +kernel
theorem dX8_cut_55 : decode cX8_cut 55 = .ok (.ifCond .eq 7, 3) := by decide +kernel
theorem dX8_cut_58 : decode cX8_cut 58 = .ok (.lconst 1, 1) := by decide +kernel
theorem dX8_cut_59 : decode cX8_cut 59 = .ok (.goto 4, 3) := by decide +kernel
theorem dX8_cut_62 : decode cX8_cut 62 = .ok (.lconst 0, 1) := by decide +kernel
theorem dX8_cut_63 : decode cX8_cut 63 = .ok (.lreturn, 1) := by decide +kernel
theorem dX9_init_0 : decode cX9_init 0 = .ok (.aload_n 0, 1) := by decide +kernel
theorem dX9_init_1 : decode cX9_init 1 = .ok (.invokespecial 3, 3) := by decide +kernel
theorem dX9_init_4 : decode cX9_init 4 = .ok (.aload_n 0, 1) := by decide +kernel
theorem dX9_init_5 : decode cX9_init 5 = .ok (.bipush 6, 2) := by decide +kernel
theorem dX9_init_7 : decode cX9_init 7 = .ok (.anewarray 9, 3) := by decide +kernel
theorem dX9_init_10 : decode cX9_init 10 = .ok (.putfield 11, 3) := by decide +kernel
theorem dX9_init_13 : decode cX9_init 13 = .ok (.aload_n 0, 1) := by decide +kernel
theorem dX9_init_14 : decode cX9_init 14 = .ok (.bipush 6, 2) := by decide +kernel
theorem dX9_init_16 : decode cX9_init 16 = .ok (.anewarray 17, 3) := by decide +kernel
theorem dX9_init_19 : decode cX9_init 19 = .ok (.putfield 19, 3) := by decide +kernel
theorem dX9_init_22 : decode cX9_init 22 = .ok (.aload_n 0, 1) := by decide +kernel
theorem dX9_init_23 : decode cX9_init 23 = .ok (.new 23, 3) := by decide +kernel
theorem dX9_init_26 : decode cX9_init 26 = .ok (.dup, 1) := by decide +kernel
theorem dX9_init_27 : decode cX9_init 27 = .ok (.iconst 5, 1) := by decide +kernel
theorem dX9_init_28 : decode cX9_init 28 = .ok (.invokespecial 25, 3) := by decide +kernel
theorem dX9_init_31 : decode cX9_init 31 = .ok (.putfield 28, 3) := by decide +kernel
theorem dX9_init_34 : decode cX9_init 34 = .ok (.aload_n 0, 1) := by decide +kernel
theorem dX9_init_35 : decode cX9_init 35 = .ok (.new 23, 3) := by decide +kernel
theorem dX9_init_38 : decode cX9_init 38 = .ok (.dup, 1) := by decide +kernel
theorem dX9_init_39 : decode cX9_init 39 = .ok (.bipush 10, 2) := by decide +kernel
theorem dX9_init_41 : decode cX9_init 41 = .ok (.invokespecial 25, 3) := by decide +kernel
theorem dX9_init_44 : decode cX9_init 44 = .ok (.putfield 32, 3) := by decide +kernel
theorem dX9_init_47 : decode cX9_init 47 = .ok (.aload_n 0, 1) := by decide +kernel
theorem dX9_init_48 : decode cX9_init 48 = .ok (.new 23, 3) := by decide +kernel
theorem dX9_init_51 : decode cX9_init 51 = .ok (.dup, 1) := by decide +kernel
theorem dX9_init_52 : decode cX9_init 52 = .ok (.bipush 8, 2) := by decide +kernel
theorem dX9_init_54 : decode cX9_init 54 = .ok (.invokespecial 25, 3) := by decide +kernel
theorem dX9_init_57 : decode cX9_init 57 = .ok (.putfield 35, 3) := by decide +kernel
theorem dX9_init_60 : decode cX9_init 60 = .ok (.iconst 0, 1) := by decide +kernel
theorem dX9_init_61 : decode cX9_init 61 = .ok (.istore_n 1, 1) := by decide +kernel
theorem dX9_init_62 : decode cX9_init 62 = .ok (.iload_n 1, 1) := by decide +kernel
theorem dX9_init_63 : decode cX9_init 63 = .ok (.bipush 6, 2) := by decide +kernel
theorem dX9_init_65 : decode cX9_init 65 = .ok (.if_icmp .ge 35, 3) := by decide +kernel
theorem dX9_init_68 : decode cX9_init 68 = .ok (.aload_n 0, 1) := by decide +kernel
theorem dX9_init_69 : decode cX9_init 69 = .ok (.getfield 11, 3) := by decide +kernel
theorem dX9_init_72 : decode cX9_init 72 = .ok (.iload_n 1, 1) := by decide +kernel
theorem dX9_init_73 : decode cX9_init 73 = .ok (.new 9, 3) := by decide +kernel
theorem dX9_init_76 : decode cX9_init 76 = .ok (.dup, 1) := by decide +kernel
theorem dX9_init_77 : decode cX9_init 77 = .ok (.invokespecial 38, 3) := by decide +kernel
theorem dX9_init_80 : decode cX9_init 80 = .ok (.aastore, 1) := by decide +kernel
theorem dX9_init_81 : decode cX9_init 81 = .ok (.aload_n 0, 1) := by decide +kernel
theorem dX9_init_82 : decode cX9_init 82 = .ok (.getfield 19, 3) := by decide +kernel
theorem dX9_init_85 : decode cX9_init 85 = .ok (.iload_n 1, 1) := by decide +kernel
theorem dX9_init_86 : decode cX9_init 86 = .ok (.new 17, 3) := by decide +kernel
theorem dX9_init_89 : decode cX9_init 89 = .ok (.dup, 1) := by decide +kernel
theorem dX9_init_90 : decode cX9_init 90 = .ok (.invokespecial 39, 3) := by decide +kernel
theorem dX9_init_93 : decode cX9_init 93 = .ok (.aastore, 1) := by decide +kernel
theorem dX9_init_94 : decode cX9_init 94 = .ok (.iinc 1 1, 3) := by decide +kernel
theorem dX9_init_97 : decode cX9_init 97 = .ok (.goto (-35), 3) := by decide +kernel
theorem dX9_init_100 : decode cX9_init 100 = .ok (.return_, 1) := by decide +kernel
theorem dX9_guardAt_0 : decode cX9_guardAt 0 = .ok (.iload_n 1, 1) := by decide +kernel
theorem dX9_guardAt_1 : decode cX9_guardAt 1 = .ok (.ifCond .lt 20, 3) := by decide +kernel
theorem dX9_guardAt_4 : decode cX9_guardAt 4 = .ok (.iload_n 1, 1) := by decide +kernel
theorem dX9_guardAt_5 : decode cX9_guardAt 5 = .ok (.aload_n 0, 1) := by decide +kernel
theorem dX9_guardAt_6 : decode cX9_guardAt 6 = .ok (.getfield 40, 3) := by decide +kernel
theorem dX9_guardAt_9 : decode cX9_guardAt 9 = .ok (.if_icmp .ge 12, 3) := by decide +kernel
theorem dX9_guardAt_12 : decode cX9_guardAt 12 = .ok (.iload_n 1, 1) := by decide +kernel
theorem dX9_guardAt_13 : decode cX9_guardAt 13 = .ok (.aload_n 0, 1) := by decide +kernel
theorem dX9_guardAt_14 : decode cX9_guardAt 14 = .ok (.getfield 11, 3) := by decide +kernel
theorem dX9_guardAt_17 : decode cX9_guardAt 17 = .ok (.arraylength, 1) := by decide +kernel
theorem dX9_guardAt_18 : decode cX9_guardAt 18 = .ok (.if_icmp .lt 7, 3) := by decide +kernel
theorem dX9_guardAt_21 : decode cX9_guardAt 21 = .ok (.aconst_null, 1) := by decide +kernel
theorem dX9_guardAt_22 : decode cX9_guardAt 22 = .ok (.goto 9, 3) := by decide +kernel
theorem dX9_guardAt_25 : decode cX9_guardAt 25 = .ok (.aload_n 0, 1) := by decide +kernel
theorem dX9_guardAt_26 : decode cX9_guardAt 26 = .ok (.getfield 11, 3) := by decide +kernel
theorem dX9_guardAt_29 : decode cX9_guardAt 29 = .ok (.iload_n 1, 1) := by decide +kernel
theorem dX9_guardAt_30 : decode cX9_guardAt 30 = .ok (.aaload, 1) := by decide +kernel
theorem dX9_guardAt_31 : decode cX9_guardAt 31 = .ok (.areturn, 1) := by decide +kernel
theorem dX9_questionAt_0 : decode cX9_questionAt 0 = .ok (.iload_n 1, 1) := by decide +kernel
theorem dX9_questionAt_1 : decode cX9_questionAt 1 = .ok (.ifCond .lt 20, 3) := by decide +kernel
theorem dX9_questionAt_4 : decode cX9_questionAt 4 = .ok (.iload_n 1, 1) := by decide +kernel
theorem dX9_questionAt_5 : decode cX9_questionAt 5 = .ok (.aload_n 0, 1) := by decide +kernel
theorem dX9_questionAt_6 : decode cX9_questionAt 6 = .ok (.getfield 44, 3) := by decide +kernel
theorem dX9_questionAt_9 : decode cX9_questionAt 9 = .ok (.if_icmp .ge 12, 3) := by decide +kernel
theorem dX9_questionAt_12 : decode cX9_questionAt 12 = .ok (.iload_n 1, 1) := by decide +kernel
theorem dX9_questionAt_13 : decode cX9_questionAt 13 = .ok (.aload_n 0, 1) := by decide +kernel
theorem dX9_questionAt_14 : decode cX9_questionAt 14 = .ok (.getfield 19, 3) := by decide +kernel
theorem dX9_questionAt_17 : decode cX9_questionAt 17 = .ok (.arraylength, 1) := by decide +kernel
theorem dX9_questionAt_18 : decode cX9_questionAt 18 = .ok (.if_icmp .lt 7, 3) := by decide +kernel
theorem dX9_questionAt_21 : decode cX9_questionAt 21 = .ok (.aconst_null, 1) := by decide +kernel
theorem dX9_questionAt_22 : decode cX9_questionAt 22 = .ok (.goto 9, 3) := by decide +kernel
theorem dX9_questionAt_25 : decode cX9_questionAt 25 = .ok (.aload_n 0, 1) := by decide +kernel
theorem dX9_questionAt_26 : decode cX9_questionAt 26 = .ok (.getfield 19, 3) := by decide +kernel
theorem dX9_questionAt_29 : decode cX9_questionAt 29 = .ok (.iload_n 1, 1) := by decide +kernel
theorem dX9_questionAt_30 : decode cX9_questionAt 30 = .ok (.aaload, 1) := by decide +kernel
theorem dX9_questionAt_31 : decode cX9_questionAt 31 = .ok (.areturn, 1) := by decide +kernel
theorem dX9_addGuard_0 : decode cX9_addGuard 0 = .ok (.aload_n 0, 1) := by decide +kernel
theorem dX9_addGuard_1 : decode cX9_addGuard 1 = .ok (.getfield 40, 3) := by decide +kernel
theorem dX9_addGuard_4 : decode cX9_addGuard 4 = .ok (.aload_n 0, 1) := by decide +kernel
theorem dX9_addGuard_5 : decode cX9_addGuard 5 = .ok (.getfield 11, 3) := by decide +kernel
theorem dX9_addGuard_8 : decode cX9_addGuard 8 = .ok (.arraylength, 1) := by decide +kernel
theorem dX9_addGuard_9 : decode cX9_addGuard 9 = .ok (.if_icmp .lt 6, 3) := by decide +kernel
theorem dX9_addGuard_12 : decode cX9_addGuard 12 = .ok (.bipush (-4), 2) := by decide +kernel
theorem dX9_addGuard_14 : decode cX9_addGuard 14 = .ok (.ireturn, 1) := by decide +kernel
theorem dX9_addGuard_15 : decode cX9_addGuard 15 = .ok (.aload_n 0, 1) := by decide +kernel
theorem dX9_addGuard_16 : decode cX9_addGuard 16 = .ok (.getfield 11, 3) := by decide +kernel
theorem dX9_addGuard_19 : decode cX9_addGuard 19 = .ok (.aload_n 0, 1) := by decide +kernel
theorem dX9_addGuard_20 : decode cX9_addGuard 20 = .ok (.getfield 40, 3) := by decide +kernel
theorem dX9_addGuard_23 : decode cX9_addGuard 23 = .ok (.aaload, 1) := by decide +kernel
theorem dX9_addGuard_24 : decode cX9_addGuard 24 = .ok (.iload_n 1, 1) := by decide +kernel
theorem dX9_addGuard_25 : decode cX9_addGuard 25 = .ok (.iload_n 2, 1) := by decide +kernel
theorem dX9_addGuard_26 : decode cX9_addGuard 26 = .ok (.iload_n 3, 1) := by decide +kernel
theorem dX9_addGuard_27 : decode cX9_addGuard 27 = .ok (.invokevirtual 47, 3) := by decide +kernel
theorem dX9_addGuard_30 : decode cX9_addGuard 30 = .ok (.aload_n 0, 1) := by decide +kernel
theorem dX9_addGuard_31 : decode cX9_addGuard 31 = .ok (.dup, 1) := by decide +kernel
theorem dX9_addGuard_32 : decode cX9_addGuard 32 = .ok (.getfield 40, 3) := by decide +kernel
theorem dX9_addGuard_35 : decode cX9_addGuard 35 = .ok (.iconst 1, 1) := by decide +kernel
theorem dX9_addGuard_36 : decode cX9_addGuard 36 = .ok (.iadd, 1) := by decide +kernel
theorem dX9_addGuard_37 : decode cX9_addGuard 37 = .ok (.putfield 40, 3) := by decide +kernel
theorem dX9_addGuard_40 : decode cX9_addGuard 40 = .ok (.aload_n 0, 1) := by decide +kernel
theorem dX9_addGuard_41 : decode cX9_addGuard 41 = .ok (.getfield 40, 3) := by decide +kernel
theorem dX9_addGuard_44 : decode cX9_addGuard 44 = .ok (.iconst 1, 1) := by decide +kernel
theorem dX9_addGuard_45 : decode cX9_addGuard 45 = .ok (.isub, 1) := by decide +kernel
theorem dX9_addGuard_46 : decode cX9_addGuard 46 = .ok (.ireturn, 1) := by decide +kernel
theorem dX9_addQuestion_0 : decode cX9_addQuestion 0 = .ok (.aload_n 0, 1) := by decide +kernel
theorem dX9_addQuestion_1 : decode cX9_addQuestion 1 = .ok (.getfield 44, 3) := by decide +kernel
theorem dX9_addQuestion_4 : decode cX9_addQuestion 4 = .ok (.aload_n 0, 1) := by decide +kernel
theorem dX9_addQuestion_5 : decode cX9_addQuestion 5 = .ok (.getfield 19, 3) := by decide +kernel
theorem dX9_addQuestion_8 : decode cX9_addQuestion 8 = .ok (.arraylength, 1) := by decide +kernel
theorem dX9_addQuestion_9 : decode cX9_addQuestion 9 = .ok (.if_icmp .lt 6, 3) := by decide +kernel
theorem dX9_addQuestion_12 : decode cX9_addQuestion 12 = .ok (.bipush (-4), 2) := by decide +kernel
theorem dX9_addQuestion_14 : decode cX9_addQuestion 14 = .ok (.ireturn, 1) := by decide +kernel
theorem dX9_addQuestion_15 : decode cX9_addQuestion 15 = .ok (.aload_n 0, 1) := by decide +kernel
theorem dX9_addQuestion_16 : decode cX9_addQuestion 16 = .ok (.getfield 19, 3) := by decide +kernel
theorem dX9_addQuestion_19 : decode cX9_addQuestion 19 = .ok (.aload_n 0, 1) := by decide +kernel
theorem dX9_addQuestion_20 : decode cX9_addQuestion 20 = .ok (.getfield 44, 3) := by decide +kernel
theorem dX9_addQuestion_23 : decode cX9_addQuestion 23 = .ok (.aaload, 1) := by decide +kernel
theorem dX9_addQuestion_24 : decode cX9_addQuestion 24 = .ok (.iload_n 1, 1) := by decide +kernel
theorem dX9_addQuestion_25 : decode cX9_addQuestion 25 = .ok (.iload_n 2, 1) := by decide +kernel
theorem dX9_addQuestion_26 : decode cX9_addQuestion 26 = .ok (.invokevirtual 51, 3) := by decide +kernel
theorem dX9_addQuestion_29 : decode cX9_addQuestion 29 = .ok (.aload_n 0, 1) := by decide +kernel
theorem dX9_addQuestion_30 : decode cX9_addQuestion 30 = .ok (.dup, 1) := by decide +kernel
theorem dX9_addQuestion_31 : decode cX9_addQuestion 31 = .ok (.getfield 44, 3) := by decide +kernel
theorem dX9_addQuestion_34 : decode cX9_addQuestion 34 = .ok (.iconst 1, 1) := by decide +kernel
theorem dX9_addQuestion_35 : decode cX9_addQuestion 35 = .ok (.iadd, 1) := by decide +kernel
theorem dX9_addQuestion_36 : decode cX9_addQuestion 36 = .ok (.putfield 44, 3) := by decide +kernel
theorem dX9_addQuestion_39 : decode cX9_addQuestion 39 = .ok (.aload_n 0, 1) := by decide +kernel
theorem dX9_addQuestion_40 : decode cX9_addQuestion 40 = .ok (.getfield 44, 3) := by decide +kernel
theorem dX9_addQuestion_43 : decode cX9_addQuestion 43 = .ok (.iconst 1, 1) := by decide +kernel
theorem dX9_addQuestion_44 : decode cX9_addQuestion 44 = .ok (.isub, 1) := by decide +kernel
theorem dX9_addQuestion_45 : decode cX9_addQuestion 45 = .ok (.ireturn, 1) := by decide +kernel
theorem dX9_copy_0 : decode cX9_copy 0 = .ok (.iconst 0, 1) := by decide +kernel
theorem dX9_copy_1 : decode cX9_copy 1 = .ok (.istore_n 2, 1) := by decide +kernel
theorem dX9_copy_2 : decode cX9_copy 2 = .ok (.iload_n 2, 1) := by decide +kernel
theorem dX9_copy_3 : decode cX9_copy 3 = .ok (.bipush 6, 2) := by decide +kernel
theorem dX9_copy_5 : decode cX9_copy 5 = .ok (.if_icmp .ge 39, 3) := by decide +kernel
theorem dX9_copy_8 : decode cX9_copy 8 = .ok (.aload_n 0, 1) := by decide +kernel
theorem dX9_copy_9 : decode cX9_copy 9 = .ok (.getfield 11, 3) := by decide +kernel
theorem dX9_copy_12 : decode cX9_copy 12 = .ok (.iload_n 2, 1) := by decide +kernel
theorem dX9_copy_13 : decode cX9_copy 13 = .ok (.aaload, 1) := by decide +kernel
theorem dX9_copy_14 : decode cX9_copy 14 = .ok (.aload_n 1, 1) := by decide +kernel
theorem dX9_copy_15 : decode cX9_copy 15 = .ok (.getfield 11, 3) := by decide +kernel
theorem dX9_copy_18 : decode cX9_copy 18 = .ok (.iload_n 2, 1) := by decide +kernel
theorem dX9_copy_19 : decode cX9_copy 19 = .ok (.aaload, 1) := by decide +kernel
theorem dX9_copy_20 : decode cX9_copy 20 = .ok (.invokevirtual 54, 3) := by decide +kernel
theorem dX9_copy_23 : decode cX9_copy 23 = .ok (.aload_n 0, 1) := by decide +kernel
theorem dX9_copy_24 : decode cX9_copy 24 = .ok (.getfield 19, 3) := by decide +kernel
theorem dX9_copy_27 : decode cX9_copy 27 = .ok (.iload_n 2, 1) := by decide +kernel
theorem dX9_copy_28 : decode cX9_copy 28 = .ok (.aaload, 1) := by decide +kernel
theorem dX9_copy_29 : decode cX9_copy 29 = .ok (.aload_n 1, 1) := by decide +kernel
theorem dX9_copy_30 : decode cX9_copy 30 = .ok (.getfield 19, 3) := by decide +kernel
theorem dX9_copy_33 : decode cX9_copy 33 = .ok (.iload_n 2, 1) := by decide +kernel
theorem dX9_copy_34 : decode cX9_copy 34 = .ok (.aaload, 1) := by decide +kernel
theorem dX9_copy_35 : decode cX9_copy 35 = .ok (.invokevirtual 58, 3) := by decide +kernel
theorem dX9_copy_38 : decode cX9_copy 38 = .ok (.iinc 2 1, 3) := by decide +kernel
theorem dX9_copy_41 : decode cX9_copy 41 = .ok (.goto (-39), 3) := by decide +kernel
theorem dX9_copy_44 : decode cX9_copy 44 = .ok (.aload_n 0, 1) := by decide +kernel
theorem dX9_copy_45 : decode cX9_copy 45 = .ok (.aload_n 1, 1) := by decide +kernel
theorem dX9_copy_46 : decode cX9_copy 46 = .ok (.getfield 40, 3) := by decide +kernel
theorem dX9_copy_49 : decode cX9_copy 49 = .ok (.putfield 40, 3) := by decide +kernel
theorem dX9_copy_52 : decode cX9_copy 52 = .ok (.aload_n 0, 1) := by decide +kernel
theorem dX9_copy_53 : decode cX9_copy 53 = .ok (.aload_n 1, 1) := by decide +kernel
theorem dX9_copy_54 : decode cX9_copy 54 = .ok (.getfield 44, 3) := by decide +kernel
theorem dX9_copy_57 : decode cX9_copy 57 = .ok (.putfield 44, 3) := by decide +kernel
theorem dX9_copy_60 : decode cX9_copy 60 = .ok (.aload_n 0, 1) := by decide +kernel
theorem dX9_copy_61 : decode cX9_copy 61 = .ok (.aload_n 1, 1) := by decide +kernel
theorem dX9_copy_62 : decode cX9_copy 62 = .ok (.getfield 61, 3) := by decide +kernel
theorem dX9_copy_65 : decode cX9_copy 65 = .ok (.putfield 61, 3) := by decide +kernel
theorem dX9_copy_68 : decode cX9_copy 68 = .ok (.aload_n 0, 1) := by decide +kernel
theorem dX9_copy_69 : decode cX9_copy 69 = .ok (.aload_n 1, 1) := by decide +kernel
theorem dX9_copy_70 : decode cX9_copy 70 = .ok (.getfield 64, 3) := by decide +kernel
theorem dX9_copy_73 : decode cX9_copy 73 = .ok (.putfield 64, 3) := by decide +kernel
theorem dX9_copy_76 : decode cX9_copy 76 = .ok (.aload_n 0, 1) := by decide +kernel
theorem dX9_copy_77 : decode cX9_copy 77 = .ok (.getfield 28, 3) := by decide +kernel
theorem dX9_copy_80 : decode cX9_copy 80 = .ok (.aload_n 1, 1) := by decide +kernel
theorem dX9_copy_81 : decode cX9_copy 81 = .ok (.getfield 28, 3) := by decide +kernel
theorem dX9_copy_84 : decode cX9_copy 84 = .ok (.invokevirtual 68, 3) := by decide +kernel
theorem dX9_copy_87 : decode cX9_copy 87 = .ok (.aload_n 0, 1) := by decide +kernel
theorem dX9_copy_88 : decode cX9_copy 88 = .ok (.getfield 32, 3) := by decide +kernel
theorem dX9_copy_91 : decode cX9_copy 91 = .ok (.aload_n 1, 1) := by decide +kernel
theorem dX9_copy_92 : decode cX9_copy 92 = .ok (.getfield 32, 3) := by decide +kernel
theorem dX9_copy_95 : decode cX9_copy 95 = .ok (.invokevirtual 68, 3) := by decide +kernel
theorem dX9_copy_98 : decode cX9_copy 98 = .ok (.aload_n 0, 1) := by decide +kernel
theorem dX9_copy_99 : decode cX9_copy 99 = .ok (.getfield 35, 3) := by decide +kernel
theorem dX9_copy_102 : decode cX9_copy 102 = .ok (.aload_n 1, 1) := by decide +kernel
theorem dX9_copy_103 : decode cX9_copy 103 = .ok (.getfield 35, 3) := by decide +kernel
theorem dX9_copy_106 : decode cX9_copy 106 = .ok (.invokevirtual 68, 3) := by decide +kernel
theorem dX9_copy_109 : decode cX9_copy 109 = .ok (.return_, 1) := by decide +kernel
theorem dX9_rest_0 : decode cX9_rest 0 = .ok (.aload_n 0, 1) := by decide +kernel
theorem dX9_rest_1 : decode cX9_rest 1 = .ok (.getfield 64, 3) := by decide +kernel
theorem dX9_rest_4 : decode cX9_rest 4 = .ok (.ifnonnull 7, 3) := by decide +kernel
theorem dX9_rest_7 : decode cX9_rest 7 = .ok (.iconst 5, 1) := by decide +kernel
theorem dX9_rest_8 : decode cX9_rest 8 = .ok (.goto 10, 3) := by decide +kernel
theorem dX9_rest_11 : decode cX9_rest 11 = .ok (.aload_n 0, 1) := by decide +kernel
theorem dX9_rest_12 : decode cX9_rest 12 = .ok (.getfield 64, 3) := by decide +kernel
theorem dX9_rest_15 : decode cX9_rest 15 = .ok (.getfield 71, 3) := by decide +kernel
theorem dX9_rest_18 : decode cX9_rest 18 = .ok (.ireturn, 1) := by decide +kernel
theorem dX9_isWaiting_0 : decode cX9_isWaiting 0 = .ok (.aload_n 0, 1) := by decide +kernel
theorem dX9_isWaiting_1 : decode cX9_isWaiting 1 = .ok (.iload_n 1, 1) := by decide +kernel
theorem dX9_isWaiting_2 : decode cX9_isWaiting 2 = .ok (.invokevirtual 76, 3) := by decide +kernel
theorem dX9_isWaiting_5 : decode cX9_isWaiting 5 = .ok (.astore_n 2, 1) := by decide +kernel
theorem dX9_isWaiting_6 : decode cX9_isWaiting 6 = .ok (.aload_n 2, 1) := by decide +kernel
theorem dX9_isWaiting_7 : decode cX9_isWaiting 7 = .ok (.ifnull 14, 3) := by decide +kernel
theorem dX9_isWaiting_10 : decode cX9_isWaiting 10 = .ok (.aload_n 2, 1) := by decide +kernel
theorem dX9_isWaiting_11 : decode cX9_isWaiting 11 = .ok (.getfield 80, 3) := by decide +kernel
theorem dX9_isWaiting_14 : decode cX9_isWaiting 14 = .ok (.ifCond .ne 7, 3) := by decide +kernel
theorem dX9_isWaiting_17 : decode cX9_isWaiting 17 = .ok (.iconst 1, 1) := by decide +kernel
theorem dX9_isWaiting_18 : decode cX9_isWaiting 18 = .ok (.goto 4, 3) := by decide +kernel
theorem dX9_isWaiting_21 : decode cX9_isWaiting 21 = .ok (.iconst 0, 1) := by decide +kernel
theorem dX9_isWaiting_22 : decode cX9_isWaiting 22 = .ok (.ireturn, 1) := by decide +kernel
theorem dX9_goodsThrough_0 : decode cX9_goodsThrough 0 = .ok (.iconst 0, 1) := by decide +kernel
theorem dX9_goodsThrough_1 : decode cX9_goodsThrough 1 = .ok (.istore_n 1, 1) := by decide +kernel
theorem dX9_goodsThrough_2 : decode cX9_goodsThrough 2 = .ok (.iconst 0, 1) := by decide +kernel
theorem dX9_goodsThrough_3 : decode cX9_goodsThrough 3 = .ok (.istore_n 2, 1) := by decide +kernel
theorem dX9_goodsThrough_4 : decode cX9_goodsThrough 4 = .ok (.iload_n 2, 1) := by decide +kernel
theorem dX9_goodsThrough_5 : decode cX9_goodsThrough 5 = .ok (.aload_n 0, 1) := by decide +kernel
theorem dX9_goodsThrough_6 : decode cX9_goodsThrough 6 = .ok (.getfield 44, 3) := by decide +kernel
theorem dX9_goodsThrough_9 : decode cX9_goodsThrough 9 = .ok (.if_icmp .ge 38, 3) := by decide +kernel
theorem dX9_goodsThrough_12 : decode cX9_goodsThrough 12 = .ok (.aload_n 0, 1) := by decide +kernel
theorem dX9_goodsThrough_13 : decode cX9_goodsThrough 13 = .ok (.iload_n 2, 1) := by decide +kernel
theorem dX9_goodsThrough_14 : decode cX9_goodsThrough 14 = .ok (.invokevirtual 76, 3) := by decide +kernel
theorem dX9_goodsThrough_17 : decode cX9_goodsThrough 17 = .ok (.astore_n 3, 1) := by decide +kernel
theorem dX9_goodsThrough_18 : decode cX9_goodsThrough 18 = .ok (.iload_n 1, 1) := by decide +kernel
theorem dX9_goodsThrough_19 : decode cX9_goodsThrough 19 = .ok (.aload_n 3, 1) := by decide +kernel
theorem dX9_goodsThrough_20 : decode cX9_goodsThrough 20 = .ok (.ifnull 18, 3) := by decide +kernel
theorem dX9_goodsThrough_23 : decode cX9_goodsThrough 23 = .ok (.aload_n 3, 1) := by decide +kernel
theorem dX9_goodsThrough_24 : decode cX9_goodsThrough 24 = .ok (.getfield 80, 3) := by decide +kernel
theorem dX9_goodsThrough_27 : decode cX9_goodsThrough 27 = .ok (.iconst 1, 1) := by decide +kernel
theorem dX9_goodsThrough_28 : decode cX9_goodsThrough 28 = .ok (.if_icmp .ne 10, 3) := by decide +kernel
theorem dX9_goodsThrough_31 : decode cX9_goodsThrough 31 = .ok (.aload_n 3, 1) := by decide +kernel
theorem dX9_goodsThrough_32 : decode cX9_goodsThrough 32 = .ok (.getfield 83, 3) := by decide +kernel
theorem dX9_goodsThrough_35 : decode cX9_goodsThrough 35 = .ok (.goto 4, 3) := by decide +kernel
theorem dX9_goodsThrough_38 : decode cX9_goodsThrough 38 = .ok (.iconst 0, 1) := by decide +kernel
theorem dX9_goodsThrough_39 : decode cX9_goodsThrough 39 = .ok (.iadd, 1) := by decide +kernel
theorem dX9_goodsThrough_40 : decode cX9_goodsThrough 40 = .ok (.istore_n 1, 1) := by decide +kernel
theorem dX9_goodsThrough_41 : decode cX9_goodsThrough 41 = .ok (.iinc 2 1, 3) := by decide +kernel
theorem dX9_goodsThrough_44 : decode cX9_goodsThrough 44 = .ok (.goto (-40), 3) := by decide +kernel
theorem dX9_goodsThrough_47 : decode cX9_goodsThrough 47 = .ok (.iload_n 1, 1) := by decide +kernel
theorem dX9_goodsThrough_48 : decode cX9_goodsThrough 48 = .ok (.ireturn, 1) := by decide +kernel
theorem dX9_finedCount_0 : decode cX9_finedCount 0 = .ok (.iconst 0, 1) := by decide +kernel
theorem dX9_finedCount_1 : decode cX9_finedCount 1 = .ok (.istore_n 1, 1) := by decide +kernel
theorem dX9_finedCount_2 : decode cX9_finedCount 2 = .ok (.iconst 0, 1) := by decide +kernel
theorem dX9_finedCount_3 : decode cX9_finedCount 3 = .ok (.istore_n 2, 1) := by decide +kernel
theorem dX9_finedCount_4 : decode cX9_finedCount 4 = .ok (.iload_n 2, 1) := by decide +kernel
theorem dX9_finedCount_5 : decode cX9_finedCount 5 = .ok (.aload_n 0, 1) := by decide +kernel
theorem dX9_finedCount_6 : decode cX9_finedCount 6 = .ok (.getfield 44, 3) := by decide +kernel
theorem dX9_finedCount_9 : decode cX9_finedCount 9 = .ok (.if_icmp .ge 35, 3) := by decide +kernel
theorem dX9_finedCount_12 : decode cX9_finedCount 12 = .ok (.aload_n 0, 1) := by decide +kernel
theorem dX9_finedCount_13 : decode cX9_finedCount 13 = .ok (.iload_n 2, 1) := by decide +kernel
theorem dX9_finedCount_14 : decode cX9_finedCount 14 = .ok (.invokevirtual 76, 3) := by decide +kernel
theorem dX9_finedCount_17 : decode cX9_finedCount 17 = .ok (.astore_n 3, 1) := by decide +kernel
theorem dX9_finedCount_18 : decode cX9_finedCount 18 = .ok (.iload_n 1, 1) := by decide +kernel
theorem dX9_finedCount_19 : decode cX9_finedCount 19 = .ok (.aload_n 3, 1) := by decide +kernel
theorem dX9_finedCount_20 : decode cX9_finedCount 20 = .ok (.ifnull 15, 3) := by decide +kernel
theorem dX9_finedCount_23 : decode cX9_finedCount 23 = .ok (.aload_n 3, 1) := by decide +kernel
theorem dX9_finedCount_24 : decode cX9_finedCount 24 = .ok (.getfield 80, 3) := by decide +kernel
theorem dX9_finedCount_27 : decode cX9_finedCount 27 = .ok (.iconst 2, 1) := by decide +kernel
theorem dX9_finedCount_28 : decode cX9_finedCount 28 = .ok (.if_icmp .ne 7, 3) := by decide +kernel
theorem dX9_finedCount_31 : decode cX9_finedCount 31 = .ok (.iconst 1, 1) := by decide +kernel
theorem dX9_finedCount_32 : decode cX9_finedCount 32 = .ok (.goto 4, 3) := by decide +kernel
theorem dX9_finedCount_35 : decode cX9_finedCount 35 = .ok (.iconst 0, 1) := by decide +kernel
theorem dX9_finedCount_36 : decode cX9_finedCount 36 = .ok (.iadd, 1) := by decide +kernel
theorem dX9_finedCount_37 : decode cX9_finedCount 37 = .ok (.istore_n 1, 1) := by decide +kernel
theorem dX9_finedCount_38 : decode cX9_finedCount 38 = .ok (.iinc 2 1, 3) := by decide +kernel
theorem dX9_finedCount_41 : decode cX9_finedCount 41 = .ok (.goto (-37), 3) := by decide +kernel
theorem dX9_finedCount_44 : decode cX9_finedCount 44 = .ok (.iload_n 1, 1) := by decide +kernel
theorem dX9_finedCount_45 : decode cX9_finedCount 45 = .ok (.ireturn, 1) := by decide +kernel
theorem dX9_waiting_0 : decode cX9_waiting 0 = .ok (.iconst 0, 1) := by decide +kernel
theorem dX9_waiting_1 : decode cX9_waiting 1 = .ok (.istore_n 1, 1) := by decide +kernel
theorem dX9_waiting_2 : decode cX9_waiting 2 = .ok (.iconst 0, 1) := by decide +kernel
theorem dX9_waiting_3 : decode cX9_waiting 3 = .ok (.istore_n 2, 1) := by decide +kernel
theorem dX9_waiting_4 : decode cX9_waiting 4 = .ok (.iload_n 2, 1) := by decide +kernel
theorem dX9_waiting_5 : decode cX9_waiting 5 = .ok (.aload_n 0, 1) := by decide +kernel
theorem dX9_waiting_6 : decode cX9_waiting 6 = .ok (.getfield 44, 3) := by decide +kernel
theorem dX9_waiting_9 : decode cX9_waiting 9 = .ok (.if_icmp .ge 27, 3) := by decide +kernel
theorem dX9_waiting_12 : decode cX9_waiting 12 = .ok (.iload_n 1, 1) := by decide +kernel
theorem dX9_waiting_13 : decode cX9_waiting 13 = .ok (.aload_n 0, 1) := by decide +kernel
theorem dX9_waiting_14 : decode cX9_waiting 14 = .ok (.iload_n 2, 1) := by decide +kernel
theorem dX9_waiting_15 : decode cX9_waiting 15 = .ok (.invokevirtual 86, 3) := by decide +kernel
theorem dX9_waiting_18 : decode cX9_waiting 18 = .ok (.ifCond .eq 9, 3) := by decide +kernel
theorem dX9_waiting_21 : decode cX9_waiting 21 = .ok (.iconst 1, 1) := by decide +kernel
theorem dX9_waiting_22 : decode cX9_waiting 22 = .ok (.iload_n 2, 1) := by decide +kernel
theorem dX9_waiting_23 : decode cX9_waiting 23 = .ok (.ishl, 1) := by decide +kernel
theorem dX9_waiting_24 : decode cX9_waiting 24 = .ok (.goto 4, 3) := by decide +kernel
theorem dX9_waiting_27 : decode cX9_waiting 27 = .ok (.iconst 0, 1) := by decide +kernel
theorem dX9_waiting_28 : decode cX9_waiting 28 = .ok (.ior, 1) := by decide +kernel
theorem dX9_waiting_29 : decode cX9_waiting 29 = .ok (.istore_n 1, 1) := by decide +kernel
theorem dX9_waiting_30 : decode cX9_waiting 30 = .ok (.iinc 2 1, 3) := by decide +kernel
theorem dX9_waiting_33 : decode cX9_waiting 33 = .ok (.goto (-29), 3) := by decide +kernel
theorem dX9_waiting_36 : decode cX9_waiting 36 = .ok (.iload_n 1, 1) := by decide +kernel
theorem dX9_waiting_37 : decode cX9_waiting 37 = .ok (.ireturn, 1) := by decide +kernel
theorem dX9_knownCount_0 : decode cX9_knownCount 0 = .ok (.iconst 0, 1) := by decide +kernel
theorem dX9_knownCount_1 : decode cX9_knownCount 1 = .ok (.istore_n 1, 1) := by decide +kernel
theorem dX9_knownCount_2 : decode cX9_knownCount 2 = .ok (.iconst 0, 1) := by decide +kernel
theorem dX9_knownCount_3 : decode cX9_knownCount 3 = .ok (.istore_n 2, 1) := by decide +kernel
theorem dX9_knownCount_4 : decode cX9_knownCount 4 = .ok (.iload_n 2, 1) := by decide +kernel
theorem dX9_knownCount_5 : decode cX9_knownCount 5 = .ok (.aload_n 0, 1) := by decide +kernel
theorem dX9_knownCount_6 : decode cX9_knownCount 6 = .ok (.getfield 40, 3) := by decide +kernel
theorem dX9_knownCount_9 : decode cX9_knownCount 9 = .ok (.if_icmp .ge 33, 3) := by decide +kernel
theorem dX9_knownCount_12 : decode cX9_knownCount 12 = .ok (.aload_n 0, 1) := by decide +kernel
theorem dX9_knownCount_13 : decode cX9_knownCount 13 = .ok (.iload_n 2, 1) := by decide +kernel
theorem dX9_knownCount_14 : decode cX9_knownCount 14 = .ok (.invokevirtual 90, 3) := by decide +kernel
theorem dX9_knownCount_17 : decode cX9_knownCount 17 = .ok (.astore_n 3, 1) := by decide +kernel
theorem dX9_knownCount_18 : decode cX9_knownCount 18 = .ok (.iload_n 1, 1) := by decide +kernel
theorem dX9_knownCount_19 : decode cX9_knownCount 19 = .ok (.aload_n 3, 1) := by decide +kernel
theorem dX9_knownCount_20 : decode cX9_knownCount 20 = .ok (.ifnonnull 7, 3) := by decide +kernel
theorem dX9_knownCount_23 : decode cX9_knownCount 23 = .ok (.iconst 0, 1) := by decide +kernel
theorem dX9_knownCount_24 : decode cX9_knownCount 24 = .ok (.goto 10, 3) := by decide +kernel
theorem dX9_knownCount_27 : decode cX9_knownCount 27 = .ok (.aload_n 3, 1) := by decide +kernel
theorem dX9_knownCount_28 : decode cX9_knownCount 28 = .ok (.getfield 94, 3) := by decide +kernel
theorem dX9_knownCount_31 : decode cX9_knownCount 31 = .ok (.invokestatic 97, 3) := by decide +kernel
theorem dX9_knownCount_34 : decode cX9_knownCount 34 = .ok (.iadd, 1) := by decide +kernel
theorem dX9_knownCount_35 : decode cX9_knownCount 35 = .ok (.istore_n 1, 1) := by decide +kernel
theorem dX9_knownCount_36 : decode cX9_knownCount 36 = .ok (.iinc 2 1, 3) := by decide +kernel
theorem dX9_knownCount_39 : decode cX9_knownCount 39 = .ok (.goto (-35), 3) := by decide +kernel
theorem dX9_knownCount_42 : decode cX9_knownCount 42 = .ok (.iload_n 1, 1) := by decide +kernel
theorem dX9_knownCount_43 : decode cX9_knownCount 43 = .ok (.ireturn, 1) := by decide +kernel
theorem dJ11_isValidCodePoint_9a6ad_0 : decode cJ11_isValidCodePoint_9a6ad 0 = .ok (.iload_n 0, 1) := by decide +kernel
theorem dJ11_isValidCodePoint_9a6ad_1 : decode cJ11_isValidCodePoint_9a6ad 1 = .ok (.bipush 16, 2) := by decide +kernel
theorem dJ11_isValidCodePoint_9a6ad_3 : decode cJ11_isValidCodePoint_9a6ad 3 = .ok (.iushr, 1) := by decide +kernel
theorem dJ11_isValidCodePoint_9a6ad_4 : decode cJ11_isValidCodePoint_9a6ad 4 = .ok (.istore_n 1, 1) := by decide +kernel
theorem dJ11_isValidCodePoint_9a6ad_5 : decode cJ11_isValidCodePoint_9a6ad 5 = .ok (.iload_n 1, 1) := by decide +kernel
theorem dJ11_isValidCodePoint_9a6ad_6 : decode cJ11_isValidCodePoint_9a6ad 6 = .ok (.bipush 17, 2) := by decide +kernel
theorem dJ11_isValidCodePoint_9a6ad_8 : decode cJ11_isValidCodePoint_9a6ad 8 = .ok (.if_icmp .ge 7, 3) := by decide +kernel
theorem dJ11_isValidCodePoint_9a6ad_11 : decode cJ11_isValidCodePoint_9a6ad 11 = .ok (.iconst 1, 1) := by decide +kernel
theorem dJ11_isValidCodePoint_9a6ad_12 : decode cJ11_isValidCodePoint_9a6ad 12 = .ok (.goto 4, 3) := by decide +kernel
theorem dJ11_isValidCodePoint_9a6ad_15 : decode cJ11_isValidCodePoint_9a6ad 15 = .ok (.iconst 0, 1) := by decide +kernel
theorem dJ11_isValidCodePoint_9a6ad_16 : decode cJ11_isValidCodePoint_9a6ad 16 = .ok (.ireturn, 1) := by decide +kernel
theorem dJ11_highSurrogate_5068e_0 : decode cJ11_highSurrogate_5068e 0 = .ok (.iload_n 0, 1) := by decide +kernel
theorem dJ11_highSurrogate_5068e_1 : decode cJ11_highSurrogate_5068e 1 = .ok (.bipush 10, 2) := by decide +kernel
theorem dJ11_highSurrogate_5068e_3 : decode cJ11_highSurrogate_5068e 3 = .ok (.iushr, 1) := by decide +kernel
theorem dJ11_highSurrogate_5068e_4 : decode cJ11_highSurrogate_5068e 4 = .ok (.ldc 110, 2) := by decide +kernel
theorem dJ11_highSurrogate_5068e_6 : decode cJ11_highSurrogate_5068e 6 = .ok (.iadd, 1) := by decide +kernel
theorem dJ11_highSurrogate_5068e_7 : decode cJ11_highSurrogate_5068e 7 = .ok (.i2c, 1) := by decide +kernel
theorem dJ11_highSurrogate_5068e_8 : decode cJ11_highSurrogate_5068e 8 = .ok (.ireturn, 1) := by decide +kernel
theorem dJ11_lowSurrogate_5068e_0 : decode cJ11_lowSurrogate_5068e 0 = .ok (.iload_n 0, 1) := by decide +kernel
theorem dJ11_lowSurrogate_5068e_1 : decode cJ11_lowSurrogate_5068e 1 = .ok (.sipush 1023, 3) := by decide +kernel
theorem dJ11_lowSurrogate_5068e_4 : decode cJ11_lowSurrogate_5068e 4 = .ok (.iand, 1) := by decide +kernel
theorem dJ11_lowSurrogate_5068e_5 : decode cJ11_lowSurrogate_5068e 5 = .ok (.ldc 76, 2) := by decide +kernel
theorem dJ11_lowSurrogate_5068e_7 : decode cJ11_lowSurrogate_5068e 7 = .ok (.iadd, 1) := by decide +kernel
theorem dJ11_lowSurrogate_5068e_8 : decode cJ11_lowSurrogate_5068e 8 = .ok (.i2c, 1) := by decide +kernel
theorem dJ11_lowSurrogate_5068e_9 : decode cJ11_lowSurrogate_5068e 9 = .ok (.ireturn, 1) := by decide +kernel
theorem dJ6_lowestOneBit_0f7a4_0 : decode cJ6_lowestOneBit_0f7a4 0 = .ok (.iload_n 0, 1) := by decide +kernel
theorem dJ6_lowestOneBit_0f7a4_1 : decode cJ6_lowestOneBit_0f7a4 1 = .ok (.iload_n 0, 1) := by decide +kernel
theorem dJ6_lowestOneBit_0f7a4_2 : decode cJ6_lowestOneBit_0f7a4 2 = .ok (.ineg, 1) := by decide +kernel
theorem dJ6_lowestOneBit_0f7a4_3 : decode cJ6_lowestOneBit_0f7a4 3 = .ok (.iand, 1) := by decide +kernel
theorem dJ6_lowestOneBit_0f7a4_4 : decode cJ6_lowestOneBit_0f7a4 4 = .ok (.ireturn, 1) := by decide +kernel
theorem dJ6_numberOfTrailingZeros_0f7a4_0 : decode cJ6_numberOfTrailingZeros_0f7a4 0 = .ok (.iload_n 0, 1) := by decide +kernel
theorem dJ6_numberOfTrailingZeros_0f7a4_1 : decode cJ6_numberOfTrailingZeros_0f7a4 1 = .ok (.iconst (-1), 1) := by decide +kernel
theorem dJ6_numberOfTrailingZeros_0f7a4_2 : decode cJ6_numberOfTrailingZeros_0f7a4 2 = .ok (.ixor, 1) := by decide +kernel
theorem dJ6_numberOfTrailingZeros_0f7a4_3 : decode cJ6_numberOfTrailingZeros_0f7a4 3 = .ok (.iload_n 0, 1) := by decide +kernel
theorem dJ6_numberOfTrailingZeros_0f7a4_4 : decode cJ6_numberOfTrailingZeros_0f7a4 4 = .ok (.iconst 1, 1) := by decide +kernel
theorem dJ6_numberOfTrailingZeros_0f7a4_5 : decode cJ6_numberOfTrailingZeros_0f7a4 5 = .ok (.isub, 1) := by decide +kernel
theorem dJ6_numberOfTrailingZeros_0f7a4_6 : decode cJ6_numberOfTrailingZeros_0f7a4 6 = .ok (.iand, 1) := by decide +kernel
theorem dJ6_numberOfTrailingZeros_0f7a4_7 : decode cJ6_numberOfTrailingZeros_0f7a4 7 = .ok (.istore_n 0, 1) := by decide +kernel
theorem dJ6_numberOfTrailingZeros_0f7a4_8 : decode cJ6_numberOfTrailingZeros_0f7a4 8 = .ok (.iload_n 0, 1) := by decide +kernel
theorem dJ6_numberOfTrailingZeros_0f7a4_9 : decode cJ6_numberOfTrailingZeros_0f7a4 9 = .ok (.ifCond .gt 8, 3) := by decide +kernel
theorem dJ6_numberOfTrailingZeros_0f7a4_12 : decode cJ6_numberOfTrailingZeros_0f7a4 12 = .ok (.iload_n 0, 1) := by decide +kernel
theorem dJ6_numberOfTrailingZeros_0f7a4_13 : decode cJ6_numberOfTrailingZeros_0f7a4 13 = .ok (.bipush 32, 2) := by decide +kernel
theorem dJ6_numberOfTrailingZeros_0f7a4_15 : decode cJ6_numberOfTrailingZeros_0f7a4 15 = .ok (.iand, 1) := by decide +kernel
theorem dJ6_numberOfTrailingZeros_0f7a4_16 : decode cJ6_numberOfTrailingZeros_0f7a4 16 = .ok (.ireturn, 1) := by decide +kernel
theorem dJ6_numberOfTrailingZeros_0f7a4_17 : decode cJ6_numberOfTrailingZeros_0f7a4 17 = .ok (.iconst 1, 1) := by decide +kernel
theorem dJ6_numberOfTrailingZeros_0f7a4_18 : decode cJ6_numberOfTrailingZeros_0f7a4 18 = .ok (.istore_n 1, 1) := by decide +kernel
theorem dJ6_numberOfTrailingZeros_0f7a4_19 : decode cJ6_numberOfTrailingZeros_0f7a4 19 = .ok (.iload_n 0, 1) := by decide +kernel
theorem dJ6_numberOfTrailingZeros_0f7a4_20 : decode cJ6_numberOfTrailingZeros_0f7a4 20 = .ok (.ldc_w 264, 3) := by decide +kernel
theorem dJ6_numberOfTrailingZeros_0f7a4_23 : decode cJ6_numberOfTrailingZeros_0f7a4 23 = .ok (.if_icmp .le 11, 3) := by decide +kernel
theorem dJ6_numberOfTrailingZeros_0f7a4_26 : decode cJ6_numberOfTrailingZeros_0f7a4 26 = .ok (.iinc 1 16, 3) := by decide +kernel
theorem dJ6_numberOfTrailingZeros_0f7a4_29 : decode cJ6_numberOfTrailingZeros_0f7a4 29 = .ok (.iload_n 0, 1) := by decide +kernel
theorem dJ6_numberOfTrailingZeros_0f7a4_30 : decode cJ6_numberOfTrailingZeros_0f7a4 30 = .ok (.bipush 16, 2) := by decide +kernel
theorem dJ6_numberOfTrailingZeros_0f7a4_32 : decode cJ6_numberOfTrailingZeros_0f7a4 32 = .ok (.iushr, 1) := by decide +kernel
theorem dJ6_numberOfTrailingZeros_0f7a4_33 : decode cJ6_numberOfTrailingZeros_0f7a4 33 = .ok (.istore_n 0, 1) := by decide +kernel
theorem dJ6_numberOfTrailingZeros_0f7a4_34 : decode cJ6_numberOfTrailingZeros_0f7a4 34 = .ok (.iload_n 0, 1) := by decide +kernel
theorem dJ6_numberOfTrailingZeros_0f7a4_35 : decode cJ6_numberOfTrailingZeros_0f7a4 35 = .ok (.sipush 256, 3) := by decide +kernel
theorem dJ6_numberOfTrailingZeros_0f7a4_38 : decode cJ6_numberOfTrailingZeros_0f7a4 38 = .ok (.if_icmp .le 11, 3) := by decide +kernel
theorem dJ6_numberOfTrailingZeros_0f7a4_41 : decode cJ6_numberOfTrailingZeros_0f7a4 41 = .ok (.iinc 1 8, 3) := by decide +kernel
theorem dJ6_numberOfTrailingZeros_0f7a4_44 : decode cJ6_numberOfTrailingZeros_0f7a4 44 = .ok (.iload_n 0, 1) := by decide +kernel
theorem dJ6_numberOfTrailingZeros_0f7a4_45 : decode cJ6_numberOfTrailingZeros_0f7a4 45 = .ok (.bipush 8, 2) := by decide +kernel
theorem dJ6_numberOfTrailingZeros_0f7a4_47 : decode cJ6_numberOfTrailingZeros_0f7a4 47 = .ok (.iushr, 1) := by decide +kernel
theorem dJ6_numberOfTrailingZeros_0f7a4_48 : decode cJ6_numberOfTrailingZeros_0f7a4 48 = .ok (.istore_n 0, 1) := by decide +kernel
theorem dJ6_numberOfTrailingZeros_0f7a4_49 : decode cJ6_numberOfTrailingZeros_0f7a4 49 = .ok (.iload_n 0, 1) := by decide +kernel
theorem dJ6_numberOfTrailingZeros_0f7a4_50 : decode cJ6_numberOfTrailingZeros_0f7a4 50 = .ok (.bipush 16, 2) := by decide +kernel
theorem dJ6_numberOfTrailingZeros_0f7a4_52 : decode cJ6_numberOfTrailingZeros_0f7a4 52 = .ok (.if_icmp .le 10, 3) := by decide +kernel
theorem dJ6_numberOfTrailingZeros_0f7a4_55 : decode cJ6_numberOfTrailingZeros_0f7a4 55 = .ok (.iinc 1 4, 3) := by decide +kernel
theorem dJ6_numberOfTrailingZeros_0f7a4_58 : decode cJ6_numberOfTrailingZeros_0f7a4 58 = .ok (.iload_n 0, 1) := by decide +kernel
theorem dJ6_numberOfTrailingZeros_0f7a4_59 : decode cJ6_numberOfTrailingZeros_0f7a4 59 = .ok (.iconst 4, 1) := by decide +kernel
theorem dJ6_numberOfTrailingZeros_0f7a4_60 : decode cJ6_numberOfTrailingZeros_0f7a4 60 = .ok (.iushr, 1) := by decide +kernel
theorem dJ6_numberOfTrailingZeros_0f7a4_61 : decode cJ6_numberOfTrailingZeros_0f7a4 61 = .ok (.istore_n 0, 1) := by decide +kernel
theorem dJ6_numberOfTrailingZeros_0f7a4_62 : decode cJ6_numberOfTrailingZeros_0f7a4 62 = .ok (.iload_n 0, 1) := by decide +kernel
theorem dJ6_numberOfTrailingZeros_0f7a4_63 : decode cJ6_numberOfTrailingZeros_0f7a4 63 = .ok (.iconst 4, 1) := by decide +kernel
theorem dJ6_numberOfTrailingZeros_0f7a4_64 : decode cJ6_numberOfTrailingZeros_0f7a4 64 = .ok (.if_icmp .le 10, 3) := by decide +kernel
theorem dJ6_numberOfTrailingZeros_0f7a4_67 : decode cJ6_numberOfTrailingZeros_0f7a4 67 = .ok (.iinc 1 2, 3) := by decide +kernel
theorem dJ6_numberOfTrailingZeros_0f7a4_70 : decode cJ6_numberOfTrailingZeros_0f7a4 70 = .ok (.iload_n 0, 1) := by decide +kernel
theorem dJ6_numberOfTrailingZeros_0f7a4_71 : decode cJ6_numberOfTrailingZeros_0f7a4 71 = .ok (.iconst 2, 1) := by decide +kernel
theorem dJ6_numberOfTrailingZeros_0f7a4_72 : decode cJ6_numberOfTrailingZeros_0f7a4 72 = .ok (.iushr, 1) := by decide +kernel
theorem dJ6_numberOfTrailingZeros_0f7a4_73 : decode cJ6_numberOfTrailingZeros_0f7a4 73 = .ok (.istore_n 0, 1) := by decide +kernel
theorem dJ6_numberOfTrailingZeros_0f7a4_74 : decode cJ6_numberOfTrailingZeros_0f7a4 74 = .ok (.iload_n 1, 1) := by decide +kernel
theorem dJ6_numberOfTrailingZeros_0f7a4_75 : decode cJ6_numberOfTrailingZeros_0f7a4 75 = .ok (.iload_n 0, 1) := by decide +kernel
theorem dJ6_numberOfTrailingZeros_0f7a4_76 : decode cJ6_numberOfTrailingZeros_0f7a4 76 = .ok (.iconst 1, 1) := by decide +kernel
theorem dJ6_numberOfTrailingZeros_0f7a4_77 : decode cJ6_numberOfTrailingZeros_0f7a4 77 = .ok (.iushr, 1) := by decide +kernel
theorem dJ6_numberOfTrailingZeros_0f7a4_78 : decode cJ6_numberOfTrailingZeros_0f7a4 78 = .ok (.iadd, 1) := by decide +kernel
theorem dJ6_numberOfTrailingZeros_0f7a4_79 : decode cJ6_numberOfTrailingZeros_0f7a4 79 = .ok (.ireturn, 1) := by decide +kernel
theorem dJ6_bitCount_0f7a4_0 : decode cJ6_bitCount_0f7a4 0 = .ok (.iload_n 0, 1) := by decide +kernel
theorem dJ6_bitCount_0f7a4_1 : decode cJ6_bitCount_0f7a4 1 = .ok (.iload_n 0, 1) := by decide +kernel
theorem dJ6_bitCount_0f7a4_2 : decode cJ6_bitCount_0f7a4 2 = .ok (.iconst 1, 1) := by decide +kernel
theorem dJ6_bitCount_0f7a4_3 : decode cJ6_bitCount_0f7a4 3 = .ok (.iushr, 1) := by decide +kernel
theorem dJ6_bitCount_0f7a4_4 : decode cJ6_bitCount_0f7a4 4 = .ok (.ldc_w 265, 3) := by decide +kernel
theorem dJ6_bitCount_0f7a4_7 : decode cJ6_bitCount_0f7a4 7 = .ok (.iand, 1) := by decide +kernel
theorem dJ6_bitCount_0f7a4_8 : decode cJ6_bitCount_0f7a4 8 = .ok (.isub, 1) := by decide +kernel
theorem dJ6_bitCount_0f7a4_9 : decode cJ6_bitCount_0f7a4 9 = .ok (.istore_n 0, 1) := by decide +kernel
theorem dJ6_bitCount_0f7a4_10 : decode cJ6_bitCount_0f7a4 10 = .ok (.iload_n 0, 1) := by decide +kernel
theorem dJ6_bitCount_0f7a4_11 : decode cJ6_bitCount_0f7a4 11 = .ok (.ldc_w 266, 3) := by decide +kernel
theorem dJ6_bitCount_0f7a4_14 : decode cJ6_bitCount_0f7a4 14 = .ok (.iand, 1) := by decide +kernel
theorem dJ6_bitCount_0f7a4_15 : decode cJ6_bitCount_0f7a4 15 = .ok (.iload_n 0, 1) := by decide +kernel
theorem dJ6_bitCount_0f7a4_16 : decode cJ6_bitCount_0f7a4 16 = .ok (.iconst 2, 1) := by decide +kernel
theorem dJ6_bitCount_0f7a4_17 : decode cJ6_bitCount_0f7a4 17 = .ok (.iushr, 1) := by decide +kernel
theorem dJ6_bitCount_0f7a4_18 : decode cJ6_bitCount_0f7a4 18 = .ok (.ldc_w 266, 3) := by decide +kernel
theorem dJ6_bitCount_0f7a4_21 : decode cJ6_bitCount_0f7a4 21 = .ok (.iand, 1) := by decide +kernel
theorem dJ6_bitCount_0f7a4_22 : decode cJ6_bitCount_0f7a4 22 = .ok (.iadd, 1) := by decide +kernel
theorem dJ6_bitCount_0f7a4_23 : decode cJ6_bitCount_0f7a4 23 = .ok (.istore_n 0, 1) := by decide +kernel
theorem dJ6_bitCount_0f7a4_24 : decode cJ6_bitCount_0f7a4 24 = .ok (.iload_n 0, 1) := by decide +kernel
theorem dJ6_bitCount_0f7a4_25 : decode cJ6_bitCount_0f7a4 25 = .ok (.iload_n 0, 1) := by decide +kernel
theorem dJ6_bitCount_0f7a4_26 : decode cJ6_bitCount_0f7a4 26 = .ok (.iconst 4, 1) := by decide +kernel
theorem dJ6_bitCount_0f7a4_27 : decode cJ6_bitCount_0f7a4 27 = .ok (.iushr, 1) := by decide +kernel
theorem dJ6_bitCount_0f7a4_28 : decode cJ6_bitCount_0f7a4 28 = .ok (.iadd, 1) := by decide +kernel
theorem dJ6_bitCount_0f7a4_29 : decode cJ6_bitCount_0f7a4 29 = .ok (.ldc_w 267, 3) := by decide +kernel
theorem dJ6_bitCount_0f7a4_32 : decode cJ6_bitCount_0f7a4 32 = .ok (.iand, 1) := by decide +kernel
theorem dJ6_bitCount_0f7a4_33 : decode cJ6_bitCount_0f7a4 33 = .ok (.istore_n 0, 1) := by decide +kernel
theorem dJ6_bitCount_0f7a4_34 : decode cJ6_bitCount_0f7a4 34 = .ok (.iload_n 0, 1) := by decide +kernel
theorem dJ6_bitCount_0f7a4_35 : decode cJ6_bitCount_0f7a4 35 = .ok (.iload_n 0, 1) := by decide +kernel
theorem dJ6_bitCount_0f7a4_36 : decode cJ6_bitCount_0f7a4 36 = .ok (.bipush 8, 2) := by decide +kernel
theorem dJ6_bitCount_0f7a4_38 : decode cJ6_bitCount_0f7a4 38 = .ok (.iushr, 1) := by decide +kernel
theorem dJ6_bitCount_0f7a4_39 : decode cJ6_bitCount_0f7a4 39 = .ok (.iadd, 1) := by decide +kernel
theorem dJ6_bitCount_0f7a4_40 : decode cJ6_bitCount_0f7a4 40 = .ok (.istore_n 0, 1) := by decide +kernel
theorem dJ6_bitCount_0f7a4_41 : decode cJ6_bitCount_0f7a4 41 = .ok (.iload_n 0, 1) := by decide +kernel
theorem dJ6_bitCount_0f7a4_42 : decode cJ6_bitCount_0f7a4 42 = .ok (.iload_n 0, 1) := by decide +kernel
theorem dJ6_bitCount_0f7a4_43 : decode cJ6_bitCount_0f7a4 43 = .ok (.bipush 16, 2) := by decide +kernel
theorem dJ6_bitCount_0f7a4_45 : decode cJ6_bitCount_0f7a4 45 = .ok (.iushr, 1) := by decide +kernel
theorem dJ6_bitCount_0f7a4_46 : decode cJ6_bitCount_0f7a4 46 = .ok (.iadd, 1) := by decide +kernel
theorem dJ6_bitCount_0f7a4_47 : decode cJ6_bitCount_0f7a4 47 = .ok (.istore_n 0, 1) := by decide +kernel
theorem dJ6_bitCount_0f7a4_48 : decode cJ6_bitCount_0f7a4 48 = .ok (.iload_n 0, 1) := by decide +kernel
theorem dJ6_bitCount_0f7a4_49 : decode cJ6_bitCount_0f7a4 49 = .ok (.bipush 63, 2) := by decide +kernel
theorem dJ6_bitCount_0f7a4_51 : decode cJ6_bitCount_0f7a4 51 = .ok (.iand, 1) := by decide +kernel
theorem dJ6_bitCount_0f7a4_52 : decode cJ6_bitCount_0f7a4 52 = .ok (.ireturn, 1) := by decide +kernel
theorem dJ9_max_7cf53_0 : decode cJ9_max_7cf53 0 = .ok (.iload_n 0, 1) := by decide +kernel
theorem dJ9_max_7cf53_1 : decode cJ9_max_7cf53 1 = .ok (.iload_n 1, 1) := by decide +kernel
theorem dJ9_max_7cf53_2 : decode cJ9_max_7cf53 2 = .ok (.if_icmp .lt 7, 3) := by decide +kernel
theorem dJ9_max_7cf53_5 : decode cJ9_max_7cf53 5 = .ok (.iload_n 0, 1) := by decide +kernel
theorem dJ9_max_7cf53_6 : decode cJ9_max_7cf53 6 = .ok (.goto 4, 3) := by decide +kernel
theorem dJ9_max_7cf53_9 : decode cJ9_max_7cf53 9 = .ok (.iload_n 1, 1) := by decide +kernel
theorem dJ9_max_7cf53_10 : decode cJ9_max_7cf53 10 = .ok (.ireturn, 1) := by decide +kernel
theorem dJ9_min_7cf53_0 : decode cJ9_min_7cf53 0 = .ok (.iload_n 0, 1) := by decide +kernel
theorem dJ9_min_7cf53_1 : decode cJ9_min_7cf53 1 = .ok (.iload_n 1, 1) := by decide +kernel
theorem dJ9_min_7cf53_2 : decode cJ9_min_7cf53 2 = .ok (.if_icmp .gt 7, 3) := by decide +kernel
theorem dJ9_min_7cf53_5 : decode cJ9_min_7cf53 5 = .ok (.iload_n 0, 1) := by decide +kernel
theorem dJ9_min_7cf53_6 : decode cJ9_min_7cf53 6 = .ok (.goto 4, 3) := by decide +kernel
theorem dJ9_min_7cf53_9 : decode cJ9_min_7cf53 9 = .ok (.iload_n 1, 1) := by decide +kernel
theorem dJ9_min_7cf53_10 : decode cJ9_min_7cf53 10 = .ok (.ireturn, 1) := by decide +kernel
theorem dJ0_length_8abf5_0 : decode cJ0_length_8abf5 0 = .ok (.aload_n 0, 1) := by decide +kernel
theorem dJ0_length_8abf5_1 : decode cJ0_length_8abf5 1 = .ok (.getfield 9, 3) := by decide +kernel
theorem dJ0_length_8abf5_4 : decode cJ0_length_8abf5 4 = .ok (.arraylength, 1) := by decide +kernel
theorem dJ0_length_8abf5_5 : decode cJ0_length_8abf5 5 = .ok (.aload_n 0, 1) := by decide +kernel
theorem dJ0_length_8abf5_6 : decode cJ0_length_8abf5 6 = .ok (.invokevirtual 335, 3) := by decide +kernel
theorem dJ0_length_8abf5_9 : decode cJ0_length_8abf5 9 = .ok (.ishr, 1) := by decide +kernel
theorem dJ0_length_8abf5_10 : decode cJ0_length_8abf5 10 = .ok (.ireturn, 1) := by decide +kernel
theorem dJ0_charAt_5068e_0 : decode cJ0_charAt_5068e 0 = .ok (.aload_n 0, 1) := by decide +kernel
theorem dJ0_charAt_5068e_1 : decode cJ0_charAt_5068e 1 = .ok (.invokevirtual 492, 3) := by decide +kernel
theorem dJ0_charAt_5068e_4 : decode cJ0_charAt_5068e 4 = .ok (.ifCond .eq 12, 3) := by decide +kernel
theorem dJ0_charAt_5068e_7 : decode cJ0_charAt_5068e 7 = .ok (.aload_n 0, 1) := by decide +kernel
theorem dJ0_charAt_5068e_8 : decode cJ0_charAt_5068e 8 = .ok (.getfield 9, 3) := by decide +kernel
theorem dJ0_charAt_5068e_11 : decode cJ0_charAt_5068e 11 = .ok (.iload_n 1, 1) := by decide +kernel
theorem dJ0_charAt_5068e_12 : decode cJ0_charAt_5068e 12 = .ok (.invokestatic 495, 3) := by decide +kernel
theorem dJ0_charAt_5068e_15 : decode cJ0_charAt_5068e 15 = .ok (.ireturn, 1) := by decide +kernel
theorem dJ0_charAt_5068e_16 : decode cJ0_charAt_5068e 16 = .ok (.aload_n 0, 1) := by decide +kernel
theorem dJ0_charAt_5068e_17 : decode cJ0_charAt_5068e 17 = .ok (.getfield 9, 3) := by decide +kernel
theorem dJ0_charAt_5068e_20 : decode cJ0_charAt_5068e 20 = .ok (.iload_n 1, 1) := by decide +kernel
theorem dJ0_charAt_5068e_21 : decode cJ0_charAt_5068e 21 = .ok (.invokestatic 498, 3) := by decide +kernel
theorem dJ0_charAt_5068e_24 : decode cJ0_charAt_5068e 24 = .ok (.ireturn, 1) := by decide +kernel
theorem dJ0_indexOf_0f7a4_0 : decode cJ0_indexOf_0f7a4 0 = .ok (.aload_n 0, 1) := by decide +kernel
theorem dJ0_indexOf_0f7a4_1 : decode cJ0_indexOf_0f7a4 1 = .ok (.iload_n 1, 1) := by decide +kernel
theorem dJ0_indexOf_0f7a4_2 : decode cJ0_indexOf_0f7a4 2 = .ok (.iconst 0, 1) := by decide +kernel
theorem dJ0_indexOf_0f7a4_3 : decode cJ0_indexOf_0f7a4 3 = .ok (.invokevirtual 633, 3) := by decide +kernel
theorem dJ0_indexOf_0f7a4_6 : decode cJ0_indexOf_0f7a4 6 = .ok (.ireturn, 1) := by decide +kernel
theorem dJ0_indexOf_7cf53_0 : decode cJ0_indexOf_7cf53 0 = .ok (.aload_n 0, 1) := by decide +kernel
theorem dJ0_indexOf_7cf53_1 : decode cJ0_indexOf_7cf53 1 = .ok (.invokevirtual 492, 3) := by decide +kernel
theorem dJ0_indexOf_7cf53_4 : decode cJ0_indexOf_7cf53 4 = .ok (.ifCond .eq 19, 3) := by decide +kernel
theorem dJ0_indexOf_7cf53_7 : decode cJ0_indexOf_7cf53 7 = .ok (.aload_n 0, 1) := by decide +kernel
theorem dJ0_indexOf_7cf53_8 : decode cJ0_indexOf_7cf53 8 = .ok (.getfield 9, 3) := by decide +kernel
theorem dJ0_indexOf_7cf53_11 : decode cJ0_indexOf_7cf53 11 = .ok (.iload_n 1, 1) := by decide +kernel
theorem dJ0_indexOf_7cf53_12 : decode cJ0_indexOf_7cf53 12 = .ok (.iload_n 2, 1) := by decide +kernel
theorem dJ0_indexOf_7cf53_13 : decode cJ0_indexOf_7cf53 13 = .ok (.aload_n 0, 1) := by decide +kernel
theorem dJ0_indexOf_7cf53_14 : decode cJ0_indexOf_7cf53 14 = .ok (.invokevirtual 505, 3) := by decide +kernel
theorem dJ0_indexOf_7cf53_17 : decode cJ0_indexOf_7cf53 17 = .ok (.invokestatic 637, 3) := by decide +kernel
theorem dJ0_indexOf_7cf53_20 : decode cJ0_indexOf_7cf53 20 = .ok (.goto 16, 3) := by decide +kernel
theorem dJ0_indexOf_7cf53_23 : decode cJ0_indexOf_7cf53 23 = .ok (.aload_n 0, 1) := by decide +kernel
theorem dJ0_indexOf_7cf53_24 : decode cJ0_indexOf_7cf53 24 = .ok (.getfield 9, 3) := by decide +kernel
theorem dJ0_indexOf_7cf53_27 : decode cJ0_indexOf_7cf53 27 = .ok (.iload_n 1, 1) := by decide +kernel
theorem dJ0_indexOf_7cf53_28 : decode cJ0_indexOf_7cf53 28 = .ok (.iload_n 2, 1) := by decide +kernel
theorem dJ0_indexOf_7cf53_29 : decode cJ0_indexOf_7cf53 29 = .ok (.aload_n 0, 1) := by decide +kernel
theorem dJ0_indexOf_7cf53_30 : decode cJ0_indexOf_7cf53 30 = .ok (.invokevirtual 505, 3) := by decide +kernel
theorem dJ0_indexOf_7cf53_33 : decode cJ0_indexOf_7cf53 33 = .ok (.invokestatic 640, 3) := by decide +kernel
theorem dJ0_indexOf_7cf53_36 : decode cJ0_indexOf_7cf53 36 = .ok (.ireturn, 1) := by decide +kernel
theorem dJ0_coder_7d493_0 : decode cJ0_coder_7d493 0 = .ok (.getstatic 38, 3) := by decide +kernel
theorem dJ0_coder_7d493_3 : decode cJ0_coder_7d493 3 = .ok (.ifCond .eq 10, 3) := by decide +kernel
theorem dJ0_coder_7d493_6 : decode cJ0_coder_7d493 6 = .ok (.aload_n 0, 1) := by decide +kernel
theorem dJ0_coder_7d493_7 : decode cJ0_coder_7d493 7 = .ok (.getfield 15, 3) := by decide +kernel
theorem dJ0_coder_7d493_10 : decode cJ0_coder_7d493 10 = .ok (.goto 4, 3) := by decide +kernel
theorem dJ0_coder_7d493_13 : decode cJ0_coder_7d493 13 = .ok (.iconst 1, 1) := by decide +kernel
theorem dJ0_coder_7d493_14 : decode cJ0_coder_7d493 14 = .ok (.ireturn, 1) := by decide +kernel
theorem dJ0_isLatin1_aae02_0 : decode cJ0_isLatin1_aae02 0 = .ok (.getstatic 38, 3) := by decide +kernel
theorem dJ0_isLatin1_aae02_3 : decode cJ0_isLatin1_aae02 3 = .ok (.ifCond .eq 14, 3) := by decide +kernel
theorem dJ0_isLatin1_aae02_6 : decode cJ0_isLatin1_aae02 6 = .ok (.aload_n 0, 1) := by decide +kernel
theorem dJ0_isLatin1_aae02_7 : decode cJ0_isLatin1_aae02 7 = .ok (.getfield 15, 3) := by decide +kernel
theorem dJ0_isLatin1_aae02_10 : decode cJ0_isLatin1_aae02 10 = .ok (.ifCond .ne 7, 3) := by decide +kernel
theorem dJ0_isLatin1_aae02_13 : decode cJ0_isLatin1_aae02 13 = .ok (.iconst 1, 1) := by decide +kernel
theorem dJ0_isLatin1_aae02_14 : decode cJ0_isLatin1_aae02 14 = .ok (.goto 4, 3) := by decide +kernel
theorem dJ0_isLatin1_aae02_17 : decode cJ0_isLatin1_aae02 17 = .ok (.iconst 0, 1) := by decide +kernel
theorem dJ0_isLatin1_aae02_18 : decode cJ0_isLatin1_aae02 18 = .ok (.ireturn, 1) := by decide +kernel
theorem dJ0_checkIndex_df160_0 : decode cJ0_checkIndex_df160 0 = .ok (.iload_n 0, 1) := by decide +kernel
theorem dJ0_checkIndex_df160_1 : decode cJ0_checkIndex_df160 1 = .ok (.iload_n 1, 1) := by decide +kernel
theorem dJ0_checkIndex_df160_2 : decode cJ0_checkIndex_df160 2 = .ok (.getstatic 1053, 3) := by decide +kernel
theorem dJ0_checkIndex_df160_5 : decode cJ0_checkIndex_df160 5 = .ok (.invokestatic 1059, 3) := by decide +kernel
theorem dJ0_checkIndex_df160_8 : decode cJ0_checkIndex_df160 8 = .ok (.pop, 1) := by decide +kernel
theorem dJ0_checkIndex_df160_9 : decode cJ0_checkIndex_df160 9 = .ok (.return_, 1) := by decide +kernel
theorem dJ0_checkBoundsBeginEnd_23922_0 : decode cJ0_checkBoundsBeginEnd_23922 0 = .ok (.iload_n 0, 1) := by decide +kernel
theorem dJ0_checkBoundsBeginEnd_23922_1 : decode cJ0_checkBoundsBeginEnd_23922 1 = .ok (.iload_n 1, 1) := by decide +kernel
theorem dJ0_checkBoundsBeginEnd_23922_2 : decode cJ0_checkBoundsBeginEnd_23922 2 = .ok (.iload_n 2, 1) := by decide +kernel
theorem dJ0_checkBoundsBeginEnd_23922_3 : decode cJ0_checkBoundsBeginEnd_23922 3 = .ok (.getstatic 1053, 3) := by decide +kernel
theorem dJ0_checkBoundsBeginEnd_23922_6 : decode cJ0_checkBoundsBeginEnd_23922 6 = .ok (.invokestatic 1062, 3) := by decide +kernel
theorem dJ0_checkBoundsBeginEnd_23922_9 : decode cJ0_checkBoundsBeginEnd_23922 9 = .ok (.pop, 1) := by decide +kernel
theorem dJ0_checkBoundsBeginEnd_23922_10 : decode cJ0_checkBoundsBeginEnd_23922 10 = .ok (.return_, 1) := by decide +kernel
theorem dJ1_charAt_3b067_0 : decode cJ1_charAt_3b067 0 = .ok (.iload_n 1, 1) := by decide +kernel
theorem dJ1_charAt_3b067_1 : decode cJ1_charAt_3b067 1 = .ok (.aload_n 0, 1) := by decide +kernel
theorem dJ1_charAt_3b067_2 : decode cJ1_charAt_3b067 2 = .ok (.arraylength, 1) := by decide +kernel
theorem dJ1_charAt_3b067_3 : decode cJ1_charAt_3b067 3 = .ok (.invokestatic 9, 3) := by decide +kernel
theorem dJ1_charAt_3b067_6 : decode cJ1_charAt_3b067 6 = .ok (.aload_n 0, 1) := by decide +kernel
theorem dJ1_charAt_3b067_7 : decode cJ1_charAt_3b067 7 = .ok (.iload_n 1, 1) := by decide +kernel
theorem dJ1_charAt_3b067_8 : decode cJ1_charAt_3b067 8 = .ok (.baload, 1) := by decide +kernel
theorem dJ1_charAt_3b067_9 : decode cJ1_charAt_3b067 9 = .ok (.sipush 255, 3) := by decide +kernel
theorem dJ1_charAt_3b067_12 : decode cJ1_charAt_3b067 12 = .ok (.iand, 1) := by decide +kernel
theorem dJ1_charAt_3b067_13 : decode cJ1_charAt_3b067 13 = .ok (.i2c, 1) := by decide +kernel
theorem dJ1_charAt_3b067_14 : decode cJ1_charAt_3b067 14 = .ok (.ireturn, 1) := by decide +kernel
theorem dJ1_canEncode_9a6ad_0 : decode cJ1_canEncode_9a6ad 0 = .ok (.iload_n 0, 1) := by decide +kernel
theorem dJ1_canEncode_9a6ad_1 : decode cJ1_canEncode_9a6ad 1 = .ok (.ifCond .lt 14, 3) := by decide +kernel
theorem dJ1_canEncode_9a6ad_4 : decode cJ1_canEncode_9a6ad 4 = .ok (.iload_n 0, 1) := by decide +kernel
theorem dJ1_canEncode_9a6ad_5 : decode cJ1_canEncode_9a6ad 5 = .ok (.sipush 255, 3) := by decide +kernel
theorem dJ1_canEncode_9a6ad_8 : decode cJ1_canEncode_9a6ad 8 = .ok (.if_icmp .gt 7, 3) := by decide +kernel
theorem dJ1_canEncode_9a6ad_11 : decode cJ1_canEncode_9a6ad 11 = .ok (.iconst 1, 1) := by decide +kernel
theorem dJ1_canEncode_9a6ad_12 : decode cJ1_canEncode_9a6ad 12 = .ok (.goto 4, 3) := by decide +kernel
theorem dJ1_canEncode_9a6ad_15 : decode cJ1_canEncode_9a6ad 15 = .ok (.iconst 0, 1) := by decide +kernel
theorem dJ1_canEncode_9a6ad_16 : decode cJ1_canEncode_9a6ad 16 = .ok (.ireturn, 1) := by decide +kernel
theorem dJ1_indexOf_4cfef_0 : decode cJ1_indexOf_4cfef 0 = .ok (.iload_n 1, 1) := by decide +kernel
theorem dJ1_indexOf_4cfef_1 : decode cJ1_indexOf_4cfef 1 = .ok (.invokestatic 88, 3) := by decide +kernel
theorem dJ1_indexOf_4cfef_4 : decode cJ1_indexOf_4cfef 4 = .ok (.ifCond .ne 5, 3) := by decide +kernel
theorem dJ1_indexOf_4cfef_7 : decode cJ1_indexOf_4cfef 7 = .ok (.iconst (-1), 1) := by decide +kernel
theorem dJ1_indexOf_4cfef_8 : decode cJ1_indexOf_4cfef 8 = .ok (.ireturn, 1) := by decide +kernel
theorem dJ1_indexOf_4cfef_9 : decode cJ1_indexOf_4cfef 9 = .ok (.iload_n 2, 1) := by decide +kernel
theorem dJ1_indexOf_4cfef_10 : decode cJ1_indexOf_4cfef 10 = .ok (.iconst 0, 1) := by decide +kernel
theorem dJ1_indexOf_4cfef_11 : decode cJ1_indexOf_4cfef 11 = .ok (.invokestatic 92, 3) := by decide +kernel
theorem dJ1_indexOf_4cfef_14 : decode cJ1_indexOf_4cfef 14 = .ok (.istore_n 2, 1) := by decide +kernel
theorem dJ1_indexOf_4cfef_15 : decode cJ1_indexOf_4cfef 15 = .ok (.iload_n 3, 1) := by decide +kernel
theorem dJ1_indexOf_4cfef_16 : decode cJ1_indexOf_4cfef 16 = .ok (.aload_n 0, 1) := by decide +kernel
theorem dJ1_indexOf_4cfef_17 : decode cJ1_indexOf_4cfef 17 = .ok (.arraylength, 1) := by decide +kernel
theorem dJ1_indexOf_4cfef_18 : decode cJ1_indexOf_4cfef 18 = .ok (.invokestatic 38, 3) := by decide +kernel
theorem dJ1_indexOf_4cfef_21 : decode cJ1_indexOf_4cfef 21 = .ok (.istore_n 3, 1) := by decide +kernel
theorem dJ1_indexOf_4cfef_22 : decode cJ1_indexOf_4cfef 22 = .ok (.iload_n 2, 1) := by decide +kernel
theorem dJ1_indexOf_4cfef_23 : decode cJ1_indexOf_4cfef 23 = .ok (.iload_n 3, 1) := by decide +kernel
theorem dJ1_indexOf_4cfef_24 : decode cJ1_indexOf_4cfef 24 = .ok (.if_icmp .lt 5, 3) := by decide +kernel
theorem dJ1_indexOf_4cfef_27 : decode cJ1_indexOf_4cfef 27 = .ok (.iconst (-1), 1) := by decide +kernel
theorem dJ1_indexOf_4cfef_28 : decode cJ1_indexOf_4cfef 28 = .ok (.ireturn, 1) := by decide +kernel
theorem dJ1_indexOf_4cfef_29 : decode cJ1_indexOf_4cfef 29 = .ok (.aload_n 0, 1) := by decide +kernel
theorem dJ1_indexOf_4cfef_30 : decode cJ1_indexOf_4cfef 30 = .ok (.iload_n 1, 1) := by decide +kernel
theorem dJ1_indexOf_4cfef_31 : decode cJ1_indexOf_4cfef 31 = .ok (.iload_n 2, 1) := by decide +kernel
theorem dJ1_indexOf_4cfef_32 : decode cJ1_indexOf_4cfef 32 = .ok (.iload_n 3, 1) := by decide +kernel
theorem dJ1_indexOf_4cfef_33 : decode cJ1_indexOf_4cfef 33 = .ok (.invokestatic 95, 3) := by decide +kernel
theorem dJ1_indexOf_4cfef_36 : decode cJ1_indexOf_4cfef 36 = .ok (.ireturn, 1) := by decide +kernel
theorem dJ1_indexOfChar_4cfef_0 : decode cJ1_indexOfChar_4cfef 0 = .ok (.iload_n 1, 1) := by decide +kernel
theorem dJ1_indexOfChar_4cfef_1 : decode cJ1_indexOfChar_4cfef 1 = .ok (.i2b, 1) := by decide +kernel
theorem dJ1_indexOfChar_4cfef_2 : decode cJ1_indexOfChar_4cfef 2 = .ok (.istore 4, 2) := by decide +kernel
theorem dJ1_indexOfChar_4cfef_4 : decode cJ1_indexOfChar_4cfef 4 = .ok (.iload_n 2, 1) := by decide +kernel
theorem dJ1_indexOfChar_4cfef_5 : decode cJ1_indexOfChar_4cfef 5 = .ok (.istore 5, 2) := by decide +kernel
theorem dJ1_indexOfChar_4cfef_7 : decode cJ1_indexOfChar_4cfef 7 = .ok (.iload 5, 2) := by decide +kernel
theorem dJ1_indexOfChar_4cfef_9 : decode cJ1_indexOfChar_4cfef 9 = .ok (.iload_n 3, 1) := by decide +kernel
theorem dJ1_indexOfChar_4cfef_10 : decode cJ1_indexOfChar_4cfef 10 = .ok (.if_icmp .ge 21, 3) := by decide +kernel
theorem dJ1_indexOfChar_4cfef_13 : decode cJ1_indexOfChar_4cfef 13 = .ok (.aload_n 0, 1) := by decide +kernel
theorem dJ1_indexOfChar_4cfef_14 : decode cJ1_indexOfChar_4cfef 14 = .ok (.iload 5, 2) := by decide +kernel
theorem dJ1_indexOfChar_4cfef_16 : decode cJ1_indexOfChar_4cfef 16 = .ok (.baload, 1) := by decide +kernel
theorem dJ1_indexOfChar_4cfef_17 : decode cJ1_indexOfChar_4cfef 17 = .ok (.iload 4, 2) := by decide +kernel
theorem dJ1_indexOfChar_4cfef_19 : decode cJ1_indexOfChar_4cfef 19 = .ok (.if_icmp .ne 6, 3) := by decide +kernel
theorem dJ1_indexOfChar_4cfef_22 : decode cJ1_indexOfChar_4cfef 22 = .ok (.iload 5, 2) := by decide +kernel
theorem dJ1_indexOfChar_4cfef_24 : decode cJ1_indexOfChar_4cfef 24 = .ok (.ireturn, 1) := by decide +kernel
theorem dJ1_indexOfChar_4cfef_25 : decode cJ1_indexOfChar_4cfef 25 = .ok (.iinc 5 1, 3) := by decide +kernel
theorem dJ1_indexOfChar_4cfef_28 : decode cJ1_indexOfChar_4cfef 28 = .ok (.goto (-21), 3) := by decide +kernel
theorem dJ1_indexOfChar_4cfef_31 : decode cJ1_indexOfChar_4cfef 31 = .ok (.iconst (-1), 1) := by decide +kernel
theorem dJ1_indexOfChar_4cfef_32 : decode cJ1_indexOfChar_4cfef 32 = .ok (.ireturn, 1) := by decide +kernel
theorem dJ2_getChar_3b067_0 : decode cJ2_getChar_3b067 0 = .ok (.getstatic 44, 3) := by decide +kernel
theorem dJ2_getChar_3b067_3 : decode cJ2_getChar_3b067 3 = .ok (.ifCond .ne 25, 3) := by decide +kernel
theorem dJ2_getChar_3b067_6 : decode cJ2_getChar_3b067 6 = .ok (.iload_n 1, 1) := by decide +kernel
theorem dJ2_getChar_3b067_7 : decode cJ2_getChar_3b067 7 = .ok (.ifCond .lt 11, 3) := by decide +kernel
theorem dJ2_getChar_3b067_10 : decode cJ2_getChar_3b067 10 = .ok (.iload_n 1, 1) := by decide +kernel
theorem dJ2_getChar_3b067_11 : decode cJ2_getChar_3b067 11 = .ok (.aload_n 0, 1) := by decide +kernel
theorem dJ2_getChar_3b067_12 : decode cJ2_getChar_3b067 12 = .ok (.invokestatic 48, 3) := by decide +kernel
theorem dJ2_getChar_3b067_15 : decode cJ2_getChar_3b067 15 = .ok (.if_icmp .lt 13, 3) := by decide +kernel
theorem dJ2_getChar_3b067_18 : decode cJ2_getChar_3b067 18 = .ok (.new 52, 3) := by decide +kernel
theorem dJ2_getChar_3b067_21 : decode cJ2_getChar_3b067 21 = .ok (.dup, 1) := by decide +kernel
theorem dJ2_getChar_3b067_22 : decode cJ2_getChar_3b067 22 = .ok (.ldc 54, 2) := by decide +kernel
theorem dJ2_getChar_3b067_24 : decode cJ2_getChar_3b067 24 = .ok (.invokespecial 56, 3) := by decide +kernel
theorem dJ2_getChar_3b067_27 : decode cJ2_getChar_3b067 27 = .ok (.athrow, 1) := by decide +kernel
theorem dJ2_getChar_3b067_28 : decode cJ2_getChar_3b067 28 = .ok (.iload_n 1, 1) := by decide +kernel
theorem dJ2_getChar_3b067_29 : decode cJ2_getChar_3b067 29 = .ok (.iconst 1, 1) := by decide +kernel
theorem dJ2_getChar_3b067_30 : decode cJ2_getChar_3b067 30 = .ok (.ishl, 1) := by decide +kernel
theorem dJ2_getChar_3b067_31 : decode cJ2_getChar_3b067 31 = .ok (.istore_n 1, 1) := by decide +kernel
theorem dJ2_getChar_3b067_32 : decode cJ2_getChar_3b067 32 = .ok (.aload_n 0, 1) := by decide +kernel
theorem dJ2_getChar_3b067_33 : decode cJ2_getChar_3b067 33 = .ok (.iload_n 1, 1) := by decide +kernel
theorem dJ2_getChar_3b067_34 : decode cJ2_getChar_3b067 34 = .ok (.iinc 1 1, 3) := by decide +kernel
theorem dJ2_getChar_3b067_37 : decode cJ2_getChar_3b067 37 = .ok (.baload, 1) := by decide +kernel
theorem dJ2_getChar_3b067_38 : decode cJ2_getChar_3b067 38 = .ok (.sipush 255, 3) := by decide +kernel
theorem dJ2_getChar_3b067_41 : decode cJ2_getChar_3b067 41 = .ok (.iand, 1) := by decide +kernel
theorem dJ2_getChar_3b067_42 : decode cJ2_getChar_3b067 42 = .ok (.getstatic 59, 3) := by decide +kernel
theorem dJ2_getChar_3b067_45 : decode cJ2_getChar_3b067 45 = .ok (.ishl, 1) := by decide +kernel
theorem dJ2_getChar_3b067_46 : decode cJ2_getChar_3b067 46 = .ok (.aload_n 0, 1) := by decide +kernel
theorem dJ2_getChar_3b067_47 : decode cJ2_getChar_3b067 47 = .ok (.iload_n 1, 1) := by decide +kernel
theorem dJ2_getChar_3b067_48 : decode cJ2_getChar_3b067 48 = .ok (.baload, 1) := by decide +kernel
theorem dJ2_getChar_3b067_49 : decode cJ2_getChar_3b067 49 = .ok (.sipush 255, 3) := by decide +kernel
theorem dJ2_getChar_3b067_52 : decode cJ2_getChar_3b067 52 = .ok (.iand, 1) := by decide +kernel
theorem dJ2_getChar_3b067_53 : decode cJ2_getChar_3b067 53 = .ok (.getstatic 63, 3) := by decide +kernel
theorem dJ2_getChar_3b067_56 : decode cJ2_getChar_3b067 56 = .ok (.ishl, 1) := by decide +kernel
theorem dJ2_getChar_3b067_57 : decode cJ2_getChar_3b067 57 = .ok (.ior, 1) := by decide +kernel
theorem dJ2_getChar_3b067_58 : decode cJ2_getChar_3b067 58 = .ok (.i2c, 1) := by decide +kernel
theorem dJ2_getChar_3b067_59 : decode cJ2_getChar_3b067 59 = .ok (.ireturn, 1) := by decide +kernel
theorem dJ2_length_9d52b_0 : decode cJ2_length_9d52b 0 = .ok (.aload_n 0, 1) := by decide +kernel
theorem dJ2_length_9d52b_1 : decode cJ2_length_9d52b 1 = .ok (.arraylength, 1) := by decide +kernel
theorem dJ2_length_9d52b_2 : decode cJ2_length_9d52b 2 = .ok (.iconst 1, 1) := by decide +kernel
theorem dJ2_length_9d52b_3 : decode cJ2_length_9d52b 3 = .ok (.ishr, 1) := by decide +kernel
theorem dJ2_length_9d52b_4 : decode cJ2_length_9d52b 4 = .ok (.ireturn, 1) := by decide +kernel
theorem dJ2_indexOf_4cfef_0 : decode cJ2_indexOf_4cfef 0 = .ok (.iload_n 2, 1) := by decide +kernel
theorem dJ2_indexOf_4cfef_1 : decode cJ2_indexOf_4cfef 1 = .ok (.iconst 0, 1) := by decide +kernel
theorem dJ2_indexOf_4cfef_2 : decode cJ2_indexOf_4cfef 2 = .ok (.invokestatic 224, 3) := by decide +kernel
theorem dJ2_indexOf_4cfef_5 : decode cJ2_indexOf_4cfef 5 = .ok (.istore_n 2, 1) := by decide +kernel
theorem dJ2_indexOf_4cfef_6 : decode cJ2_indexOf_4cfef 6 = .ok (.iload_n 3, 1) := by decide +kernel
theorem dJ2_indexOf_4cfef_7 : decode cJ2_indexOf_4cfef 7 = .ok (.aload_n 0, 1) := by decide +kernel
theorem dJ2_indexOf_4cfef_8 : decode cJ2_indexOf_4cfef 8 = .ok (.arraylength, 1) := by decide +kernel
theorem dJ2_indexOf_4cfef_9 : decode cJ2_indexOf_4cfef 9 = .ok (.iconst 1, 1) := by decide +kernel
theorem dJ2_indexOf_4cfef_10 : decode cJ2_indexOf_4cfef 10 = .ok (.ishr, 1) := by decide +kernel
theorem dJ2_indexOf_4cfef_11 : decode cJ2_indexOf_4cfef 11 = .ok (.invokestatic 183, 3) := by decide +kernel
theorem dJ2_indexOf_4cfef_14 : decode cJ2_indexOf_4cfef 14 = .ok (.istore_n 3, 1) := by decide +kernel
theorem dJ2_indexOf_4cfef_15 : decode cJ2_indexOf_4cfef 15 = .ok (.iload_n 2, 1) := by decide +kernel
theorem dJ2_indexOf_4cfef_16 : decode cJ2_indexOf_4cfef 16 = .ok (.iload_n 3, 1) := by decide +kernel
theorem dJ2_indexOf_4cfef_17 : decode cJ2_indexOf_4cfef 17 = .ok (.if_icmp .lt 5, 3) := by decide +kernel
theorem dJ2_indexOf_4cfef_20 : decode cJ2_indexOf_4cfef 20 = .ok (.iconst (-1), 1) := by decide +kernel
theorem dJ2_indexOf_4cfef_21 : decode cJ2_indexOf_4cfef 21 = .ok (.ireturn, 1) := by decide +kernel
theorem dJ2_indexOf_4cfef_22 : decode cJ2_indexOf_4cfef 22 = .ok (.iload_n 1, 1) := by decide +kernel
theorem dJ2_indexOf_4cfef_23 : decode cJ2_indexOf_4cfef 23 = .ok (.ldc 227, 2) := by decide +kernel
theorem dJ2_indexOf_4cfef_25 : decode cJ2_indexOf_4cfef 25 = .ok (.if_icmp .ge 11, 3) := by decide +kernel
theorem dJ2_indexOf_4cfef_28 : decode cJ2_indexOf_4cfef 28 = .ok (.aload_n 0, 1) := by decide +kernel
theorem dJ2_indexOf_4cfef_29 : decode cJ2_indexOf_4cfef 29 = .ok (.iload_n 1, 1) := by decide +kernel
theorem dJ2_indexOf_4cfef_30 : decode cJ2_indexOf_4cfef 30 = .ok (.iload_n 2, 1) := by decide +kernel
theorem dJ2_indexOf_4cfef_31 : decode cJ2_indexOf_4cfef 31 = .ok (.iload_n 3, 1) := by decide +kernel
theorem dJ2_indexOf_4cfef_32 : decode cJ2_indexOf_4cfef 32 = .ok (.invokestatic 228, 3) := by decide +kernel
theorem dJ2_indexOf_4cfef_35 : decode cJ2_indexOf_4cfef 35 = .ok (.ireturn, 1) := by decide +kernel
theorem dJ2_indexOf_4cfef_36 : decode cJ2_indexOf_4cfef 36 = .ok (.aload_n 0, 1) := by decide +kernel
theorem dJ2_indexOf_4cfef_37 : decode cJ2_indexOf_4cfef 37 = .ok (.iload_n 1, 1) := by decide +kernel
theorem dJ2_indexOf_4cfef_38 : decode cJ2_indexOf_4cfef 38 = .ok (.iload_n 2, 1) := by decide +kernel
theorem dJ2_indexOf_4cfef_39 : decode cJ2_indexOf_4cfef 39 = .ok (.iload_n 3, 1) := by decide +kernel
theorem dJ2_indexOf_4cfef_40 : decode cJ2_indexOf_4cfef 40 = .ok (.invokestatic 232, 3) := by decide +kernel
theorem dJ2_indexOf_4cfef_43 : decode cJ2_indexOf_4cfef 43 = .ok (.ireturn, 1) := by decide +kernel
theorem dJ2_indexOfChar_4cfef_0 : decode cJ2_indexOfChar_4cfef 0 = .ok (.iload_n 2, 1) := by decide +kernel
theorem dJ2_indexOfChar_4cfef_1 : decode cJ2_indexOfChar_4cfef 1 = .ok (.iload_n 3, 1) := by decide +kernel
theorem dJ2_indexOfChar_4cfef_2 : decode cJ2_indexOfChar_4cfef 2 = .ok (.aload_n 0, 1) := by decide +kernel
theorem dJ2_indexOfChar_4cfef_3 : decode cJ2_indexOfChar_4cfef 3 = .ok (.invokestatic 96, 3) := by decide +kernel
theorem dJ2_indexOfChar_4cfef_6 : decode cJ2_indexOfChar_4cfef 6 = .ok (.aload_n 0, 1) := by decide +kernel
theorem dJ2_indexOfChar_4cfef_7 : decode cJ2_indexOfChar_4cfef 7 = .ok (.iload_n 1, 1) := by decide +kernel
theorem dJ2_indexOfChar_4cfef_8 : decode cJ2_indexOfChar_4cfef 8 = .ok (.iload_n 2, 1) := by decide +kernel
theorem dJ2_indexOfChar_4cfef_9 : decode cJ2_indexOfChar_4cfef 9 = .ok (.iload_n 3, 1) := by decide +kernel
theorem dJ2_indexOfChar_4cfef_10 : decode cJ2_indexOfChar_4cfef 10 = .ok (.invokestatic 244, 3) := by decide +kernel
theorem dJ2_indexOfChar_4cfef_13 : decode cJ2_indexOfChar_4cfef 13 = .ok (.ireturn, 1) := by decide +kernel
theorem dJ2_indexOfCharUnsafe_4cfef_0 : decode cJ2_indexOfCharUnsafe_4cfef 0 = .ok (.iload_n 2, 1) := by decide +kernel
theorem dJ2_indexOfCharUnsafe_4cfef_1 : decode cJ2_indexOfCharUnsafe_4cfef 1 = .ok (.istore 4, 2) := by decide +kernel
theorem dJ2_indexOfCharUnsafe_4cfef_3 : decode cJ2_indexOfCharUnsafe_4cfef 3 = .ok (.iload 4, 2) := by decide +kernel
theorem dJ2_indexOfCharUnsafe_4cfef_5 : decode cJ2_indexOfCharUnsafe_4cfef 5 = .ok (.iload_n 3, 1) := by decide +kernel
theorem dJ2_indexOfCharUnsafe_4cfef_6 : decode cJ2_indexOfCharUnsafe_4cfef 6 = .ok (.if_icmp .ge 22, 3) := by decide +kernel
theorem dJ2_indexOfCharUnsafe_4cfef_9 : decode cJ2_indexOfCharUnsafe_4cfef 9 = .ok (.aload_n 0, 1) := by decide +kernel
theorem dJ2_indexOfCharUnsafe_4cfef_10 : decode cJ2_indexOfCharUnsafe_4cfef 10 = .ok (.iload 4, 2) := by decide +kernel
theorem dJ2_indexOfCharUnsafe_4cfef_12 : decode cJ2_indexOfCharUnsafe_4cfef 12 = .ok (.invokestatic 71, 3) := by decide +kernel
theorem dJ2_indexOfCharUnsafe_4cfef_15 : decode cJ2_indexOfCharUnsafe_4cfef 15 = .ok (.iload_n 1, 1) := by decide +kernel
theorem dJ2_indexOfCharUnsafe_4cfef_16 : decode cJ2_indexOfCharUnsafe_4cfef 16 = .ok (.if_icmp .ne 6, 3) := by decide +kernel
theorem dJ2_indexOfCharUnsafe_4cfef_19 : decode cJ2_indexOfCharUnsafe_4cfef 19 = .ok (.iload 4, 2) := by decide +kernel
theorem dJ2_indexOfCharUnsafe_4cfef_21 : decode cJ2_indexOfCharUnsafe_4cfef 21 = .ok (.ireturn, 1) := by decide +kernel
theorem dJ2_indexOfCharUnsafe_4cfef_22 : decode cJ2_indexOfCharUnsafe_4cfef 22 = .ok (.iinc 4 1, 3) := by decide +kernel
theorem dJ2_indexOfCharUnsafe_4cfef_25 : decode cJ2_indexOfCharUnsafe_4cfef 25 = .ok (.goto (-22), 3) := by decide +kernel
theorem dJ2_indexOfCharUnsafe_4cfef_28 : decode cJ2_indexOfCharUnsafe_4cfef 28 = .ok (.iconst (-1), 1) := by decide +kernel
theorem dJ2_indexOfCharUnsafe_4cfef_29 : decode cJ2_indexOfCharUnsafe_4cfef 29 = .ok (.ireturn, 1) := by decide +kernel
theorem dJ2_indexOfSupplementary_4cfef_0 : decode cJ2_indexOfSupplementary_4cfef 0 = .ok (.iload_n 1, 1) := by decide +kernel
theorem dJ2_indexOfSupplementary_4cfef_1 : decode cJ2_indexOfSupplementary_4cfef 1 = .ok (.invokestatic 164, 3) := by decide +kernel
theorem dJ2_indexOfSupplementary_4cfef_4 : decode cJ2_indexOfSupplementary_4cfef 4 = .ok (.ifCond .eq 65, 3) := by decide +kernel
theorem dJ2_indexOfSupplementary_4cfef_7 : decode cJ2_indexOfSupplementary_4cfef 7 = .ok (.iload_n 1, 1) := by decide +kernel
theorem dJ2_indexOfSupplementary_4cfef_8 : decode cJ2_indexOfSupplementary_4cfef 8 = .ok (.invokestatic 157, 3) := by decide +kernel
theorem dJ2_indexOfSupplementary_4cfef_11 : decode cJ2_indexOfSupplementary_4cfef 11 = .ok (.istore 4, 2) := by decide +kernel
theorem dJ2_indexOfSupplementary_4cfef_13 : decode cJ2_indexOfSupplementary_4cfef 13 = .ok (.iload_n 1, 1) := by decide +kernel
theorem dJ2_indexOfSupplementary_4cfef_14 : decode cJ2_indexOfSupplementary_4cfef 14 = .ok (.invokestatic 161, 3) := by decide +kernel
theorem dJ2_indexOfSupplementary_4cfef_17 : decode cJ2_indexOfSupplementary_4cfef 17 = .ok (.istore 5, 2) := by decide +kernel
theorem dJ2_indexOfSupplementary_4cfef_19 : decode cJ2_indexOfSupplementary_4cfef 19 = .ok (.iload_n 2, 1) := by decide +kernel
theorem dJ2_indexOfSupplementary_4cfef_20 : decode cJ2_indexOfSupplementary_4cfef 20 = .ok (.iload_n 3, 1) := by decide +kernel
theorem dJ2_indexOfSupplementary_4cfef_21 : decode cJ2_indexOfSupplementary_4cfef 21 = .ok (.aload_n 0, 1) := by decide +kernel
theorem dJ2_indexOfSupplementary_4cfef_22 : decode cJ2_indexOfSupplementary_4cfef 22 = .ok (.invokestatic 96, 3) := by decide +kernel
theorem dJ2_indexOfSupplementary_4cfef_25 : decode cJ2_indexOfSupplementary_4cfef 25 = .ok (.iload_n 2, 1) := by decide +kernel
theorem dJ2_indexOfSupplementary_4cfef_26 : decode cJ2_indexOfSupplementary_4cfef 26 = .ok (.istore 6, 2) := by decide +kernel
theorem dJ2_indexOfSupplementary_4cfef_28 : decode cJ2_indexOfSupplementary_4cfef 28 = .ok (.iload 6, 2) := by decide +kernel
theorem dJ2_indexOfSupplementary_4cfef_30 : decode cJ2_indexOfSupplementary_4cfef 30 = .ok (.iload_n 3, 1) := by decide +kernel
theorem dJ2_indexOfSupplementary_4cfef_31 : decode cJ2_indexOfSupplementary_4cfef 31 = .ok (.iconst 1, 1) := by decide +kernel
theorem dJ2_indexOfSupplementary_4cfef_32 : decode cJ2_indexOfSupplementary_4cfef 32 = .ok (.isub, 1) := by decide +kernel
theorem dJ2_indexOfSupplementary_4cfef_33 : decode cJ2_indexOfSupplementary_4cfef 33 = .ok (.if_icmp .ge 36, 3) := by decide +kernel
theorem dJ2_indexOfSupplementary_4cfef_36 : decode cJ2_indexOfSupplementary_4cfef 36 = .ok (.aload_n 0, 1) := by decide +kernel
theorem dJ2_indexOfSupplementary_4cfef_37 : decode cJ2_indexOfSupplementary_4cfef 37 = .ok (.iload 6, 2) := by decide +kernel
theorem dJ2_indexOfSupplementary_4cfef_39 : decode cJ2_indexOfSupplementary_4cfef 39 = .ok (.invokestatic 71, 3) := by decide +kernel
theorem dJ2_indexOfSupplementary_4cfef_42 : decode cJ2_indexOfSupplementary_4cfef 42 = .ok (.iload 4, 2) := by decide +kernel
theorem dJ2_indexOfSupplementary_4cfef_44 : decode cJ2_indexOfSupplementary_4cfef 44 = .ok (.if_icmp .ne 19, 3) := by decide +kernel
theorem dJ2_indexOfSupplementary_4cfef_47 : decode cJ2_indexOfSupplementary_4cfef 47 = .ok (.aload_n 0, 1) := by decide +kernel
theorem dJ2_indexOfSupplementary_4cfef_48 : decode cJ2_indexOfSupplementary_4cfef 48 = .ok (.iload 6, 2) := by decide +kernel
theorem dJ2_indexOfSupplementary_4cfef_50 : decode cJ2_indexOfSupplementary_4cfef 50 = .ok (.iconst 1, 1) := by decide +kernel
theorem dJ2_indexOfSupplementary_4cfef_51 : decode cJ2_indexOfSupplementary_4cfef 51 = .ok (.iadd, 1) := by decide +kernel
theorem dJ2_indexOfSupplementary_4cfef_52 : decode cJ2_indexOfSupplementary_4cfef 52 = .ok (.invokestatic 71, 3) := by decide +kernel
theorem dJ2_indexOfSupplementary_4cfef_55 : decode cJ2_indexOfSupplementary_4cfef 55 = .ok (.iload 5, 2) := by decide +kernel
theorem dJ2_indexOfSupplementary_4cfef_57 : decode cJ2_indexOfSupplementary_4cfef 57 = .ok (.if_icmp .ne 6, 3) := by decide +kernel
theorem dJ2_indexOfSupplementary_4cfef_60 : decode cJ2_indexOfSupplementary_4cfef 60 = .ok (.iload 6, 2) := by decide +kernel
theorem dJ2_indexOfSupplementary_4cfef_62 : decode cJ2_indexOfSupplementary_4cfef 62 = .ok (.ireturn, 1) := by decide +kernel
theorem dJ2_indexOfSupplementary_4cfef_63 : decode cJ2_indexOfSupplementary_4cfef 63 = .ok (.iinc 6 1, 3) := by decide +kernel
theorem dJ2_indexOfSupplementary_4cfef_66 : decode cJ2_indexOfSupplementary_4cfef 66 = .ok (.goto (-38), 3) := by decide +kernel
theorem dJ2_indexOfSupplementary_4cfef_69 : decode cJ2_indexOfSupplementary_4cfef 69 = .ok (.iconst (-1), 1) := by decide +kernel
theorem dJ2_indexOfSupplementary_4cfef_70 : decode cJ2_indexOfSupplementary_4cfef 70 = .ok (.ireturn, 1) := by decide +kernel
theorem dJ2_charAt_3b067_0 : decode cJ2_charAt_3b067 0 = .ok (.iload_n 1, 1) := by decide +kernel
theorem dJ2_charAt_3b067_1 : decode cJ2_charAt_3b067 1 = .ok (.aload_n 0, 1) := by decide +kernel
theorem dJ2_charAt_3b067_2 : decode cJ2_charAt_3b067 2 = .ok (.invokestatic 67, 3) := by decide +kernel
theorem dJ2_charAt_3b067_5 : decode cJ2_charAt_3b067 5 = .ok (.aload_n 0, 1) := by decide +kernel
theorem dJ2_charAt_3b067_6 : decode cJ2_charAt_3b067 6 = .ok (.iload_n 1, 1) := by decide +kernel
theorem dJ2_charAt_3b067_7 : decode cJ2_charAt_3b067 7 = .ok (.invokestatic 71, 3) := by decide +kernel
theorem dJ2_charAt_3b067_10 : decode cJ2_charAt_3b067 10 = .ok (.ireturn, 1) := by decide +kernel
theorem dJ2_checkIndex_2214a_0 : decode cJ2_checkIndex_2214a 0 = .ok (.iload_n 0, 1) := by decide +kernel
theorem dJ2_checkIndex_2214a_1 : decode cJ2_checkIndex_2214a 1 = .ok (.aload_n 1, 1) := by decide +kernel
theorem dJ2_checkIndex_2214a_2 : decode cJ2_checkIndex_2214a 2 = .ok (.invokestatic 48, 3) := by decide +kernel
theorem dJ2_checkIndex_2214a_5 : decode cJ2_checkIndex_2214a 5 = .ok (.invokestatic 414, 3) := by decide +kernel
theorem dJ2_checkIndex_2214a_8 : decode cJ2_checkIndex_2214a 8 = .ok (.return_, 1) := by decide +kernel
theorem dJ2_checkBoundsBeginEnd_d044e_0 : decode cJ2_checkBoundsBeginEnd_d044e 0 = .ok (.iload_n 0, 1) := by decide +kernel
theorem dJ2_checkBoundsBeginEnd_d044e_1 : decode cJ2_checkBoundsBeginEnd_d044e 1 = .ok (.iload_n 1, 1) := by decide +kernel
theorem dJ2_checkBoundsBeginEnd_d044e_2 : decode cJ2_checkBoundsBeginEnd_d044e 2 = .ok (.aload_n 2, 1) := by decide +kernel
theorem dJ2_checkBoundsBeginEnd_d044e_3 : decode cJ2_checkBoundsBeginEnd_d044e 3 = .ok (.invokestatic 48, 3) := by decide +kernel
theorem dJ2_checkBoundsBeginEnd_d044e_6 : decode cJ2_checkBoundsBeginEnd_d044e 6 = .ok (.invokestatic 241, 3) := by decide +kernel
theorem dJ2_checkBoundsBeginEnd_d044e_9 : decode cJ2_checkBoundsBeginEnd_d044e 9 = .ok (.return_, 1) := by decide +kernel
theorem dJ7_fill_d0a16_0 : decode cJ7_fill_d0a16 0 = .ok (.iconst 0, 1) := by decide +kernel
theorem dJ7_fill_d0a16_1 : decode cJ7_fill_d0a16 1 = .ok (.istore_n 3, 1) := by decide +kernel
theorem dJ7_fill_d0a16_2 : decode cJ7_fill_d0a16 2 = .ok (.aload_n 0, 1) := by decide +kernel
theorem dJ7_fill_d0a16_3 : decode cJ7_fill_d0a16 3 = .ok (.arraylength, 1) := by decide +kernel
theorem dJ7_fill_d0a16_4 : decode cJ7_fill_d0a16 4 = .ok (.istore 4, 2) := by decide +kernel
theorem dJ7_fill_d0a16_6 : decode cJ7_fill_d0a16 6 = .ok (.iload_n 3, 1) := by decide +kernel
theorem dJ7_fill_d0a16_7 : decode cJ7_fill_d0a16 7 = .ok (.iload 4, 2) := by decide +kernel
theorem dJ7_fill_d0a16_9 : decode cJ7_fill_d0a16 9 = .ok (.if_icmp .ge 13, 3) := by decide +kernel
theorem dJ7_fill_d0a16_12 : decode cJ7_fill_d0a16 12 = .ok (.aload_n 0, 1) := by decide +kernel
theorem dJ7_fill_d0a16_13 : decode cJ7_fill_d0a16 13 = .ok (.iload_n 3, 1) := by decide +kernel
theorem dJ7_fill_d0a16_14 : decode cJ7_fill_d0a16 14 = .ok (.lload_n 1, 1) := by decide +kernel
theorem dJ7_fill_d0a16_15 : decode cJ7_fill_d0a16 15 = .ok (.lastore, 1) := by decide +kernel
theorem dJ7_fill_d0a16_16 : decode cJ7_fill_d0a16 16 = .ok (.iinc 3 1, 3) := by decide +kernel
theorem dJ7_fill_d0a16_19 : decode cJ7_fill_d0a16 19 = .ok (.goto (-13), 3) := by decide +kernel
theorem dJ7_fill_d0a16_22 : decode cJ7_fill_d0a16 22 = .ok (.return_, 1) := by decide +kernel
theorem dJ7_fill_53178_0 : decode cJ7_fill_53178 0 = .ok (.iconst 0, 1) := by decide +kernel
theorem dJ7_fill_53178_1 : decode cJ7_fill_53178 1 = .ok (.istore_n 2, 1) := by decide +kernel
theorem dJ7_fill_53178_2 : decode cJ7_fill_53178 2 = .ok (.aload_n 0, 1) := by decide +kernel
theorem dJ7_fill_53178_3 : decode cJ7_fill_53178 3 = .ok (.arraylength, 1) := by decide +kernel
theorem dJ7_fill_53178_4 : decode cJ7_fill_53178 4 = .ok (.istore_n 3, 1) := by decide +kernel
theorem dJ7_fill_53178_5 : decode cJ7_fill_53178 5 = .ok (.iload_n 2, 1) := by decide +kernel
theorem dJ7_fill_53178_6 : decode cJ7_fill_53178 6 = .ok (.iload_n 3, 1) := by decide +kernel
theorem dJ7_fill_53178_7 : decode cJ7_fill_53178 7 = .ok (.if_icmp .ge 13, 3) := by decide +kernel
theorem dJ7_fill_53178_10 : decode cJ7_fill_53178 10 = .ok (.aload_n 0, 1) := by decide +kernel
theorem dJ7_fill_53178_11 : decode cJ7_fill_53178 11 = .ok (.iload_n 2, 1) := by decide +kernel
theorem dJ7_fill_53178_12 : decode cJ7_fill_53178 12 = .ok (.iload_n 1, 1) := by decide +kernel
theorem dJ7_fill_53178_13 : decode cJ7_fill_53178 13 = .ok (.iastore, 1) := by decide +kernel
theorem dJ7_fill_53178_14 : decode cJ7_fill_53178 14 = .ok (.iinc 2 1, 3) := by decide +kernel
theorem dJ7_fill_53178_17 : decode cJ7_fill_53178 17 = .ok (.goto (-12), 3) := by decide +kernel
theorem dJ7_fill_53178_20 : decode cJ7_fill_53178 20 = .ok (.return_, 1) := by decide +kernel
theorem dJ3_checkIndex_8e157_0 : decode cJ3_checkIndex_8e157 0 = .ok (.iload_n 0, 1) := by decide +kernel
theorem dJ3_checkIndex_8e157_1 : decode cJ3_checkIndex_8e157 1 = .ok (.ifCond .lt 8, 3) := by decide +kernel
theorem dJ3_checkIndex_8e157_4 : decode cJ3_checkIndex_8e157 4 = .ok (.iload_n 0, 1) := by decide +kernel
theorem dJ3_checkIndex_8e157_5 : decode cJ3_checkIndex_8e157 5 = .ok (.iload_n 1, 1) := by decide +kernel
theorem dJ3_checkIndex_8e157_6 : decode cJ3_checkIndex_8e157 6 = .ok (.if_icmp .lt 10, 3) := by decide +kernel
theorem dJ3_checkIndex_8e157_9 : decode cJ3_checkIndex_8e157 9 = .ok (.aload_n 2, 1) := by decide +kernel
theorem dJ3_checkIndex_8e157_10 : decode cJ3_checkIndex_8e157 10 = .ok (.iload_n 0, 1) := by decide +kernel
theorem dJ3_checkIndex_8e157_11 : decode cJ3_checkIndex_8e157 11 = .ok (.iload_n 1, 1) := by decide +kernel
theorem dJ3_checkIndex_8e157_12 : decode cJ3_checkIndex_8e157 12 = .ok (.invokestatic 95, 3) := by decide +kernel
theorem dJ3_checkIndex_8e157_15 : decode cJ3_checkIndex_8e157 15 = .ok (.athrow, 1) := by decide +kernel
theorem dJ3_checkIndex_8e157_16 : decode cJ3_checkIndex_8e157 16 = .ok (.iload_n 0, 1) := by decide +kernel
theorem dJ3_checkIndex_8e157_17 : decode cJ3_checkIndex_8e157 17 = .ok (.ireturn, 1) := by decide +kernel
theorem dJ3_checkFromToIndex_8c36e_0 : decode cJ3_checkFromToIndex_8c36e 0 = .ok (.iload_n 0, 1) := by decide +kernel
theorem dJ3_checkFromToIndex_8c36e_1 : decode cJ3_checkFromToIndex_8c36e 1 = .ok (.ifCond .lt 13, 3) := by decide +kernel
theorem dJ3_checkFromToIndex_8c36e_4 : decode cJ3_checkFromToIndex_8c36e 4 = .ok (.iload_n 0, 1) := by decide +kernel
theorem dJ3_checkFromToIndex_8c36e_5 : decode cJ3_checkFromToIndex_8c36e 5 = .ok (.iload_n 1, 1) := by decide +kernel
theorem dJ3_checkFromToIndex_8c36e_6 : decode cJ3_checkFromToIndex_8c36e 6 = .ok (.if_icmp .gt 8, 3) := by decide +kernel
theorem dJ3_checkFromToIndex_8c36e_9 : decode cJ3_checkFromToIndex_8c36e 9 = .ok (.iload_n 1, 1) := by decide +kernel
theorem dJ3_checkFromToIndex_8c36e_10 : decode cJ3_checkFromToIndex_8c36e 10 = .ok (.iload_n 2, 1) := by decide +kernel
theorem dJ3_checkFromToIndex_8c36e_11 : decode cJ3_checkFromToIndex_8c36e 11 = .ok (.if_icmp .le 11, 3) := by decide +kernel
theorem dJ3_checkFromToIndex_8c36e_14 : decode cJ3_checkFromToIndex_8c36e 14 = .ok (.aload_n 3, 1) := by decide +kernel
theorem dJ3_checkFromToIndex_8c36e_15 : decode cJ3_checkFromToIndex_8c36e 15 = .ok (.iload_n 0, 1) := by decide +kernel
theorem dJ3_checkFromToIndex_8c36e_16 : decode cJ3_checkFromToIndex_8c36e 16 = .ok (.iload_n 1, 1) := by decide +kernel
theorem dJ3_checkFromToIndex_8c36e_17 : decode cJ3_checkFromToIndex_8c36e 17 = .ok (.iload_n 2, 1) := by decide +kernel
theorem dJ3_checkFromToIndex_8c36e_18 : decode cJ3_checkFromToIndex_8c36e 18 = .ok (.invokestatic 99, 3) := by decide +kernel
theorem dJ3_checkFromToIndex_8c36e_21 : decode cJ3_checkFromToIndex_8c36e 21 = .ok (.athrow, 1) := by decide +kernel
theorem dJ3_checkFromToIndex_8c36e_22 : decode cJ3_checkFromToIndex_8c36e 22 = .ok (.iload_n 0, 1) := by decide +kernel
theorem dJ3_checkFromToIndex_8c36e_23 : decode cJ3_checkFromToIndex_8c36e 23 = .ok (.ireturn, 1) := by decide +kernel
