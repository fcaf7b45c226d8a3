theorem dX11_init_0 : decode cX11_init 0 = .ok (.aload_n 0, 1) := by decide +kernel
theorem dX11_init_1 : decode cX11_init 1 = .ok (.invokespecial 3, 3) := by decide +kernel
theorem dX11_init_4 : decode cX11_init 4 = .ok (.aload_n 0, 1) := by decide +kernel
theorem dX11_init_5 : decode cX11_init 5 = .ok (.bipush 6, 2) := by decide +kernel
theorem dX11_init_7 : decode cX11_init 7 = .ok (.newarray .int, 2) := by decide +kernel
theorem dX11_init_9 : decode cX11_init 9 = .ok (.putfield 9, 3) := by decide +kernel
theorem dX11_init_12 : decode cX11_init 12 = .ok (.aload_n 0, 1) := by decide +kernel
theorem dX11_init_13 : decode cX11_init 13 = .ok (.bipush 6, 2) := by decide +kernel
theorem dX11_init_15 : decode cX11_init 15 = .ok (.newarray .int, 2) := by decide +kernel
theorem dX11_init_17 : decode cX11_init 17 = .ok (.putfield 15, 3) := by decide +kernel
theorem dX11_init_20 : decode cX11_init 20 = .ok (.aload_n 0, 1) := by decide +kernel
theorem dX11_init_21 : decode cX11_init 21 = .ok (.bipush 6, 2) := by decide +kernel
theorem dX11_init_23 : decode cX11_init 23 = .ok (.newarray .int, 2) := by decide +kernel
theorem dX11_init_25 : decode cX11_init 25 = .ok (.putfield 18, 3) := by decide +kernel
theorem dX11_init_28 : decode cX11_init 28 = .ok (.aload_n 0, 1) := by decide +kernel
theorem dX11_init_29 : decode cX11_init 29 = .ok (.bipush 6, 2) := by decide +kernel
theorem dX11_init_31 : decode cX11_init 31 = .ok (.newarray .int, 2) := by decide +kernel
theorem dX11_init_33 : decode cX11_init 33 = .ok (.putfield 21, 3) := by decide +kernel
theorem dX11_init_36 : decode cX11_init 36 = .ok (.aload_n 0, 1) := by decide +kernel
theorem dX11_init_37 : decode cX11_init 37 = .ok (.bipush 24, 2) := by decide +kernel
theorem dX11_init_39 : decode cX11_init 39 = .ok (.newarray .int, 2) := by decide +kernel
theorem dX11_init_41 : decode cX11_init 41 = .ok (.putfield 24, 3) := by decide +kernel
theorem dX11_init_44 : decode cX11_init 44 = .ok (.aload_n 0, 1) := by decide +kernel
theorem dX11_init_45 : decode cX11_init 45 = .ok (.bipush 6, 2) := by decide +kernel
theorem dX11_init_47 : decode cX11_init 47 = .ok (.newarray .int, 2) := by decide +kernel
theorem dX11_init_49 : decode cX11_init 49 = .ok (.putfield 27, 3) := by decide +kernel
theorem dX11_init_52 : decode cX11_init 52 = .ok (.aload_n 0, 1) := by decide +kernel
theorem dX11_init_53 : decode cX11_init 53 = .ok (.bipush 6, 2) := by decide +kernel
theorem dX11_init_55 : decode cX11_init 55 = .ok (.newarray .int, 2) := by decide +kernel
theorem dX11_init_57 : decode cX11_init 57 = .ok (.putfield 30, 3) := by decide +kernel
theorem dX11_init_60 : decode cX11_init 60 = .ok (.aload_n 0, 1) := by decide +kernel
theorem dX11_init_61 : decode cX11_init 61 = .ok (.bipush 6, 2) := by decide +kernel
theorem dX11_init_63 : decode cX11_init 63 = .ok (.newarray .int, 2) := by decide +kernel
theorem dX11_init_65 : decode cX11_init 65 = .ok (.putfield 33, 3) := by decide +kernel
theorem dX11_init_68 : decode cX11_init 68 = .ok (.aload_n 0, 1) := by decide +kernel
theorem dX11_init_69 : decode cX11_init 69 = .ok (.bipush 6, 2) := by decide +kernel
theorem dX11_init_71 : decode cX11_init 71 = .ok (.newarray .int, 2) := by decide +kernel
theorem dX11_init_73 : decode cX11_init 73 = .ok (.putfield 36, 3) := by decide +kernel
theorem dX11_init_76 : decode cX11_init 76 = .ok (.aload_n 0, 1) := by decide +kernel
theorem dX11_init_77 : decode cX11_init 77 = .ok (.bipush 100, 2) := by decide +kernel
theorem dX11_init_79 : decode cX11_init 79 = .ok (.newarray .int, 2) := by decide +kernel
theorem dX11_init_81 : decode cX11_init 81 = .ok (.putfield 39, 3) := by decide +kernel
theorem dX11_init_84 : decode cX11_init 84 = .ok (.aload_n 0, 1) := by decide +kernel
theorem dX11_init_85 : decode cX11_init 85 = .ok (.bipush 6, 2) := by decide +kernel
theorem dX11_init_87 : decode cX11_init 87 = .ok (.newarray .int, 2) := by decide +kernel
theorem dX11_init_89 : decode cX11_init 89 = .ok (.putfield 42, 3) := by decide +kernel
theorem dX11_init_92 : decode cX11_init 92 = .ok (.aload_n 0, 1) := by decide +kernel
theorem dX11_init_93 : decode cX11_init 93 = .ok (.bipush 61, 2) := by decide +kernel
theorem dX11_init_95 : decode cX11_init 95 = .ok (.newarray .int, 2) := by decide +kernel
theorem dX11_init_97 : decode cX11_init 97 = .ok (.putfield 45, 3) := by decide +kernel
theorem dX11_init_100 : decode cX11_init 100 = .ok (.aload_n 0, 1) := by decide +kernel
theorem dX11_init_101 : decode cX11_init 101 = .ok (.bipush 61, 2) := by decide +kernel
theorem dX11_init_103 : decode cX11_init 103 = .ok (.newarray .int, 2) := by decide +kernel
theorem dX11_init_105 : decode cX11_init 105 = .ok (.putfield 48, 3) := by decide +kernel
theorem dX11_init_108 : decode cX11_init 108 = .ok (.aload_n 0, 1) := by decide +kernel
theorem dX11_init_109 : decode cX11_init 109 = .ok (.bipush 61, 2) := by decide +kernel
theorem dX11_init_111 : decode cX11_init 111 = .ok (.newarray .int, 2) := by decide +kernel
theorem dX11_init_113 : decode cX11_init 113 = .ok (.putfield 51, 3) := by decide +kernel
theorem dX11_init_116 : decode cX11_init 116 = .ok (.aload_n 0, 1) := by decide +kernel
theorem dX11_init_117 : decode cX11_init 117 = .ok (.bipush 61, 2) := by decide +kernel
theorem dX11_init_119 : decode cX11_init 119 = .ok (.newarray .int, 2) := by decide +kernel
theorem dX11_init_121 : decode cX11_init 121 = .ok (.putfield 54, 3) := by decide +kernel
theorem dX11_init_124 : decode cX11_init 124 = .ok (.aload_n 0, 1) := by decide +kernel
theorem dX11_init_125 : decode cX11_init 125 = .ok (.sipush 800, 3) := by decide +kernel
theorem dX11_init_128 : decode cX11_init 128 = .ok (.newarray .int, 2) := by decide +kernel
theorem dX11_init_130 : decode cX11_init 130 = .ok (.putfield 57, 3) := by decide +kernel
theorem dX11_init_133 : decode cX11_init 133 = .ok (.aload_n 0, 1) := by decide +kernel
theorem dX11_init_134 : decode cX11_init 134 = .ok (.bipush 110, 2) := by decide +kernel
theorem dX11_init_136 : decode cX11_init 136 = .ok (.newarray .boolean, 2) := by decide +kernel
theorem dX11_init_138 : decode cX11_init 138 = .ok (.putfield 60, 3) := by decide +kernel
theorem dX11_init_141 : decode cX11_init 141 = .ok (.aload_n 0, 1) := by decide +kernel
theorem dX11_init_142 : decode cX11_init 142 = .ok (.iconst 5, 1) := by decide +kernel
theorem dX11_init_143 : decode cX11_init 143 = .ok (.newarray .int, 2) := by decide +kernel
theorem dX11_init_145 : decode cX11_init 145 = .ok (.putfield 64, 3) := by decide +kernel
theorem dX11_init_148 : decode cX11_init 148 = .ok (.aload_n 0, 1) := by decide +kernel
theorem dX11_init_149 : decode cX11_init 149 = .ok (.iconst 5, 1) := by decide +kernel
theorem dX11_init_150 : decode cX11_init 150 = .ok (.newarray .int, 2) := by decide +kernel
theorem dX11_init_152 : decode cX11_init 152 = .ok (.putfield 67, 3) := by decide +kernel
theorem dX11_init_155 : decode cX11_init 155 = .ok (.aload_n 0, 1) := by decide +kernel
theorem dX11_init_156 : decode cX11_init 156 = .ok (.iconst 5, 1) := by decide +kernel
theorem dX11_init_157 : decode cX11_init 157 = .ok (.newarray .int, 2) := by decide +kernel
theorem dX11_init_159 : decode cX11_init 159 = .ok (.putfield 70, 3) := by decide +kernel
theorem dX11_init_162 : decode cX11_init 162 = .ok (.aload_n 0, 1) := by decide +kernel
theorem dX11_init_163 : decode cX11_init 163 = .ok (.bipush 10, 2) := by decide +kernel
theorem dX11_init_165 : decode cX11_init 165 = .ok (.newarray .int, 2) := by decide +kernel
theorem dX11_init_167 : decode cX11_init 167 = .ok (.putfield 73, 3) := by decide +kernel
theorem dX11_init_170 : decode cX11_init 170 = .ok (.aload_n 0, 1) := by decide +kernel
theorem dX11_init_171 : decode cX11_init 171 = .ok (.bipush 10, 2) := by decide +kernel
theorem dX11_init_173 : decode cX11_init 173 = .ok (.newarray .int, 2) := by decide +kernel
theorem dX11_init_175 : decode cX11_init 175 = .ok (.putfield 76, 3) := by decide +kernel
theorem dX11_init_178 : decode cX11_init 178 = .ok (.aload_n 0, 1) := by decide +kernel
theorem dX11_init_179 : decode cX11_init 179 = .ok (.bipush 8, 2) := by decide +kernel
theorem dX11_init_181 : decode cX11_init 181 = .ok (.newarray .int, 2) := by decide +kernel
theorem dX11_init_183 : decode cX11_init 183 = .ok (.putfield 79, 3) := by decide +kernel
theorem dX11_init_186 : decode cX11_init 186 = .ok (.aload_n 0, 1) := by decide +kernel
theorem dX11_init_187 : decode cX11_init 187 = .ok (.bipush 8, 2) := by decide +kernel
theorem dX11_init_189 : decode cX11_init 189 = .ok (.newarray .int, 2) := by decide +kernel
theorem dX11_init_191 : decode cX11_init 191 = .ok (.putfield 82, 3) := by decide +kernel
theorem dX11_init_194 : decode cX11_init 194 = .ok (.aload_n 0, 1) := by decide +kernel
theorem dX11_init_195 : decode cX11_init 195 = .ok (.bipush 20, 2) := by decide +kernel
theorem dX11_init_197 : decode cX11_init 197 = .ok (.newarray .int, 2) := by decide +kernel
theorem dX11_init_199 : decode cX11_init 199 = .ok (.putfield 85, 3) := by decide +kernel
theorem dX11_init_202 : decode cX11_init 202 = .ok (.aload_n 0, 1) := by decide +kernel
theorem dX11_init_203 : decode cX11_init 203 = .ok (.sipush 130, 3) := by decide +kernel
theorem dX11_init_206 : decode cX11_init 206 = .ok (.newarray .int, 2) := by decide +kernel
theorem dX11_init_208 : decode cX11_init 208 = .ok (.putfield 88, 3) := by decide +kernel
theorem dX11_init_211 : decode cX11_init 211 = .ok (.aload_n 0, 1) := by decide +kernel
theorem dX11_init_212 : decode cX11_init 212 = .ok (.sipush 130, 3) := by decide +kernel
theorem dX11_init_215 : decode cX11_init 215 = .ok (.newarray .int, 2) := by decide +kernel
theorem dX11_init_217 : decode cX11_init 217 = .ok (.putfield 91, 3) := by decide +kernel
theorem dX11_init_220 : decode cX11_init 220 = .ok (.aload_n 0, 1) := by decide +kernel
theorem dX11_init_221 : decode cX11_init 221 = .ok (.bipush 6, 2) := by decide +kernel
theorem dX11_init_223 : decode cX11_init 223 = .ok (.newarray .int, 2) := by decide +kernel
theorem dX11_init_225 : decode cX11_init 225 = .ok (.putfield 94, 3) := by decide +kernel
theorem dX11_init_228 : decode cX11_init 228 = .ok (.aload_n 0, 1) := by decide +kernel
theorem dX11_init_229 : decode cX11_init 229 = .ok (.bipush 6, 2) := by decide +kernel
theorem dX11_init_231 : decode cX11_init 231 = .ok (.newarray .int, 2) := by decide +kernel
theorem dX11_init_233 : decode cX11_init 233 = .ok (.putfield 97, 3) := by decide +kernel
theorem dX11_init_236 : decode cX11_init 236 = .ok (.aload_n 0, 1) := by decide +kernel
theorem dX11_init_237 : decode cX11_init 237 = .ok (.bipush 6, 2) := by decide +kernel
theorem dX11_init_239 : decode cX11_init 239 = .ok (.newarray .int, 2) := by decide +kernel
theorem dX11_init_241 : decode cX11_init 241 = .ok (.putfield 100, 3) := by decide +kernel
theorem dX11_init_244 : decode cX11_init 244 = .ok (.aload_n 0, 1) := by decide +kernel
theorem dX11_init_245 : decode cX11_init 245 = .ok (.bipush 6, 2) := by decide +kernel
theorem dX11_init_247 : decode cX11_init 247 = .ok (.newarray .int, 2) := by decide +kernel
theorem dX11_init_249 : decode cX11_init 249 = .ok (.putfield 103, 3) := by decide +kernel
theorem dX11_init_252 : decode cX11_init 252 = .ok (.aload_n 0, 1) := by decide +kernel
theorem dX11_init_253 : decode cX11_init 253 = .ok (.sipush 360, 3) := by decide +kernel
theorem dX11_init_256 : decode cX11_init 256 = .ok (.newarray .long, 2) := by decide +kernel
theorem dX11_init_258 : decode cX11_init 258 = .ok (.putfield 106, 3) := by decide +kernel
theorem dX11_init_261 : decode cX11_init 261 = .ok (.aload_n 0, 1) := by decide +kernel
theorem dX11_init_262 : decode cX11_init 262 = .ok (.iconst (-1), 1) := by decide +kernel
theorem dX11_init_263 : decode cX11_init 263 = .ok (.putfield 110, 3) := by decide +kernel
theorem dX11_init_266 : decode cX11_init 266 = .ok (.iconst 0, 1) := by decide +kernel
theorem dX11_init_267 : decode cX11_init 267 = .ok (.istore_n 1, 1) := by decide +kernel
theorem dX11_init_268 : decode cX11_init 268 = .ok (.iload_n 1, 1) := by decide +kernel
theorem dX11_init_269 : decode cX11_init 269 = .ok (.bipush 6, 2) := by decide +kernel
theorem dX11_init_271 : decode cX11_init 271 = .ok (.if_icmp .ge 16, 3) := by decide +kernel
theorem dX11_init_274 : decode cX11_init 274 = .ok (.aload_n 0, 1) := by decide +kernel
theorem dX11_init_275 : decode cX11_init 275 = .ok (.getfield 100, 3) := by decide +kernel
theorem dX11_init_278 : decode cX11_init 278 = .ok (.iload_n 1, 1) := by decide +kernel
theorem dX11_init_279 : decode cX11_init 279 = .ok (.iconst (-1), 1) := by decide +kernel
theorem dX11_init_280 : decode cX11_init 280 = .ok (.iastore, 1) := by decide +kernel
theorem dX11_init_281 : decode cX11_init 281 = .ok (.iinc 1 1, 3) := by decide +kernel
theorem dX11_init_284 : decode cX11_init 284 = .ok (.goto (-16), 3) := by decide +kernel
theorem dX11_init_287 : decode cX11_init 287 = .ok (.return_, 1) := by decide +kernel
theorem dX11_within_0 : decode cX11_within 0 = .ok (.iload_n 0, 1) := by decide +kernel
theorem dX11_within_1 : decode cX11_within 1 = .ok (.iload_n 1, 1) := by decide +kernel
theorem dX11_within_2 : decode cX11_within 2 = .ok (.if_icmp .lt 12, 3) := by decide +kernel
theorem dX11_within_5 : decode cX11_within 5 = .ok (.iload_n 0, 1) := by decide +kernel
theorem dX11_within_6 : decode cX11_within 6 = .ok (.iload_n 2, 1) := by decide +kernel
theorem dX11_within_7 : decode cX11_within 7 = .ok (.if_icmp .gt 7, 3) := by decide +kernel
theorem dX11_within_10 : decode cX11_within 10 = .ok (.iconst 1, 1) := by decide +kernel
theorem dX11_within_11 : decode cX11_within 11 = .ok (.goto 4, 3) := by decide +kernel
theorem dX11_within_14 : decode cX11_within 14 = .ok (.iconst 0, 1) := by decide +kernel
theorem dX11_within_15 : decode cX11_within 15 = .ok (.ireturn, 1) := by decide +kernel
theorem dX11_isOne_0 : decode cX11_isOne 0 = .ok (.iload_n 1, 1) := by decide +kernel
theorem dX11_isOne_1 : decode cX11_isOne 1 = .ok (.iconst 0, 1) := by decide +kernel
theorem dX11_isOne_2 : decode cX11_isOne 2 = .ok (.aload_n 0, 1) := by decide +kernel
theorem dX11_isOne_3 : decode cX11_isOne 3 = .ok (.getfield 114, 3) := by decide +kernel
theorem dX11_isOne_6 : decode cX11_isOne 6 = .ok (.iconst 1, 1) := by decide +kernel
theorem dX11_isOne_7 : decode cX11_isOne 7 = .ok (.isub, 1) := by decide +kernel
theorem dX11_isOne_8 : decode cX11_isOne 8 = .ok (.invokestatic 117, 3) := by decide +kernel
theorem dX11_isOne_11 : decode cX11_isOne 11 = .ok (.ireturn, 1) := by decide +kernel
theorem dX11_isAsked_0 : decode cX11_isAsked 0 = .ok (.iload_n 1, 1) := by decide +kernel
theorem dX11_isAsked_1 : decode cX11_isAsked 1 = .ok (.iconst 0, 1) := by decide +kernel
theorem dX11_isAsked_2 : decode cX11_isAsked 2 = .ok (.aload_n 0, 1) := by decide +kernel
theorem dX11_isAsked_3 : decode cX11_isAsked 3 = .ok (.getfield 121, 3) := by decide +kernel
theorem dX11_isAsked_6 : decode cX11_isAsked 6 = .ok (.iconst 1, 1) := by decide +kernel
theorem dX11_isAsked_7 : decode cX11_isAsked 7 = .ok (.isub, 1) := by decide +kernel
theorem dX11_isAsked_8 : decode cX11_isAsked 8 = .ok (.invokestatic 117, 3) := by decide +kernel
theorem dX11_isAsked_11 : decode cX11_isAsked 11 = .ok (.ireturn, 1) := by decide +kernel
theorem dX11_areMatters_0 : decode cX11_areMatters 0 = .ok (.iload_n 0, 1) := by decide +kernel
theorem dX11_areMatters_1 : decode cX11_areMatters 1 = .ok (.iconst 0, 1) := by decide +kernel
theorem dX11_areMatters_2 : decode cX11_areMatters 2 = .ok (.sipush 4095, 3) := by decide +kernel
theorem dX11_areMatters_5 : decode cX11_areMatters 5 = .ok (.invokestatic 117, 3) := by decide +kernel
theorem dX11_areMatters_8 : decode cX11_areMatters 8 = .ok (.ireturn, 1) := by decide +kernel
theorem dX11_guard_0 : decode cX11_guard 0 = .ok (.iload_n 1, 1) := by decide +kernel
theorem dX11_guard_1 : decode cX11_guard 1 = .ok (.iconst 0, 1) := by decide +kernel
theorem dX11_guard_2 : decode cX11_guard 2 = .ok (.bipush 6, 2) := by decide +kernel
theorem dX11_guard_4 : decode cX11_guard 4 = .ok (.invokestatic 117, 3) := by decide +kernel
theorem dX11_guard_7 : decode cX11_guard 7 = .ok (.ifCond .ne 5, 3) := by decide +kernel
theorem dX11_guard_10 : decode cX11_guard 10 = .ok (.iconst (-1), 1) := by decide +kernel
theorem dX11_guard_11 : decode cX11_guard 11 = .ok (.ireturn, 1) := by decide +kernel
theorem dX11_guard_12 : decode cX11_guard 12 = .ok (.iload_n 2, 1) := by decide +kernel
theorem dX11_guard_13 : decode cX11_guard 13 = .ok (.iconst 0, 1) := by decide +kernel
theorem dX11_guard_14 : decode cX11_guard 14 = .ok (.bipush 9, 2) := by decide +kernel
theorem dX11_guard_16 : decode cX11_guard 16 = .ok (.invokestatic 117, 3) := by decide +kernel
theorem dX11_guard_19 : decode cX11_guard 19 = .ok (.ifCond .eq 10, 3) := by decide +kernel
theorem dX11_guard_22 : decode cX11_guard 22 = .ok (.iload_n 3, 1) := by decide +kernel
theorem dX11_guard_23 : decode cX11_guard 23 = .ok (.invokestatic 124, 3) := by decide +kernel
theorem dX11_guard_26 : decode cX11_guard 26 = .ok (.ifCond .ne 6, 3) := by decide +kernel
theorem dX11_guard_29 : decode cX11_guard 29 = .ok (.bipush (-2), 2) := by decide +kernel
theorem dX11_guard_31 : decode cX11_guard 31 = .ok (.ireturn, 1) := by decide +kernel
theorem dX11_guard_32 : decode cX11_guard 32 = .ok (.aload_n 0, 1) := by decide +kernel
theorem dX11_guard_33 : decode cX11_guard 33 = .ok (.getfield 114, 3) := by decide +kernel
theorem dX11_guard_36 : decode cX11_guard 36 = .ok (.bipush 6, 2) := by decide +kernel
theorem dX11_guard_38 : decode cX11_guard 38 = .ok (.if_icmp .ne 6, 3) := by decide +kernel
theorem dX11_guard_41 : decode cX11_guard 41 = .ok (.bipush (-4), 2) := by decide +kernel
theorem dX11_guard_43 : decode cX11_guard 43 = .ok (.ireturn, 1) := by decide +kernel
theorem dX11_guard_44 : decode cX11_guard 44 = .ok (.aload_n 0, 1) := by decide +kernel
theorem dX11_guard_45 : decode cX11_guard 45 = .ok (.getfield 9, 3) := by decide +kernel
theorem dX11_guard_48 : decode cX11_guard 48 = .ok (.aload_n 0, 1) := by decide +kernel
theorem dX11_guard_49 : decode cX11_guard 49 = .ok (.getfield 114, 3) := by decide +kernel
theorem dX11_guard_52 : decode cX11_guard 52 = .ok (.iload_n 1, 1) := by decide +kernel
theorem dX11_guard_53 : decode cX11_guard 53 = .ok (.iastore, 1) := by decide +kernel
theorem dX11_guard_54 : decode cX11_guard 54 = .ok (.aload_n 0, 1) := by decide +kernel
theorem dX11_guard_55 : decode cX11_guard 55 = .ok (.getfield 15, 3) := by decide +kernel
theorem dX11_guard_58 : decode cX11_guard 58 = .ok (.aload_n 0, 1) := by decide +kernel
theorem dX11_guard_59 : decode cX11_guard 59 = .ok (.getfield 114, 3) := by decide +kernel
theorem dX11_guard_62 : decode cX11_guard 62 = .ok (.iload_n 2, 1) := by decide +kernel
theorem dX11_guard_63 : decode cX11_guard 63 = .ok (.iastore, 1) := by decide +kernel
theorem dX11_guard_64 : decode cX11_guard 64 = .ok (.aload_n 0, 1) := by decide +kernel
theorem dX11_guard_65 : decode cX11_guard 65 = .ok (.getfield 18, 3) := by decide +kernel
theorem dX11_guard_68 : decode cX11_guard 68 = .ok (.aload_n 0, 1) := by decide +kernel
theorem dX11_guard_69 : decode cX11_guard 69 = .ok (.getfield 114, 3) := by decide +kernel
theorem dX11_guard_72 : decode cX11_guard 72 = .ok (.iload_n 3, 1) := by decide +kernel
theorem dX11_guard_73 : decode cX11_guard 73 = .ok (.iastore, 1) := by decide +kernel
theorem dX11_guard_74 : decode cX11_guard 74 = .ok (.aload_n 0, 1) := by decide +kernel
theorem dX11_guard_75 : decode cX11_guard 75 = .ok (.getfield 21, 3) := by decide +kernel
theorem dX11_guard_78 : decode cX11_guard 78 = .ok (.aload_n 0, 1) := by decide +kernel
theorem dX11_guard_79 : decode cX11_guard 79 = .ok (.getfield 114, 3) := by decide +kernel
theorem dX11_guard_82 : decode cX11_guard 82 = .ok (.iconst 0, 1) := by decide +kernel
theorem dX11_guard_83 : decode cX11_guard 83 = .ok (.iastore, 1) := by decide +kernel
theorem dX11_guard_84 : decode cX11_guard 84 = .ok (.iconst 0, 1) := by decide +kernel
theorem dX11_guard_85 : decode cX11_guard 85 = .ok (.istore 4, 2) := by decide +kernel
theorem dX11_guard_87 : decode cX11_guard 87 = .ok (.iload 4, 2) := by decide +kernel
theorem dX11_guard_89 : decode cX11_guard 89 = .ok (.iconst 4, 1) := by decide +kernel
theorem dX11_guard_90 : decode cX11_guard 90 = .ok (.if_icmp .ge 24, 3) := by decide +kernel
theorem dX11_guard_93 : decode cX11_guard 93 = .ok (.aload_n 0, 1) := by decide +kernel
theorem dX11_guard_94 : decode cX11_guard 94 = .ok (.getfield 24, 3) := by decide +kernel
theorem dX11_guard_97 : decode cX11_guard 97 = .ok (.iconst 4, 1) := by decide +kernel
theorem dX11_guard_98 : decode cX11_guard 98 = .ok (.aload_n 0, 1) := by decide +kernel
theorem dX11_guard_99 : decode cX11_guard 99 = .ok (.getfield 114, 3) := by decide +kernel
theorem dX11_guard_102 : decode cX11_guard 102 = .ok (.imul, 1) := by decide +kernel
theorem dX11_guard_103 : decode cX11_guard 103 = .ok (.iload 4, 2) := by decide +kernel
theorem dX11_guard_105 : decode cX11_guard 105 = .ok (.iadd, 1) := by decide +kernel
theorem dX11_guard_106 : decode cX11_guard 106 = .ok (.iconst 0, 1) := by decide +kernel
theorem dX11_guard_107 : decode cX11_guard 107 = .ok (.iastore, 1) := by decide +kernel
theorem dX11_guard_108 : decode cX11_guard 108 = .ok (.iinc 4 1, 3) := by decide +kernel
theorem dX11_guard_111 : decode cX11_guard 111 = .ok (.goto (-24), 3) := by decide +kernel
theorem dX11_guard_114 : decode cX11_guard 114 = .ok (.aload_n 0, 1) := by decide +kernel
theorem dX11_guard_115 : decode cX11_guard 115 = .ok (.dup, 1) := by decide +kernel
theorem dX11_guard_116 : decode cX11_guard 116 = .ok (.getfield 114, 3) := by decide +kernel
theorem dX11_guard_119 : decode cX11_guard 119 = .ok (.dup_x1, 1) := by decide +kernel
theorem dX11_guard_120 : decode cX11_guard 120 = .ok (.iconst 1, 1) := by decide +kernel
theorem dX11_guard_121 : decode cX11_guard 121 = .ok (.iadd, 1) := by decide +kernel
theorem dX11_guard_122 : decode cX11_guard 122 = .ok (.putfield 114, 3) := by decide +kernel
theorem dX11_guard_125 : decode cX11_guard 125 = .ok (.ireturn, 1) := by decide +kernel
theorem dX11_of_0 : decode cX11_of 0 = .ok (.aload_n 0, 1) := by decide +kernel
theorem dX11_of_1 : decode cX11_of 1 = .ok (.iload_n 1, 1) := by decide +kernel
theorem dX11_of_2 : decode cX11_of 2 = .ok (.invokevirtual 128, 3) := by decide +kernel
theorem dX11_of_5 : decode cX11_of 5 = .ok (.ifCond .ne 7, 3) := by decide +kernel
theorem dX11_of_8 : decode cX11_of 8 = .ok (.sipush (-10001), 3) := by decide +kernel
theorem dX11_of_11 : decode cX11_of 11 = .ok (.ireturn, 1) := by decide +kernel
theorem dX11_of_12 : decode cX11_of 12 = .ok (.aload_n 0, 1) := by decide +kernel
theorem dX11_of_13 : decode cX11_of 13 = .ok (.iload_n 2, 1) := by decide +kernel
theorem dX11_of_14 : decode cX11_of 14 = .ok (.bipush 10, 2) := by decide +kernel
theorem dX11_of_16 : decode cX11_of 16 = .ok (.isub, 1) := by decide +kernel
theorem dX11_of_17 : decode cX11_of 17 = .ok (.invokevirtual 131, 3) := by decide +kernel
theorem dX11_of_20 : decode cX11_of 20 = .ok (.ifCond .eq 18, 3) := by decide +kernel
theorem dX11_of_23 : decode cX11_of 23 = .ok (.aload_n 0, 1) := by decide +kernel
theorem dX11_of_24 : decode cX11_of 24 = .ok (.iload_n 1, 1) := by decide +kernel
theorem dX11_of_25 : decode cX11_of 25 = .ok (.aload_n 0, 1) := by decide +kernel
theorem dX11_of_26 : decode cX11_of 26 = .ok (.getfield 27, 3) := by decide +kernel
theorem dX11_of_29 : decode cX11_of 29 = .ok (.iload_n 2, 1) := by decide +kernel
theorem dX11_of_30 : decode cX11_of 30 = .ok (.bipush 10, 2) := by decide +kernel
theorem dX11_of_32 : decode cX11_of 32 = .ok (.isub, 1) := by decide +kernel
theorem dX11_of_33 : decode cX11_of 33 = .ok (.iaload, 1) := by decide +kernel
theorem dX11_of_34 : decode cX11_of 34 = .ok (.invokevirtual 134, 3) := by decide +kernel
theorem dX11_of_37 : decode cX11_of 37 = .ok (.ireturn, 1) := by decide +kernel
theorem dX11_of_38 : decode cX11_of 38 = .ok (.aload_n 0, 1) := by decide +kernel
theorem dX11_of_39 : decode cX11_of 39 = .ok (.iload_n 2, 1) := by decide +kernel
theorem dX11_of_40 : decode cX11_of 40 = .ok (.bipush 20, 2) := by decide +kernel
theorem dX11_of_42 : decode cX11_of 42 = .ok (.isub, 1) := by decide +kernel
theorem dX11_of_43 : decode cX11_of 43 = .ok (.invokevirtual 131, 3) := by decide +kernel
theorem dX11_of_46 : decode cX11_of 46 = .ok (.ifCond .eq 18, 3) := by decide +kernel
theorem dX11_of_49 : decode cX11_of 49 = .ok (.aload_n 0, 1) := by decide +kernel
theorem dX11_of_50 : decode cX11_of 50 = .ok (.iload_n 1, 1) := by decide +kernel
theorem dX11_of_51 : decode cX11_of 51 = .ok (.aload_n 0, 1) := by decide +kernel
theorem dX11_of_52 : decode cX11_of 52 = .ok (.getfield 27, 3) := by decide +kernel
theorem dX11_of_55 : decode cX11_of 55 = .ok (.iload_n 2, 1) := by decide +kernel
theorem dX11_of_56 : decode cX11_of 56 = .ok (.bipush 20, 2) := by decide +kernel
theorem dX11_of_58 : decode cX11_of 58 = .ok (.isub, 1) := by decide +kernel
theorem dX11_of_59 : decode cX11_of 59 = .ok (.iaload, 1) := by decide +kernel
theorem dX11_of_60 : decode cX11_of 60 = .ok (.invokevirtual 138, 3) := by decide +kernel
theorem dX11_of_63 : decode cX11_of 63 = .ok (.ireturn, 1) := by decide +kernel
theorem dX11_of_64 : decode cX11_of 64 = .ok (.iload_n 2, 1) := by decide +kernel
theorem dX11_of_65 : decode cX11_of 65 = .ok (.tableswitch 91 0 6 #[43, 50, 57, 64, 71, 77, 84], 43) := by decide +kernel
theorem dX11_of_108 : decode cX11_of 108 = .ok (.aload_n 0, 1) := by decide +kernel
theorem dX11_of_109 : decode cX11_of 109 = .ok (.getfield 9, 3) := by decide +kernel
theorem dX11_of_112 : decode cX11_of 112 = .ok (.iload_n 1, 1) := by decide +kernel
theorem dX11_of_113 : decode cX11_of 113 = .ok (.iaload, 1) := by decide +kernel
theorem dX11_of_114 : decode cX11_of 114 = .ok (.ireturn, 1) := by decide +kernel
theorem dX11_of_115 : decode cX11_of 115 = .ok (.aload_n 0, 1) := by decide +kernel
theorem dX11_of_116 : decode cX11_of 116 = .ok (.getfield 15, 3) := by decide +kernel
theorem dX11_of_119 : decode cX11_of 119 = .ok (.iload_n 1, 1) := by decide +kernel
theorem dX11_of_120 : decode cX11_of 120 = .ok (.iaload, 1) := by decide +kernel
theorem dX11_of_121 : decode cX11_of 121 = .ok (.ireturn, 1) := by decide +kernel
theorem dX11_of_122 : decode cX11_of 122 = .ok (.aload_n 0, 1) := by decide +kernel
theorem dX11_of_123 : decode cX11_of 123 = .ok (.getfield 18, 3) := by decide +kernel
theorem dX11_of_126 : decode cX11_of 126 = .ok (.iload_n 1, 1) := by decide +kernel
theorem dX11_of_127 : decode cX11_of 127 = .ok (.iaload, 1) := by decide +kernel
theorem dX11_of_128 : decode cX11_of 128 = .ok (.ireturn, 1) := by decide +kernel
theorem dX11_of_129 : decode cX11_of 129 = .ok (.aload_n 0, 1) := by decide +kernel
theorem dX11_of_130 : decode cX11_of 130 = .ok (.getfield 21, 3) := by decide +kernel
theorem dX11_of_133 : decode cX11_of 133 = .ok (.iload_n 1, 1) := by decide +kernel
theorem dX11_of_134 : decode cX11_of 134 = .ok (.iaload, 1) := by decide +kernel
theorem dX11_of_135 : decode cX11_of 135 = .ok (.ireturn, 1) := by decide +kernel
theorem dX11_of_136 : decode cX11_of 136 = .ok (.aload_n 0, 1) := by decide +kernel
theorem dX11_of_137 : decode cX11_of 137 = .ok (.iload_n 1, 1) := by decide +kernel
theorem dX11_of_138 : decode cX11_of 138 = .ok (.invokevirtual 141, 3) := by decide +kernel
theorem dX11_of_141 : decode cX11_of 141 = .ok (.ireturn, 1) := by decide +kernel
theorem dX11_of_142 : decode cX11_of 142 = .ok (.aload_n 0, 1) := by decide +kernel
theorem dX11_of_143 : decode cX11_of 143 = .ok (.iload_n 1, 1) := by decide +kernel
theorem dX11_of_144 : decode cX11_of 144 = .ok (.iconst 0, 1) := by decide +kernel
theorem dX11_of_145 : decode cX11_of 145 = .ok (.invokevirtual 145, 3) := by decide +kernel
theorem dX11_of_148 : decode cX11_of 148 = .ok (.ireturn, 1) := by decide +kernel
theorem dX11_of_149 : decode cX11_of 149 = .ok (.aload_n 0, 1) := by decide +kernel
theorem dX11_of_150 : decode cX11_of 150 = .ok (.iload_n 1, 1) := by decide +kernel
theorem dX11_of_151 : decode cX11_of 151 = .ok (.iconst 1, 1) := by decide +kernel
theorem dX11_of_152 : decode cX11_of 152 = .ok (.invokevirtual 145, 3) := by decide +kernel
theorem dX11_of_155 : decode cX11_of 155 = .ok (.ireturn, 1) := by decide +kernel
theorem dX11_of_156 : decode cX11_of 156 = .ok (.sipush (-10001), 3) := by decide +kernel
theorem dX11_of_159 : decode cX11_of 159 = .ok (.ireturn, 1) := by decide +kernel
theorem dX11_question_0 : decode cX11_question 0 = .ok (.iload_n 1, 1) := by decide +kernel
theorem dX11_question_1 : decode cX11_question 1 = .ok (.invokestatic 124, 3) := by decide +kernel
theorem dX11_question_4 : decode cX11_question 4 = .ok (.ifCond .eq 13, 3) := by decide +kernel
theorem dX11_question_7 : decode cX11_question 7 = .ok (.iload_n 2, 1) := by decide +kernel
theorem dX11_question_8 : decode cX11_question 8 = .ok (.iconst 0, 1) := by decide +kernel
theorem dX11_question_9 : decode cX11_question 9 = .ok (.bipush 99, 2) := by decide +kernel
theorem dX11_question_11 : decode cX11_question 11 = .ok (.invokestatic 117, 3) := by decide +kernel
theorem dX11_question_14 : decode cX11_question 14 = .ok (.ifCond .ne 6, 3) := by decide +kernel
theorem dX11_question_17 : decode cX11_question 17 = .ok (.bipush (-2), 2) := by decide +kernel
theorem dX11_question_19 : decode cX11_question 19 = .ok (.ireturn, 1) := by decide +kernel
theorem dX11_question_20 : decode cX11_question 20 = .ok (.aload_n 0, 1) := by decide +kernel
theorem dX11_question_21 : decode cX11_question 21 = .ok (.getfield 121, 3) := by decide +kernel
theorem dX11_question_24 : decode cX11_question 24 = .ok (.bipush 6, 2) := by decide +kernel
theorem dX11_question_26 : decode cX11_question 26 = .ok (.if_icmp .ne 6, 3) := by decide +kernel
theorem dX11_question_29 : decode cX11_question 29 = .ok (.bipush (-4), 2) := by decide +kernel
theorem dX11_question_31 : decode cX11_question 31 = .ok (.ireturn, 1) := by decide +kernel
theorem dX11_question_32 : decode cX11_question 32 = .ok (.aload_n 0, 1) := by decide +kernel
theorem dX11_question_33 : decode cX11_question 33 = .ok (.getfield 27, 3) := by decide +kernel
theorem dX11_question_36 : decode cX11_question 36 = .ok (.aload_n 0, 1) := by decide +kernel
theorem dX11_question_37 : decode cX11_question 37 = .ok (.getfield 121, 3) := by decide +kernel
theorem dX11_question_40 : decode cX11_question 40 = .ok (.iload_n 1, 1) := by decide +kernel
theorem dX11_question_41 : decode cX11_question 41 = .ok (.iastore, 1) := by decide +kernel
theorem dX11_question_42 : decode cX11_question 42 = .ok (.aload_n 0, 1) := by decide +kernel
theorem dX11_question_43 : decode cX11_question 43 = .ok (.getfield 30, 3) := by decide +kernel
theorem dX11_question_46 : decode cX11_question 46 = .ok (.aload_n 0, 1) := by decide +kernel
theorem dX11_question_47 : decode cX11_question 47 = .ok (.getfield 121, 3) := by decide +kernel
theorem dX11_question_50 : decode cX11_question 50 = .ok (.iload_n 2, 1) := by decide +kernel
theorem dX11_question_51 : decode cX11_question 51 = .ok (.iastore, 1) := by decide +kernel
theorem dX11_question_52 : decode cX11_question 52 = .ok (.aload_n 0, 1) := by decide +kernel
theorem dX11_question_53 : decode cX11_question 53 = .ok (.getfield 33, 3) := by decide +kernel
theorem dX11_question_56 : decode cX11_question 56 = .ok (.aload_n 0, 1) := by decide +kernel
theorem dX11_question_57 : decode cX11_question 57 = .ok (.getfield 121, 3) := by decide +kernel
theorem dX11_question_60 : decode cX11_question 60 = .ok (.iconst 0, 1) := by decide +kernel
theorem dX11_question_61 : decode cX11_question 61 = .ok (.iastore, 1) := by decide +kernel
theorem dX11_question_62 : decode cX11_question 62 = .ok (.aload_n 0, 1) := by decide +kernel
theorem dX11_question_63 : decode cX11_question 63 = .ok (.getfield 36, 3) := by decide +kernel
theorem dX11_question_66 : decode cX11_question 66 = .ok (.aload_n 0, 1) := by decide +kernel
theorem dX11_question_67 : decode cX11_question 67 = .ok (.getfield 121, 3) := by decide +kernel
theorem dX11_question_70 : decode cX11_question 70 = .ok (.bipush (-5), 2) := by decide +kernel
theorem dX11_question_72 : decode cX11_question 72 = .ok (.iastore, 1) := by decide +kernel
theorem dX11_question_73 : decode cX11_question 73 = .ok (.aload_n 0, 1) := by decide +kernel
theorem dX11_question_74 : decode cX11_question 74 = .ok (.dup, 1) := by decide +kernel
theorem dX11_question_75 : decode cX11_question 75 = .ok (.getfield 121, 3) := by decide +kernel
theorem dX11_question_78 : decode cX11_question 78 = .ok (.dup_x1, 1) := by decide +kernel
theorem dX11_question_79 : decode cX11_question 79 = .ok (.iconst 1, 1) := by decide +kernel
theorem dX11_question_80 : decode cX11_question 80 = .ok (.iadd, 1) := by decide +kernel
theorem dX11_question_81 : decode cX11_question 81 = .ok (.putfield 121, 3) := by decide +kernel
theorem dX11_question_84 : decode cX11_question 84 = .ok (.ireturn, 1) := by decide +kernel
theorem dX11_sack_0 : decode cX11_sack 0 = .ok (.aload_n 0, 1) := by decide +kernel
theorem dX11_sack_1 : decode cX11_sack 1 = .ok (.iload_n 1, 1) := by decide +kernel
theorem dX11_sack_2 : decode cX11_sack 2 = .ok (.invokevirtual 131, 3) := by decide +kernel
theorem dX11_sack_5 : decode cX11_sack 5 = .ok (.ifCond .ne 5, 3) := by decide +kernel
theorem dX11_sack_8 : decode cX11_sack 8 = .ok (.iconst (-1), 1) := by decide +kernel
theorem dX11_sack_9 : decode cX11_sack 9 = .ok (.ireturn, 1) := by decide +kernel
theorem dX11_sack_10 : decode cX11_sack 10 = .ok (.iload_n 2, 1) := by decide +kernel
theorem dX11_sack_11 : decode cX11_sack 11 = .ok (.tableswitch 57 0 3 #[29, 36, 43, 50], 29) := by decide +kernel
theorem dX11_sack_40 : decode cX11_sack 40 = .ok (.aload_n 0, 1) := by decide +kernel
theorem dX11_sack_41 : decode cX11_sack 41 = .ok (.getfield 27, 3) := by decide +kernel
theorem dX11_sack_44 : decode cX11_sack 44 = .ok (.iload_n 1, 1) := by decide +kernel
theorem dX11_sack_45 : decode cX11_sack 45 = .ok (.iaload, 1) := by decide +kernel
theorem dX11_sack_46 : decode cX11_sack 46 = .ok (.ireturn, 1) := by decide +kernel
theorem dX11_sack_47 : decode cX11_sack 47 = .ok (.aload_n 0, 1) := by decide +kernel
theorem dX11_sack_48 : decode cX11_sack 48 = .ok (.getfield 30, 3) := by decide +kernel
theorem dX11_sack_51 : decode cX11_sack 51 = .ok (.iload_n 1, 1) := by decide +kernel
theorem dX11_sack_52 : decode cX11_sack 52 = .ok (.iaload, 1) := by decide +kernel
theorem dX11_sack_53 : decode cX11_sack 53 = .ok (.ireturn, 1) := by decide +kernel
theorem dX11_sack_54 : decode cX11_sack 54 = .ok (.aload_n 0, 1) := by decide +kernel
theorem dX11_sack_55 : decode cX11_sack 55 = .ok (.getfield 33, 3) := by decide +kernel
theorem dX11_sack_58 : decode cX11_sack 58 = .ok (.iload_n 1, 1) := by decide +kernel
theorem dX11_sack_59 : decode cX11_sack 59 = .ok (.iaload, 1) := by decide +kernel
theorem dX11_sack_60 : decode cX11_sack 60 = .ok (.ireturn, 1) := by decide +kernel
theorem dX11_sack_61 : decode cX11_sack 61 = .ok (.aload_n 0, 1) := by decide +kernel
theorem dX11_sack_62 : decode cX11_sack 62 = .ok (.getfield 36, 3) := by decide +kernel
theorem dX11_sack_65 : decode cX11_sack 65 = .ok (.iload_n 1, 1) := by decide +kernel
theorem dX11_sack_66 : decode cX11_sack 66 = .ok (.iaload, 1) := by decide +kernel
theorem dX11_sack_67 : decode cX11_sack 67 = .ok (.ireturn, 1) := by decide +kernel
theorem dX11_sack_68 : decode cX11_sack 68 = .ok (.iconst (-1), 1) := by decide +kernel
theorem dX11_sack_69 : decode cX11_sack 69 = .ok (.ireturn, 1) := by decide +kernel
theorem dX11_know_0 : decode cX11_know 0 = .ok (.aload_n 0, 1) := by decide +kernel
theorem dX11_know_1 : decode cX11_know 1 = .ok (.iload_n 1, 1) := by decide +kernel
theorem dX11_know_2 : decode cX11_know 2 = .ok (.invokevirtual 128, 3) := by decide +kernel
theorem dX11_know_5 : decode cX11_know 5 = .ok (.ifCond .ne 5, 3) := by decide +kernel
theorem dX11_know_8 : decode cX11_know 8 = .ok (.iconst (-1), 1) := by decide +kernel
theorem dX11_know_9 : decode cX11_know 9 = .ok (.ireturn, 1) := by decide +kernel
theorem dX11_know_10 : decode cX11_know 10 = .ok (.iload_n 2, 1) := by decide +kernel
theorem dX11_know_11 : decode cX11_know 11 = .ok (.invokestatic 124, 3) := by decide +kernel
theorem dX11_know_14 : decode cX11_know 14 = .ok (.ifCond .ne 6, 3) := by decide +kernel
theorem dX11_know_17 : decode cX11_know 17 = .ok (.bipush (-2), 2) := by decide +kernel
theorem dX11_know_19 : decode cX11_know 19 = .ok (.ireturn, 1) := by decide +kernel
theorem dX11_know_20 : decode cX11_know 20 = .ok (.aload_n 0, 1) := by decide +kernel
theorem dX11_know_21 : decode cX11_know 21 = .ok (.getfield 18, 3) := by decide +kernel
theorem dX11_know_24 : decode cX11_know 24 = .ok (.iload_n 1, 1) := by decide +kernel
theorem dX11_know_25 : decode cX11_know 25 = .ok (.iaload, 1) := by decide +kernel
theorem dX11_know_26 : decode cX11_know 26 = .ok (.istore_n 3, 1) := by decide +kernel
theorem dX11_know_27 : decode cX11_know 27 = .ok (.aload_n 0, 1) := by decide +kernel
theorem dX11_know_28 : decode cX11_know 28 = .ok (.getfield 18, 3) := by decide +kernel
theorem dX11_know_31 : decode cX11_know 31 = .ok (.iload_n 1, 1) := by decide +kernel
theorem dX11_know_32 : decode cX11_know 32 = .ok (.iload_n 2, 1) := by decide +kernel
theorem dX11_know_33 : decode cX11_know 33 = .ok (.iastore, 1) := by decide +kernel
theorem dX11_know_34 : decode cX11_know 34 = .ok (.iload_n 3, 1) := by decide +kernel
theorem dX11_know_35 : decode cX11_know 35 = .ok (.ireturn, 1) := by decide +kernel
theorem dX11_tire_0 : decode cX11_tire 0 = .ok (.aload_n 0, 1) := by decide +kernel
theorem dX11_tire_1 : decode cX11_tire 1 = .ok (.iload_n 1, 1) := by decide +kernel
theorem dX11_tire_2 : decode cX11_tire 2 = .ok (.invokevirtual 128, 3) := by decide +kernel
theorem dX11_tire_5 : decode cX11_tire 5 = .ok (.ifCond .ne 5, 3) := by decide +kernel
theorem dX11_tire_8 : decode cX11_tire 8 = .ok (.iconst (-1), 1) := by decide +kernel
theorem dX11_tire_9 : decode cX11_tire 9 = .ok (.ireturn, 1) := by decide +kernel
theorem dX11_tire_10 : decode cX11_tire 10 = .ok (.iload_n 2, 1) := by decide +kernel
theorem dX11_tire_11 : decode cX11_tire 11 = .ok (.iconst 0, 1) := by decide +kernel
theorem dX11_tire_12 : decode cX11_tire 12 = .ok (.bipush 99, 2) := by decide +kernel
theorem dX11_tire_14 : decode cX11_tire 14 = .ok (.invokestatic 117, 3) := by decide +kernel
theorem dX11_tire_17 : decode cX11_tire 17 = .ok (.ifCond .ne 6, 3) := by decide +kernel
theorem dX11_tire_20 : decode cX11_tire 20 = .ok (.bipush (-2), 2) := by decide +kernel
theorem dX11_tire_22 : decode cX11_tire 22 = .ok (.ireturn, 1) := by decide +kernel
theorem dX11_tire_23 : decode cX11_tire 23 = .ok (.aload_n 0, 1) := by decide +kernel
theorem dX11_tire_24 : decode cX11_tire 24 = .ok (.getfield 21, 3) := by decide +kernel
theorem dX11_tire_27 : decode cX11_tire 27 = .ok (.iload_n 1, 1) := by decide +kernel
theorem dX11_tire_28 : decode cX11_tire 28 = .ok (.iaload, 1) := by decide +kernel
theorem dX11_tire_29 : decode cX11_tire 29 = .ok (.istore_n 3, 1) := by decide +kernel
theorem dX11_tire_30 : decode cX11_tire 30 = .ok (.aload_n 0, 1) := by decide +kernel
theorem dX11_tire_31 : decode cX11_tire 31 = .ok (.getfield 21, 3) := by decide +kernel
theorem dX11_tire_34 : decode cX11_tire 34 = .ok (.iload_n 1, 1) := by decide +kernel
theorem dX11_tire_35 : decode cX11_tire 35 = .ok (.iload_n 2, 1) := by decide +kernel
theorem dX11_tire_36 : decode cX11_tire 36 = .ok (.iastore, 1) := by decide +kernel
theorem dX11_tire_37 : decode cX11_tire 37 = .ok (.iload_n 3, 1) := by decide +kernel
theorem dX11_tire_38 : decode cX11_tire 38 = .ok (.ireturn, 1) := by decide +kernel
theorem dX11_bring_0 : decode cX11_bring 0 = .ok (.aload_n 0, 1) := by decide +kernel
theorem dX11_bring_1 : decode cX11_bring 1 = .ok (.iload_n 1, 1) := by decide +kernel
theorem dX11_bring_2 : decode cX11_bring 2 = .ok (.invokevirtual 131, 3) := by decide +kernel
theorem dX11_bring_5 : decode cX11_bring 5 = .ok (.ifCond .eq 16, 3) := by decide +kernel
theorem dX11_bring_8 : decode cX11_bring 8 = .ok (.iload_n 2, 1) := by decide +kernel
theorem dX11_bring_9 : decode cX11_bring 9 = .ok (.iconst (-1), 1) := by decide +kernel
theorem dX11_bring_10 : decode cX11_bring 10 = .ok (.if_icmp .eq 13, 3) := by decide +kernel
theorem dX11_bring_13 : decode cX11_bring 13 = .ok (.aload_n 0, 1) := by decide +kernel
theorem dX11_bring_14 : decode cX11_bring 14 = .ok (.iload_n 2, 1) := by decide +kernel
theorem dX11_bring_15 : decode cX11_bring 15 = .ok (.invokevirtual 128, 3) := by decide +kernel
theorem dX11_bring_18 : decode cX11_bring 18 = .ok (.ifCond .ne 5, 3) := by decide +kernel
theorem dX11_bring_21 : decode cX11_bring 21 = .ok (.iconst (-1), 1) := by decide +kernel
theorem dX11_bring_22 : decode cX11_bring 22 = .ok (.ireturn, 1) := by decide +kernel
theorem dX11_bring_23 : decode cX11_bring 23 = .ok (.aload_n 0, 1) := by decide +kernel
theorem dX11_bring_24 : decode cX11_bring 24 = .ok (.getfield 36, 3) := by decide +kernel
theorem dX11_bring_27 : decode cX11_bring 27 = .ok (.iload_n 1, 1) := by decide +kernel
theorem dX11_bring_28 : decode cX11_bring 28 = .ok (.iaload, 1) := by decide +kernel
theorem dX11_bring_29 : decode cX11_bring 29 = .ok (.istore_n 3, 1) := by decide +kernel
theorem dX11_bring_30 : decode cX11_bring 30 = .ok (.aload_n 0, 1) := by decide +kernel
theorem dX11_bring_31 : decode cX11_bring 31 = .ok (.getfield 36, 3) := by decide +kernel
theorem dX11_bring_34 : decode cX11_bring 34 = .ok (.iload_n 1, 1) := by decide +kernel
theorem dX11_bring_35 : decode cX11_bring 35 = .ok (.iload_n 2, 1) := by decide +kernel
theorem dX11_bring_36 : decode cX11_bring 36 = .ok (.iconst (-1), 1) := by decide +kernel
theorem dX11_bring_37 : decode cX11_bring 37 = .ok (.if_icmp .ne 8, 3) := by decide +kernel
theorem dX11_bring_40 : decode cX11_bring 40 = .ok (.bipush (-5), 2) := by decide +kernel
theorem dX11_bring_42 : decode cX11_bring 42 = .ok (.goto 4, 3) := by decide +kernel
theorem dX11_bring_45 : decode cX11_bring 45 = .ok (.iload_n 2, 1) := by decide +kernel
theorem dX11_bring_46 : decode cX11_bring 46 = .ok (.iastore, 1) := by decide +kernel
theorem dX11_bring_47 : decode cX11_bring 47 = .ok (.iload_n 3, 1) := by decide +kernel
theorem dX11_bring_48 : decode cX11_bring 48 = .ok (.ireturn, 1) := by decide +kernel
theorem dX11_ask_0 : decode cX11_ask 0 = .ok (.aload_n 0, 1) := by decide +kernel
theorem dX11_ask_1 : decode cX11_ask 1 = .ok (.iload_n 1, 1) := by decide +kernel
theorem dX11_ask_2 : decode cX11_ask 2 = .ok (.invokevirtual 131, 3) := by decide +kernel
theorem dX11_ask_5 : decode cX11_ask 5 = .ok (.ifCond .eq 11, 3) := by decide +kernel
theorem dX11_ask_8 : decode cX11_ask 8 = .ok (.aload_n 0, 1) := by decide +kernel
theorem dX11_ask_9 : decode cX11_ask 9 = .ok (.iload_n 2, 1) := by decide +kernel
theorem dX11_ask_10 : decode cX11_ask 10 = .ok (.invokevirtual 128, 3) := by decide +kernel
theorem dX11_ask_13 : decode cX11_ask 13 = .ok (.ifCond .ne 5, 3) := by decide +kernel
theorem dX11_ask_16 : decode cX11_ask 16 = .ok (.iconst (-1), 1) := by decide +kernel
theorem dX11_ask_17 : decode cX11_ask 17 = .ok (.ireturn, 1) := by decide +kernel
theorem dX11_ask_18 : decode cX11_ask 18 = .ok (.aload_n 0, 1) := by decide +kernel
theorem dX11_ask_19 : decode cX11_ask 19 = .ok (.getfield 33, 3) := by decide +kernel
theorem dX11_ask_22 : decode cX11_ask 22 = .ok (.iload_n 1, 1) := by decide +kernel
theorem dX11_ask_23 : decode cX11_ask 23 = .ok (.iaload, 1) := by decide +kernel
theorem dX11_ask_24 : decode cX11_ask 24 = .ok (.ifCond .eq 6, 3) := by decide +kernel
theorem dX11_ask_27 : decode cX11_ask 27 = .ok (.bipush (-3), 2) := by decide +kernel
theorem dX11_ask_29 : decode cX11_ask 29 = .ok (.ireturn, 1) := by decide +kernel
theorem dX11_ask_30 : decode cX11_ask 30 = .ok (.aload_n 0, 1) := by decide +kernel
theorem dX11_ask_31 : decode cX11_ask 31 = .ok (.iload_n 1, 1) := by decide +kernel
theorem dX11_ask_32 : decode cX11_ask 32 = .ok (.iload_n 2, 1) := by decide +kernel
theorem dX11_ask_33 : decode cX11_ask 33 = .ok (.invokevirtual 148, 3) := by decide +kernel
theorem dX11_ask_36 : decode cX11_ask 36 = .ok (.aload_n 0, 1) := by decide +kernel
theorem dX11_ask_37 : decode cX11_ask 37 = .ok (.getfield 33, 3) := by decide +kernel
theorem dX11_ask_40 : decode cX11_ask 40 = .ok (.iload_n 1, 1) := by decide +kernel
theorem dX11_ask_41 : decode cX11_ask 41 = .ok (.iaload, 1) := by decide +kernel
theorem dX11_ask_42 : decode cX11_ask 42 = .ok (.ireturn, 1) := by decide +kernel
theorem dX11_row_0 : decode cX11_row 0 = .ok (.aload_n 0, 1) := by decide +kernel
theorem dX11_row_1 : decode cX11_row 1 = .ok (.iload_n 1, 1) := by decide +kernel
theorem dX11_row_2 : decode cX11_row 2 = .ok (.invokevirtual 128, 3) := by decide +kernel
theorem dX11_row_5 : decode cX11_row 5 = .ok (.ifCond .eq 12, 3) := by decide +kernel
theorem dX11_row_8 : decode cX11_row 8 = .ok (.iload_n 2, 1) := by decide +kernel
theorem dX11_row_9 : decode cX11_row 9 = .ok (.iconst 0, 1) := by decide +kernel
theorem dX11_row_10 : decode cX11_row 10 = .ok (.iconst 3, 1) := by decide +kernel
theorem dX11_row_11 : decode cX11_row 11 = .ok (.invokestatic 117, 3) := by decide +kernel
theorem dX11_row_14 : decode cX11_row 14 = .ok (.ifCond .ne 5, 3) := by decide +kernel
theorem dX11_row_17 : decode cX11_row 17 = .ok (.iconst (-1), 1) := by decide +kernel
theorem dX11_row_18 : decode cX11_row 18 = .ok (.ireturn, 1) := by decide +kernel
theorem dX11_row_19 : decode cX11_row 19 = .ok (.iload_n 3, 1) := by decide +kernel
theorem dX11_row_20 : decode cX11_row 20 = .ok (.iconst 0, 1) := by decide +kernel
theorem dX11_row_21 : decode cX11_row 21 = .ok (.bipush 9, 2) := by decide +kernel
theorem dX11_row_23 : decode cX11_row 23 = .ok (.invokestatic 117, 3) := by decide +kernel
theorem dX11_row_26 : decode cX11_row 26 = .ok (.ifCond .ne 6, 3) := by decide +kernel
theorem dX11_row_29 : decode cX11_row 29 = .ok (.bipush (-2), 2) := by decide +kernel
theorem dX11_row_31 : decode cX11_row 31 = .ok (.ireturn, 1) := by decide +kernel
theorem dX11_row_32 : decode cX11_row 32 = .ok (.aload_n 0, 1) := by decide +kernel
theorem dX11_row_33 : decode cX11_row 33 = .ok (.getfield 9, 3) := by decide +kernel
theorem dX11_row_36 : decode cX11_row 36 = .ok (.iload_n 1, 1) := by decide +kernel
theorem dX11_row_37 : decode cX11_row 37 = .ok (.iaload, 1) := by decide +kernel
theorem dX11_row_38 : decode cX11_row 38 = .ok (.bipush 6, 2) := by decide +kernel
theorem dX11_row_40 : decode cX11_row 40 = .ok (.if_icmp .eq 6, 3) := by decide +kernel
theorem dX11_row_43 : decode cX11_row 43 = .ok (.bipush (-3), 2) := by decide +kernel
theorem dX11_row_45 : decode cX11_row 45 = .ok (.ireturn, 1) := by decide +kernel
theorem dX11_row_46 : decode cX11_row 46 = .ok (.aload_n 0, 1) := by decide +kernel
theorem dX11_row_47 : decode cX11_row 47 = .ok (.getfield 24, 3) := by decide +kernel
theorem dX11_row_50 : decode cX11_row 50 = .ok (.iconst 4, 1) := by decide +kernel
theorem dX11_row_51 : decode cX11_row 51 = .ok (.iload_n 1, 1) := by decide +kernel
theorem dX11_row_52 : decode cX11_row 52 = .ok (.imul, 1) := by decide +kernel
theorem dX11_row_53 : decode cX11_row 53 = .ok (.iload_n 2, 1) := by decide +kernel
theorem dX11_row_54 : decode cX11_row 54 = .ok (.iadd, 1) := by decide +kernel
theorem dX11_row_55 : decode cX11_row 55 = .ok (.iaload, 1) := by decide +kernel
theorem dX11_row_56 : decode cX11_row 56 = .ok (.istore 4, 2) := by decide +kernel
theorem dX11_row_58 : decode cX11_row 58 = .ok (.aload_n 0, 1) := by decide +kernel
theorem dX11_row_59 : decode cX11_row 59 = .ok (.getfield 24, 3) := by decide +kernel
theorem dX11_row_62 : decode cX11_row 62 = .ok (.iconst 4, 1) := by decide +kernel
theorem dX11_row_63 : decode cX11_row 63 = .ok (.iload_n 1, 1) := by decide +kernel
theorem dX11_row_64 : decode cX11_row 64 = .ok (.imul, 1) := by decide +kernel
theorem dX11_row_65 : decode cX11_row 65 = .ok (.iload_n 2, 1) := by decide +kernel
theorem dX11_row_66 : decode cX11_row 66 = .ok (.iadd, 1) := by decide +kernel
theorem dX11_row_67 : decode cX11_row 67 = .ok (.iload_n 3, 1) := by decide +kernel
theorem dX11_row_68 : decode cX11_row 68 = .ok (.iastore, 1) := by decide +kernel
theorem dX11_row_69 : decode cX11_row 69 = .ok (.iload 4, 2) := by decide +kernel
theorem dX11_row_71 : decode cX11_row 71 = .ok (.ireturn, 1) := by decide +kernel
theorem dX11_feed_0 : decode cX11_feed 0 = .ok (.iload_n 1, 1) := by decide +kernel
theorem dX11_feed_1 : decode cX11_feed 1 = .ok (.iconst 0, 1) := by decide +kernel
theorem dX11_feed_2 : decode cX11_feed 2 = .ok (.bipush 127, 2) := by decide +kernel
theorem dX11_feed_4 : decode cX11_feed 4 = .ok (.invokestatic 117, 3) := by decide +kernel
theorem dX11_feed_7 : decode cX11_feed 7 = .ok (.ifCond .ne 6, 3) := by decide +kernel
theorem dX11_feed_10 : decode cX11_feed 10 = .ok (.bipush (-2), 2) := by decide +kernel
theorem dX11_feed_12 : decode cX11_feed 12 = .ok (.ireturn, 1) := by decide +kernel
theorem dX11_feed_13 : decode cX11_feed 13 = .ok (.aload_n 0, 1) := by decide +kernel
theorem dX11_feed_14 : decode cX11_feed 14 = .ok (.getfield 152, 3) := by decide +kernel
theorem dX11_feed_17 : decode cX11_feed 17 = .ok (.bipush 100, 2) := by decide +kernel
theorem dX11_feed_19 : decode cX11_feed 19 = .ok (.if_icmp .ne 6, 3) := by decide +kernel
theorem dX11_feed_22 : decode cX11_feed 22 = .ok (.bipush (-4), 2) := by decide +kernel
theorem dX11_feed_24 : decode cX11_feed 24 = .ok (.ireturn, 1) := by decide +kernel
theorem dX11_feed_25 : decode cX11_feed 25 = .ok (.aload_n 0, 1) := by decide +kernel
theorem dX11_feed_26 : decode cX11_feed 26 = .ok (.getfield 39, 3) := by decide +kernel
theorem dX11_feed_29 : decode cX11_feed 29 = .ok (.aload_n 0, 1) := by decide +kernel
theorem dX11_feed_30 : decode cX11_feed 30 = .ok (.dup, 1) := by decide +kernel
theorem dX11_feed_31 : decode cX11_feed 31 = .ok (.getfield 152, 3) := by decide +kernel
theorem dX11_feed_34 : decode cX11_feed 34 = .ok (.dup_x1, 1) := by decide +kernel
theorem dX11_feed_35 : decode cX11_feed 35 = .ok (.iconst 1, 1) := by decide +kernel
theorem dX11_feed_36 : decode cX11_feed 36 = .ok (.iadd, 1) := by decide +kernel
theorem dX11_feed_37 : decode cX11_feed 37 = .ok (.putfield 152, 3) := by decide +kernel
theorem dX11_feed_40 : decode cX11_feed 40 = .ok (.iload_n 1, 1) := by decide +kernel
theorem dX11_feed_41 : decode cX11_feed 41 = .ok (.iastore, 1) := by decide +kernel
theorem dX11_feed_42 : decode cX11_feed 42 = .ok (.aload_n 0, 1) := by decide +kernel
theorem dX11_feed_43 : decode cX11_feed 43 = .ok (.getfield 152, 3) := by decide +kernel
theorem dX11_feed_46 : decode cX11_feed 46 = .ok (.ireturn, 1) := by decide +kernel
theorem dX11_is_0 : decode cX11_is 0 = .ok (.aload_n 0, 1) := by decide +kernel
theorem dX11_is_1 : decode cX11_is 1 = .ok (.getfield 155, 3) := by decide +kernel
theorem dX11_is_4 : decode cX11_is 4 = .ok (.aload_n 0, 1) := by decide +kernel
theorem dX11_is_5 : decode cX11_is 5 = .ok (.getfield 152, 3) := by decide +kernel
theorem dX11_is_8 : decode cX11_is 8 = .ok (.if_icmp .eq 16, 3) := by decide +kernel
theorem dX11_is_11 : decode cX11_is 11 = .ok (.aload_n 0, 1) := by decide +kernel
theorem dX11_is_12 : decode cX11_is 12 = .ok (.getfield 39, 3) := by decide +kernel
theorem dX11_is_15 : decode cX11_is 15 = .ok (.aload_n 0, 1) := by decide +kernel
theorem dX11_is_16 : decode cX11_is 16 = .ok (.getfield 155, 3) := by decide +kernel
theorem dX11_is_19 : decode cX11_is 19 = .ok (.iaload, 1) := by decide +kernel
theorem dX11_is_20 : decode cX11_is 20 = .ok (.iload_n 1, 1) := by decide +kernel
theorem dX11_is_21 : decode cX11_is 21 = .ok (.if_icmp .eq 5, 3) := by decide +kernel
theorem dX11_is_24 : decode cX11_is 24 = .ok (.iconst 0, 1) := by decide +kernel
theorem dX11_is_25 : decode cX11_is 25 = .ok (.ireturn, 1) := by decide +kernel
theorem dX11_is_26 : decode cX11_is 26 = .ok (.aload_n 0, 1) := by decide +kernel
theorem dX11_is_27 : decode cX11_is 27 = .ok (.dup, 1) := by decide +kernel
theorem dX11_is_28 : decode cX11_is 28 = .ok (.getfield 155, 3) := by decide +kernel
theorem dX11_is_31 : decode cX11_is 31 = .ok (.iconst 1, 1) := by decide +kernel
theorem dX11_is_32 : decode cX11_is 32 = .ok (.iadd, 1) := by decide +kernel
theorem dX11_is_33 : decode cX11_is 33 = .ok (.putfield 155, 3) := by decide +kernel
theorem dX11_is_36 : decode cX11_is 36 = .ok (.iconst 1, 1) := by decide +kernel
theorem dX11_is_37 : decode cX11_is 37 = .ok (.ireturn, 1) := by decide +kernel
theorem dX11_isDigit_0 : decode cX11_isDigit 0 = .ok (.aload_n 0, 1) := by decide +kernel
theorem dX11_isDigit_1 : decode cX11_isDigit 1 = .ok (.getfield 155, 3) := by decide +kernel
theorem dX11_isDigit_4 : decode cX11_isDigit 4 = .ok (.aload_n 0, 1) := by decide +kernel
theorem dX11_isDigit_5 : decode cX11_isDigit 5 = .ok (.getfield 152, 3) := by decide +kernel
theorem dX11_isDigit_8 : decode cX11_isDigit 8 = .ok (.if_icmp .ge 35, 3) := by decide +kernel
theorem dX11_isDigit_11 : decode cX11_isDigit 11 = .ok (.aload_n 0, 1) := by decide +kernel
theorem dX11_isDigit_12 : decode cX11_isDigit 12 = .ok (.getfield 39, 3) := by decide +kernel
theorem dX11_isDigit_15 : decode cX11_isDigit 15 = .ok (.aload_n 0, 1) := by decide +kernel
theorem dX11_isDigit_16 : decode cX11_isDigit 16 = .ok (.getfield 155, 3) := by decide +kernel
theorem dX11_isDigit_19 : decode cX11_isDigit 19 = .ok (.iaload, 1) := by decide +kernel
theorem dX11_isDigit_20 : decode cX11_isDigit 20 = .ok (.bipush 48, 2) := by decide +kernel
theorem dX11_isDigit_22 : decode cX11_isDigit 22 = .ok (.if_icmp .lt 21, 3) := by decide +kernel
theorem dX11_isDigit_25 : decode cX11_isDigit 25 = .ok (.aload_n 0, 1) := by decide +kernel
theorem dX11_isDigit_26 : decode cX11_isDigit 26 = .ok (.getfield 39, 3) := by decide +kernel
theorem dX11_isDigit_29 : decode cX11_isDigit 29 = .ok (.aload_n 0, 1) := by decide +kernel
theorem dX11_isDigit_30 : decode cX11_isDigit 30 = .ok (.getfield 155, 3) := by decide +kernel
theorem dX11_isDigit_33 : decode cX11_isDigit 33 = .ok (.iaload, 1) := by decide +kernel
theorem dX11_isDigit_34 : decode cX11_isDigit 34 = .ok (.bipush 57, 2) := by decide +kernel
theorem dX11_isDigit_36 : decode cX11_isDigit 36 = .ok (.if_icmp .gt 7, 3) := by decide +kernel
theorem dX11_isDigit_39 : decode cX11_isDigit 39 = .ok (.iconst 1, 1) := by decide +kernel
theorem dX11_isDigit_40 : decode cX11_isDigit 40 = .ok (.goto 4, 3) := by decide +kernel
theorem dX11_isDigit_43 : decode cX11_isDigit 43 = .ok (.iconst 0, 1) := by decide +kernel
theorem dX11_isDigit_44 : decode cX11_isDigit 44 = .ok (.ireturn, 1) := by decide +kernel
theorem dX11_isNumber_0 : decode cX11_isNumber 0 = .ok (.aload_n 0, 1) := by decide +kernel
theorem dX11_isNumber_1 : decode cX11_isNumber 1 = .ok (.iconst 0, 1) := by decide +kernel
theorem dX11_isNumber_2 : decode cX11_isNumber 2 = .ok (.putfield 158, 3) := by decide +kernel
theorem dX11_isNumber_5 : decode cX11_isNumber 5 = .ok (.aload_n 0, 1) := by decide +kernel
theorem dX11_isNumber_6 : decode cX11_isNumber 6 = .ok (.iconst 0, 1) := by decide +kernel
theorem dX11_isNumber_7 : decode cX11_isNumber 7 = .ok (.putfield 161, 3) := by decide +kernel
theorem dX11_isNumber_10 : decode cX11_isNumber 10 = .ok (.aload_n 0, 1) := by decide +kernel
theorem dX11_isNumber_11 : decode cX11_isNumber 11 = .ok (.getfield 161, 3) := by decide +kernel
theorem dX11_isNumber_14 : decode cX11_isNumber 14 = .ok (.iconst 2, 1) := by decide +kernel
theorem dX11_isNumber_15 : decode cX11_isNumber 15 = .ok (.if_icmp .ge 57, 3) := by decide +kernel
theorem dX11_isNumber_18 : decode cX11_isNumber 18 = .ok (.aload_n 0, 1) := by decide +kernel
theorem dX11_isNumber_19 : decode cX11_isNumber 19 = .ok (.invokevirtual 164, 3) := by decide +kernel
theorem dX11_isNumber_22 : decode cX11_isNumber 22 = .ok (.ifCond .eq 50, 3) := by decide +kernel
theorem dX11_isNumber_25 : decode cX11_isNumber 25 = .ok (.aload_n 0, 1) := by decide +kernel
theorem dX11_isNumber_26 : decode cX11_isNumber 26 = .ok (.bipush 10, 2) := by decide +kernel
theorem dX11_isNumber_28 : decode cX11_isNumber 28 = .ok (.aload_n 0, 1) := by decide +kernel
theorem dX11_isNumber_29 : decode cX11_isNumber 29 = .ok (.getfield 158, 3) := by decide +kernel
theorem dX11_isNumber_32 : decode cX11_isNumber 32 = .ok (.imul, 1) := by decide +kernel
theorem dX11_isNumber_33 : decode cX11_isNumber 33 = .ok (.aload_n 0, 1) := by decide +kernel
theorem dX11_isNumber_34 : decode cX11_isNumber 34 = .ok (.getfield 39, 3) := by decide +kernel
theorem dX11_isNumber_37 : decode cX11_isNumber 37 = .ok (.aload_n 0, 1) := by decide +kernel
theorem dX11_isNumber_38 : decode cX11_isNumber 38 = .ok (.getfield 155, 3) := by decide +kernel
theorem dX11_isNumber_41 : decode cX11_isNumber 41 = .ok (.iaload, 1) := by decide +kernel
theorem dX11_isNumber_42 : decode cX11_isNumber 42 = .ok (.iadd, 1) := by decide +kernel
theorem dX11_isNumber_43 : decode cX11_isNumber 43 = .ok (.bipush 48, 2) := by decide +kernel
theorem dX11_isNumber_45 : decode cX11_isNumber 45 = .ok (.isub, 1) := by decide +kernel
theorem dX11_isNumber_46 : decode cX11_isNumber 46 = .ok (.putfield 158, 3) := by decide +kernel
theorem dX11_isNumber_49 : decode cX11_isNumber 49 = .ok (.aload_n 0, 1) := by decide +kernel
theorem dX11_isNumber_50 : decode cX11_isNumber 50 = .ok (.dup, 1) := by decide +kernel
theorem dX11_isNumber_51 : decode cX11_isNumber 51 = .ok (.getfield 155, 3) := by decide +kernel
theorem dX11_isNumber_54 : decode cX11_isNumber 54 = .ok (.iconst 1, 1) := by decide +kernel
theorem dX11_isNumber_55 : decode cX11_isNumber 55 = .ok (.iadd, 1) := by decide +kernel
theorem dX11_isNumber_56 : decode cX11_isNumber 56 = .ok (.putfield 155, 3) := by decide +kernel
theorem dX11_isNumber_59 : decode cX11_isNumber 59 = .ok (.aload_n 0, 1) := by decide +kernel
theorem dX11_isNumber_60 : decode cX11_isNumber 60 = .ok (.dup, 1) := by decide +kernel
theorem dX11_isNumber_61 : decode cX11_isNumber 61 = .ok (.getfield 161, 3) := by decide +kernel
theorem dX11_isNumber_64 : decode cX11_isNumber 64 = .ok (.iconst 1, 1) := by decide +kernel
theorem dX11_isNumber_65 : decode cX11_isNumber 65 = .ok (.iadd, 1) := by decide +kernel
theorem dX11_isNumber_66 : decode cX11_isNumber 66 = .ok (.putfield 161, 3) := by decide +kernel
theorem dX11_isNumber_69 : decode cX11_isNumber 69 = .ok (.goto (-59), 3) := by decide +kernel
theorem dX11_isNumber_72 : decode cX11_isNumber 72 = .ok (.aload_n 0, 1) := by decide +kernel
theorem dX11_isNumber_73 : decode cX11_isNumber 73 = .ok (.getfield 161, 3) := by decide +kernel
theorem dX11_isNumber_76 : decode cX11_isNumber 76 = .ok (.ifCond .le 7, 3) := by decide +kernel
theorem dX11_isNumber_79 : decode cX11_isNumber 79 = .ok (.iconst 1, 1) := by decide +kernel
theorem dX11_isNumber_80 : decode cX11_isNumber 80 = .ok (.goto 4, 3) := by decide +kernel
theorem dX11_isNumber_83 : decode cX11_isNumber 83 = .ok (.iconst 0, 1) := by decide +kernel
theorem dX11_isNumber_84 : decode cX11_isNumber 84 = .ok (.ireturn, 1) := by decide +kernel
theorem dX11_isAll_0 : decode cX11_isAll 0 = .ok (.iconst 0, 1) := by decide +kernel
theorem dX11_isAll_1 : decode cX11_isAll 1 = .ok (.istore_n 2, 1) := by decide +kernel
theorem dX11_isAll_2 : decode cX11_isAll 2 = .ok (.iload_n 2, 1) := by decide +kernel
theorem dX11_isAll_3 : decode cX11_isAll 3 = .ok (.aload_n 1, 1) := by decide +kernel
theorem dX11_isAll_4 : decode cX11_isAll 4 = .ok (.invokevirtual 168, 3) := by decide +kernel
theorem dX11_isAll_7 : decode cX11_isAll 7 = .ok (.if_icmp .ge 23, 3) := by decide +kernel
theorem dX11_isAll_10 : decode cX11_isAll 10 = .ok (.aload_n 0, 1) := by decide +kernel
theorem dX11_isAll_11 : decode cX11_isAll 11 = .ok (.aload_n 1, 1) := by decide +kernel
theorem dX11_isAll_12 : decode cX11_isAll 12 = .ok (.iload_n 2, 1) := by decide +kernel
theorem dX11_isAll_13 : decode cX11_isAll 13 = .ok (.invokevirtual 173, 3) := by decide +kernel
theorem dX11_isAll_16 : decode cX11_isAll 16 = .ok (.invokevirtual 177, 3) := by decide +kernel
theorem dX11_isAll_19 : decode cX11_isAll 19 = .ok (.ifCond .ne 5, 3) := by decide +kernel
theorem dX11_isAll_22 : decode cX11_isAll 22 = .ok (.iconst 0, 1) := by decide +kernel
theorem dX11_isAll_23 : decode cX11_isAll 23 = .ok (.ireturn, 1) := by decide +kernel
theorem dX11_isAll_24 : decode cX11_isAll 24 = .ok (.iinc 2 1, 3) := by decide +kernel
theorem dX11_isAll_27 : decode cX11_isAll 27 = .ok (.goto (-25), 3) := by decide +kernel
theorem dX11_isAll_30 : decode cX11_isAll 30 = .ok (.iconst 1, 1) := by decide +kernel
theorem dX11_isAll_31 : decode cX11_isAll 31 = .ok (.ireturn, 1) := by decide +kernel
theorem dX11_codes_0 : decode cX11_codes 0 = .ok (.aload_n 0, 1) := by decide +kernel
theorem dX11_codes_1 : decode cX11_codes 1 = .ok (.getfield 57, 3) := by decide +kernel
theorem dX11_codes_4 : decode cX11_codes 4 = .ok (.aload_n 0, 1) := by decide +kernel
theorem dX11_codes_5 : decode cX11_codes 5 = .ok (.dup, 1) := by decide +kernel
theorem dX11_codes_6 : decode cX11_codes 6 = .ok (.getfield 180, 3) := by decide +kernel
theorem dX11_codes_9 : decode cX11_codes 9 = .ok (.dup_x1, 1) := by decide +kernel
theorem dX11_codes_10 : decode cX11_codes 10 = .ok (.iconst 1, 1) := by decide +kernel
theorem dX11_codes_11 : decode cX11_codes 11 = .ok (.iadd, 1) := by decide +kernel
theorem dX11_codes_12 : decode cX11_codes 12 = .ok (.putfield 180, 3) := by decide +kernel
theorem dX11_codes_15 : decode cX11_codes 15 = .ok (.iload_n 1, 1) := by decide +kernel
theorem dX11_codes_16 : decode cX11_codes 16 = .ok (.iastore, 1) := by decide +kernel
theorem dX11_codes_17 : decode cX11_codes 17 = .ok (.iconst 1, 1) := by decide +kernel
theorem dX11_codes_18 : decode cX11_codes 18 = .ok (.ireturn, 1) := by decide +kernel
theorem dX11_isTest_0 : decode cX11_isTest 0 = .ok (.aload_n 0, 1) := by decide +kernel
theorem dX11_isTest_1 : decode cX11_isTest 1 = .ok (.getfield 155, 3) := by decide +kernel
theorem dX11_isTest_4 : decode cX11_isTest 4 = .ok (.aload_n 0, 1) := by decide +kernel
theorem dX11_isTest_5 : decode cX11_isTest 5 = .ok (.getfield 152, 3) := by decide +kernel
theorem dX11_isTest_8 : decode cX11_isTest 8 = .ok (.if_icmp .ge 32, 3) := by decide +kernel
theorem dX11_isTest_11 : decode cX11_isTest 11 = .ok (.aload_n 0, 1) := by decide +kernel
theorem dX11_isTest_12 : decode cX11_isTest 12 = .ok (.getfield 39, 3) := by decide +kernel
theorem dX11_isTest_15 : decode cX11_isTest 15 = .ok (.aload_n 0, 1) := by decide +kernel
theorem dX11_isTest_16 : decode cX11_isTest 16 = .ok (.getfield 155, 3) := by decide +kernel
theorem dX11_isTest_19 : decode cX11_isTest 19 = .ok (.iaload, 1) := by decide +kernel
theorem dX11_isTest_20 : decode cX11_isTest 20 = .ok (.ifCond .le 20, 3) := by decide +kernel
theorem dX11_isTest_23 : decode cX11_isTest 23 = .ok (.ldc 183, 2) := by decide +kernel
theorem dX11_isTest_25 : decode cX11_isTest 25 = .ok (.aload_n 0, 1) := by decide +kernel
theorem dX11_isTest_26 : decode cX11_isTest 26 = .ok (.getfield 39, 3) := by decide +kernel
theorem dX11_isTest_29 : decode cX11_isTest 29 = .ok (.aload_n 0, 1) := by decide +kernel
theorem dX11_isTest_30 : decode cX11_isTest 30 = .ok (.getfield 155, 3) := by decide +kernel
theorem dX11_isTest_33 : decode cX11_isTest 33 = .ok (.iaload, 1) := by decide +kernel
theorem dX11_isTest_34 : decode cX11_isTest 34 = .ok (.invokevirtual 185, 3) := by decide +kernel
theorem dX11_isTest_37 : decode cX11_isTest 37 = .ok (.goto 4, 3) := by decide +kernel
theorem dX11_isTest_40 : decode cX11_isTest 40 = .ok (.iconst (-1), 1) := by decide +kernel
theorem dX11_isTest_41 : decode cX11_isTest 41 = .ok (.istore_n 1, 1) := by decide +kernel
theorem dX11_isTest_42 : decode cX11_isTest 42 = .ok (.iload_n 1, 1) := by decide +kernel
theorem dX11_isTest_43 : decode cX11_isTest 43 = .ok (.ifCond .ge 5, 3) := by decide +kernel
theorem dX11_isTest_46 : decode cX11_isTest 46 = .ok (.iconst 0, 1) := by decide +kernel
theorem dX11_isTest_47 : decode cX11_isTest 47 = .ok (.ireturn, 1) := by decide +kernel
theorem dX11_isTest_48 : decode cX11_isTest 48 = .ok (.aload_n 0, 1) := by decide +kernel
theorem dX11_isTest_49 : decode cX11_isTest 49 = .ok (.dup, 1) := by decide +kernel
theorem dX11_isTest_50 : decode cX11_isTest 50 = .ok (.getfield 155, 3) := by decide +kernel
theorem dX11_isTest_53 : decode cX11_isTest 53 = .ok (.iconst 1, 1) := by decide +kernel
theorem dX11_isTest_54 : decode cX11_isTest 54 = .ok (.iadd, 1) := by decide +kernel
theorem dX11_isTest_55 : decode cX11_isTest 55 = .ok (.putfield 155, 3) := by decide +kernel
theorem dX11_isTest_58 : decode cX11_isTest 58 = .ok (.aload_n 0, 1) := by decide +kernel
theorem dX11_isTest_59 : decode cX11_isTest 59 = .ok (.getfield 155, 3) := by decide +kernel
theorem dX11_isTest_62 : decode cX11_isTest 62 = .ok (.aload_n 0, 1) := by decide +kernel
theorem dX11_isTest_63 : decode cX11_isTest 63 = .ok (.getfield 152, 3) := by decide +kernel
theorem dX11_isTest_66 : decode cX11_isTest 66 = .ok (.if_icmp .ge 32, 3) := by decide +kernel
theorem dX11_isTest_69 : decode cX11_isTest 69 = .ok (.aload_n 0, 1) := by decide +kernel
theorem dX11_isTest_70 : decode cX11_isTest 70 = .ok (.getfield 39, 3) := by decide +kernel
theorem dX11_isTest_73 : decode cX11_isTest 73 = .ok (.aload_n 0, 1) := by decide +kernel
theorem dX11_isTest_74 : decode cX11_isTest 74 = .ok (.getfield 155, 3) := by decide +kernel
theorem dX11_isTest_77 : decode cX11_isTest 77 = .ok (.iaload, 1) := by decide +kernel
theorem dX11_isTest_78 : decode cX11_isTest 78 = .ok (.ifCond .le 20, 3) := by decide +kernel
theorem dX11_isTest_81 : decode cX11_isTest 81 = .ok (.ldc 188, 2) := by decide +kernel
theorem dX11_isTest_83 : decode cX11_isTest 83 = .ok (.aload_n 0, 1) := by decide +kernel
theorem dX11_isTest_84 : decode cX11_isTest 84 = .ok (.getfield 39, 3) := by decide +kernel
theorem dX11_isTest_87 : decode cX11_isTest 87 = .ok (.aload_n 0, 1) := by decide +kernel
theorem dX11_isTest_88 : decode cX11_isTest 88 = .ok (.getfield 155, 3) := by decide +kernel
theorem dX11_isTest_91 : decode cX11_isTest 91 = .ok (.iaload, 1) := by decide +kernel
theorem dX11_isTest_92 : decode cX11_isTest 92 = .ok (.invokevirtual 185, 3) := by decide +kernel
theorem dX11_isTest_95 : decode cX11_isTest 95 = .ok (.goto 4, 3) := by decide +kernel
theorem dX11_isTest_98 : decode cX11_isTest 98 = .ok (.iconst (-1), 1) := by decide +kernel
theorem dX11_isTest_99 : decode cX11_isTest 99 = .ok (.istore_n 2, 1) := by decide +kernel
theorem dX11_isTest_100 : decode cX11_isTest 100 = .ok (.iload_n 2, 1) := by decide +kernel
theorem dX11_isTest_101 : decode cX11_isTest 101 = .ok (.ifCond .ge 5, 3) := by decide +kernel
theorem dX11_isTest_104 : decode cX11_isTest 104 = .ok (.iconst 0, 1) := by decide +kernel
theorem dX11_isTest_105 : decode cX11_isTest 105 = .ok (.ireturn, 1) := by decide +kernel
theorem dX11_isTest_106 : decode cX11_isTest 106 = .ok (.aload_n 0, 1) := by decide +kernel
theorem dX11_isTest_107 : decode cX11_isTest 107 = .ok (.dup, 1) := by decide +kernel
theorem dX11_isTest_108 : decode cX11_isTest 108 = .ok (.getfield 155, 3) := by decide +kernel
theorem dX11_isTest_111 : decode cX11_isTest 111 = .ok (.iconst 1, 1) := by decide +kernel
theorem dX11_isTest_112 : decode cX11_isTest 112 = .ok (.iadd, 1) := by decide +kernel
theorem dX11_isTest_113 : decode cX11_isTest 113 = .ok (.putfield 155, 3) := by decide +kernel
theorem dX11_isTest_116 : decode cX11_isTest 116 = .ok (.aload_n 0, 1) := by decide +kernel
theorem dX11_isTest_117 : decode cX11_isTest 117 = .ok (.invokevirtual 190, 3) := by decide +kernel
theorem dX11_isTest_120 : decode cX11_isTest 120 = .ok (.ifCond .eq 31, 3) := by decide +kernel
theorem dX11_isTest_123 : decode cX11_isTest 123 = .ok (.aload_n 0, 1) := by decide +kernel
theorem dX11_isTest_124 : decode cX11_isTest 124 = .ok (.iconst 3, 1) := by decide +kernel
theorem dX11_isTest_125 : decode cX11_isTest 125 = .ok (.sipush 300, 3) := by decide +kernel
theorem dX11_isTest_128 : decode cX11_isTest 128 = .ok (.iload_n 1, 1) := by decide +kernel
theorem dX11_isTest_129 : decode cX11_isTest 129 = .ok (.imul, 1) := by decide +kernel
theorem dX11_isTest_130 : decode cX11_isTest 130 = .ok (.iadd, 1) := by decide +kernel
theorem dX11_isTest_131 : decode cX11_isTest 131 = .ok (.bipush 100, 2) := by decide +kernel
theorem dX11_isTest_133 : decode cX11_isTest 133 = .ok (.iload_n 2, 1) := by decide +kernel
theorem dX11_isTest_134 : decode cX11_isTest 134 = .ok (.imul, 1) := by decide +kernel
theorem dX11_isTest_135 : decode cX11_isTest 135 = .ok (.iadd, 1) := by decide +kernel
theorem dX11_isTest_136 : decode cX11_isTest 136 = .ok (.aload_n 0, 1) := by decide +kernel
theorem dX11_isTest_137 : decode cX11_isTest 137 = .ok (.getfield 158, 3) := by decide +kernel
theorem dX11_isTest_140 : decode cX11_isTest 140 = .ok (.iadd, 1) := by decide +kernel
theorem dX11_isTest_141 : decode cX11_isTest 141 = .ok (.invokevirtual 193, 3) := by decide +kernel
theorem dX11_isTest_144 : decode cX11_isTest 144 = .ok (.ifCond .eq 7, 3) := by decide +kernel
theorem dX11_isTest_147 : decode cX11_isTest 147 = .ok (.iconst 1, 1) := by decide +kernel
theorem dX11_isTest_148 : decode cX11_isTest 148 = .ok (.goto 4, 3) := by decide +kernel
theorem dX11_isTest_151 : decode cX11_isTest 151 = .ok (.iconst 0, 1) := by decide +kernel
theorem dX11_isTest_152 : decode cX11_isTest 152 = .ok (.ireturn, 1) := by decide +kernel
theorem dX11_isOpened_0 : decode cX11_isOpened 0 = .ok (.aload_n 0, 1) := by decide +kernel
theorem dX11_isOpened_1 : decode cX11_isOpened 1 = .ok (.getfield 196, 3) := by decide +kernel
theorem dX11_isOpened_4 : decode cX11_isOpened 4 = .ok (.iconst 4, 1) := by decide +kernel
theorem dX11_isOpened_5 : decode cX11_isOpened 5 = .ok (.if_icmp .eq 11, 3) := by decide +kernel
theorem dX11_isOpened_8 : decode cX11_isOpened 8 = .ok (.aload_n 0, 1) := by decide +kernel
theorem dX11_isOpened_9 : decode cX11_isOpened 9 = .ok (.iload_n 1, 1) := by decide +kernel
theorem dX11_isOpened_10 : decode cX11_isOpened 10 = .ok (.invokevirtual 177, 3) := by decide +kernel
theorem dX11_isOpened_13 : decode cX11_isOpened 13 = .ok (.ifCond .ne 5, 3) := by decide +kernel
theorem dX11_isOpened_16 : decode cX11_isOpened 16 = .ok (.iconst 0, 1) := by decide +kernel
theorem dX11_isOpened_17 : decode cX11_isOpened 17 = .ok (.ireturn, 1) := by decide +kernel
theorem dX11_isOpened_18 : decode cX11_isOpened 18 = .ok (.aload_n 0, 1) := by decide +kernel
theorem dX11_isOpened_19 : decode cX11_isOpened 19 = .ok (.dup, 1) := by decide +kernel
theorem dX11_isOpened_20 : decode cX11_isOpened 20 = .ok (.getfield 196, 3) := by decide +kernel
theorem dX11_isOpened_23 : decode cX11_isOpened 23 = .ok (.iconst 1, 1) := by decide +kernel
theorem dX11_isOpened_24 : decode cX11_isOpened 24 = .ok (.iadd, 1) := by decide +kernel
theorem dX11_isOpened_25 : decode cX11_isOpened 25 = .ok (.putfield 196, 3) := by decide +kernel
theorem dX11_isOpened_28 : decode cX11_isOpened 28 = .ok (.iconst 1, 1) := by decide +kernel
theorem dX11_isOpened_29 : decode cX11_isOpened 29 = .ok (.ireturn, 1) := by decide +kernel
theorem dX11_isF_0 : decode cX11_isF 0 = .ok (.aload_n 0, 1) := by decide +kernel
theorem dX11_isF_1 : decode cX11_isF 1 = .ok (.bipush 33, 2) := by decide +kernel
theorem dX11_isF_3 : decode cX11_isF 3 = .ok (.invokevirtual 199, 3) := by decide +kernel
theorem dX11_isF_6 : decode cX11_isF 6 = .ok (.ifCond .eq 27, 3) := by decide +kernel
theorem dX11_isF_9 : decode cX11_isF 9 = .ok (.aload_n 0, 1) := by decide +kernel
theorem dX11_isF_10 : decode cX11_isF 10 = .ok (.invokevirtual 202, 3) := by decide +kernel
theorem dX11_isF_13 : decode cX11_isF 13 = .ok (.ifCond .eq 15, 3) := by decide +kernel
theorem dX11_isF_16 : decode cX11_isF 16 = .ok (.aload_n 0, 1) := by decide +kernel
theorem dX11_isF_17 : decode cX11_isF 17 = .ok (.iconst 0, 1) := by decide +kernel
theorem dX11_isF_18 : decode cX11_isF 18 = .ok (.invokevirtual 193, 3) := by decide +kernel
theorem dX11_isF_21 : decode cX11_isF 21 = .ok (.ifCond .eq 7, 3) := by decide +kernel
theorem dX11_isF_24 : decode cX11_isF 24 = .ok (.iconst 1, 1) := by decide +kernel
theorem dX11_isF_25 : decode cX11_isF 25 = .ok (.goto 4, 3) := by decide +kernel
theorem dX11_isF_28 : decode cX11_isF 28 = .ok (.iconst 0, 1) := by decide +kernel
theorem dX11_isF_29 : decode cX11_isF 29 = .ok (.istore_n 1, 1) := by decide +kernel
theorem dX11_isF_30 : decode cX11_isF 30 = .ok (.goto 42, 3) := by decide +kernel
theorem dX11_isF_33 : decode cX11_isF 33 = .ok (.aload_n 0, 1) := by decide +kernel
theorem dX11_isF_34 : decode cX11_isF 34 = .ok (.bipush 40, 2) := by decide +kernel
theorem dX11_isF_36 : decode cX11_isF 36 = .ok (.invokevirtual 199, 3) := by decide +kernel
theorem dX11_isF_39 : decode cX11_isF 39 = .ok (.ifCond .eq 28, 3) := by decide +kernel
theorem dX11_isF_42 : decode cX11_isF 42 = .ok (.aload_n 0, 1) := by decide +kernel
theorem dX11_isF_43 : decode cX11_isF 43 = .ok (.invokevirtual 205, 3) := by decide +kernel
theorem dX11_isF_46 : decode cX11_isF 46 = .ok (.ifCond .eq 16, 3) := by decide +kernel
theorem dX11_isF_49 : decode cX11_isF 49 = .ok (.aload_n 0, 1) := by decide +kernel
theorem dX11_isF_50 : decode cX11_isF 50 = .ok (.bipush 41, 2) := by decide +kernel
theorem dX11_isF_52 : decode cX11_isF 52 = .ok (.invokevirtual 177, 3) := by decide +kernel
theorem dX11_isF_55 : decode cX11_isF 55 = .ok (.ifCond .eq 7, 3) := by decide +kernel
theorem dX11_isF_58 : decode cX11_isF 58 = .ok (.iconst 1, 1) := by decide +kernel
theorem dX11_isF_59 : decode cX11_isF 59 = .ok (.goto 4, 3) := by decide +kernel
theorem dX11_isF_62 : decode cX11_isF 62 = .ok (.iconst 0, 1) := by decide +kernel
theorem dX11_isF_63 : decode cX11_isF 63 = .ok (.istore_n 1, 1) := by decide +kernel
theorem dX11_isF_64 : decode cX11_isF 64 = .ok (.goto 8, 3) := by decide +kernel
theorem dX11_isF_67 : decode cX11_isF 67 = .ok (.aload_n 0, 1) := by decide +kernel
theorem dX11_isF_68 : decode cX11_isF 68 = .ok (.invokevirtual 208, 3) := by decide +kernel
theorem dX11_isF_71 : decode cX11_isF 71 = .ok (.ireturn, 1) := by decide +kernel
theorem dX11_isF_72 : decode cX11_isF 72 = .ok (.aload_n 0, 1) := by decide +kernel
theorem dX11_isF_73 : decode cX11_isF 73 = .ok (.dup, 1) := by decide +kernel
theorem dX11_isF_74 : decode cX11_isF 74 = .ok (.getfield 196, 3) := by decide +kernel
theorem dX11_isF_77 : decode cX11_isF 77 = .ok (.iconst 1, 1) := by decide +kernel
theorem dX11_isF_78 : decode cX11_isF 78 = .ok (.isub, 1) := by decide +kernel
theorem dX11_isF_79 : decode cX11_isF 79 = .ok (.putfield 196, 3) := by decide +kernel
theorem dX11_isF_82 : decode cX11_isF 82 = .ok (.iload_n 1, 1) := by decide +kernel
theorem dX11_isF_83 : decode cX11_isF 83 = .ok (.ireturn, 1) := by decide +kernel
theorem dX11_isT_0 : decode cX11_isT 0 = .ok (.aload_n 0, 1) := by decide +kernel
theorem dX11_isT_1 : decode cX11_isT 1 = .ok (.invokevirtual 202, 3) := by decide +kernel
theorem dX11_isT_4 : decode cX11_isT 4 = .ok (.ifCond .ne 5, 3) := by decide +kernel
theorem dX11_isT_7 : decode cX11_isT 7 = .ok (.iconst 0, 1) := by decide +kernel
theorem dX11_isT_8 : decode cX11_isT 8 = .ok (.ireturn, 1) := by decide +kernel
theorem dX11_isT_9 : decode cX11_isT 9 = .ok (.aload_n 0, 1) := by decide +kernel
theorem dX11_isT_10 : decode cX11_isT 10 = .ok (.bipush 38, 2) := by decide +kernel
theorem dX11_isT_12 : decode cX11_isT 12 = .ok (.invokevirtual 177, 3) := by decide +kernel
theorem dX11_isT_15 : decode cX11_isT 15 = .ok (.ifCond .eq 20, 3) := by decide +kernel
theorem dX11_isT_18 : decode cX11_isT 18 = .ok (.aload_n 0, 1) := by decide +kernel
theorem dX11_isT_19 : decode cX11_isT 19 = .ok (.invokevirtual 202, 3) := by decide +kernel
theorem dX11_isT_22 : decode cX11_isT 22 = .ok (.ifCond .eq 11, 3) := by decide +kernel
theorem dX11_isT_25 : decode cX11_isT 25 = .ok (.aload_n 0, 1) := by decide +kernel
theorem dX11_isT_26 : decode cX11_isT 26 = .ok (.iconst 1, 1) := by decide +kernel
theorem dX11_isT_27 : decode cX11_isT 27 = .ok (.invokevirtual 193, 3) := by decide +kernel
theorem dX11_isT_30 : decode cX11_isT 30 = .ok (.ifCond .ne (-21), 3) := by decide +kernel
theorem dX11_isT_33 : decode cX11_isT 33 = .ok (.iconst 0, 1) := by decide +kernel
theorem dX11_isT_34 : decode cX11_isT 34 = .ok (.ireturn, 1) := by decide +kernel
theorem dX11_isT_35 : decode cX11_isT 35 = .ok (.iconst 1, 1) := by decide +kernel
theorem dX11_isT_36 : decode cX11_isT 36 = .ok (.ireturn, 1) := by decide +kernel
theorem dX11_isE_0 : decode cX11_isE 0 = .ok (.aload_n 0, 1) := by decide +kernel
theorem dX11_isE_1 : decode cX11_isE 1 = .ok (.invokevirtual 211, 3) := by decide +kernel
theorem dX11_isE_4 : decode cX11_isE 4 = .ok (.ifCond .ne 5, 3) := by decide +kernel
theorem dX11_isE_7 : decode cX11_isE 7 = .ok (.iconst 0, 1) := by decide +kernel
theorem dX11_isE_8 : decode cX11_isE 8 = .ok (.ireturn, 1) := by decide +kernel
theorem dX11_isE_9 : decode cX11_isE 9 = .ok (.aload_n 0, 1) := by decide +kernel
theorem dX11_isE_10 : decode cX11_isE 10 = .ok (.bipush 124, 2) := by decide +kernel
theorem dX11_isE_12 : decode cX11_isE 12 = .ok (.invokevirtual 177, 3) := by decide +kernel
theorem dX11_isE_15 : decode cX11_isE 15 = .ok (.ifCond .eq 20, 3) := by decide +kernel
theorem dX11_isE_18 : decode cX11_isE 18 = .ok (.aload_n 0, 1) := by decide +kernel
theorem dX11_isE_19 : decode cX11_isE 19 = .ok (.invokevirtual 211, 3) := by decide +kernel
theorem dX11_isE_22 : decode cX11_isE 22 = .ok (.ifCond .eq 11, 3) := by decide +kernel
theorem dX11_isE_25 : decode cX11_isE 25 = .ok (.aload_n 0, 1) := by decide +kernel
theorem dX11_isE_26 : decode cX11_isE 26 = .ok (.iconst 2, 1) := by decide +kernel
theorem dX11_isE_27 : decode cX11_isE 27 = .ok (.invokevirtual 193, 3) := by decide +kernel
theorem dX11_isE_30 : decode cX11_isE 30 = .ok (.ifCond .ne (-21), 3) := by decide +kernel
theorem dX11_isE_33 : decode cX11_isE 33 = .ok (.iconst 0, 1) := by decide +kernel
theorem dX11_isE_34 : decode cX11_isE 34 = .ok (.ireturn, 1) := by decide +kernel
theorem dX11_isE_35 : decode cX11_isE 35 = .ok (.iconst 1, 1) := by decide +kernel
theorem dX11_isE_36 : decode cX11_isE 36 = .ok (.ireturn, 1) := by decide +kernel
theorem dX11_isClause_0 : decode cX11_isClause 0 = .ok (.iconst (-1), 1) := by decide +kernel
theorem dX11_isClause_1 : decode cX11_isClause 1 = .ok (.istore_n 2, 1) := by decide +kernel
theorem dX11_isClause_2 : decode cX11_isClause 2 = .ok (.aload_n 0, 1) := by decide +kernel
theorem dX11_isClause_3 : decode cX11_isClause 3 = .ok (.getfield 155, 3) := by decide +kernel
theorem dX11_isClause_6 : decode cX11_isClause 6 = .ok (.aload_n 0, 1) := by decide +kernel
theorem dX11_isClause_7 : decode cX11_isClause 7 = .ok (.getfield 152, 3) := by decide +kernel
theorem dX11_isClause_10 : decode cX11_isClause 10 = .ok (.if_icmp .ge 59, 3) := by decide +kernel
theorem dX11_isClause_13 : decode cX11_isClause 13 = .ok (.aload_n 0, 1) := by decide +kernel
theorem dX11_isClause_14 : decode cX11_isClause 14 = .ok (.getfield 39, 3) := by decide +kernel
theorem dX11_isClause_17 : decode cX11_isClause 17 = .ok (.aload_n 0, 1) := by decide +kernel
theorem dX11_isClause_18 : decode cX11_isClause 18 = .ok (.getfield 155, 3) := by decide +kernel
theorem dX11_isClause_21 : decode cX11_isClause 21 = .ok (.iaload, 1) := by decide +kernel
theorem dX11_isClause_22 : decode cX11_isClause 22 = .ok (.bipush 107, 2) := by decide +kernel
theorem dX11_isClause_24 : decode cX11_isClause 24 = .ok (.if_icmp .ne 7, 3) := by decide +kernel
theorem dX11_isClause_27 : decode cX11_isClause 27 = .ok (.iconst 0, 1) := by decide +kernel
theorem dX11_isClause_28 : decode cX11_isClause 28 = .ok (.goto 40, 3) := by decide +kernel
theorem dX11_isClause_31 : decode cX11_isClause 31 = .ok (.aload_n 0, 1) := by decide +kernel
theorem dX11_isClause_32 : decode cX11_isClause 32 = .ok (.getfield 39, 3) := by decide +kernel
theorem dX11_isClause_35 : decode cX11_isClause 35 = .ok (.aload_n 0, 1) := by decide +kernel
theorem dX11_isClause_36 : decode cX11_isClause 36 = .ok (.getfield 155, 3) := by decide +kernel
theorem dX11_isClause_39 : decode cX11_isClause 39 = .ok (.iaload, 1) := by decide +kernel
theorem dX11_isClause_40 : decode cX11_isClause 40 = .ok (.bipush 100, 2) := by decide +kernel
theorem dX11_isClause_42 : decode cX11_isClause 42 = .ok (.if_icmp .ne 7, 3) := by decide +kernel
theorem dX11_isClause_45 : decode cX11_isClause 45 = .ok (.iconst 1, 1) := by decide +kernel
theorem dX11_isClause_46 : decode cX11_isClause 46 = .ok (.goto 22, 3) := by decide +kernel
theorem dX11_isClause_49 : decode cX11_isClause 49 = .ok (.aload_n 0, 1) := by decide +kernel
theorem dX11_isClause_50 : decode cX11_isClause 50 = .ok (.getfield 39, 3) := by decide +kernel
theorem dX11_isClause_53 : decode cX11_isClause 53 = .ok (.aload_n 0, 1) := by decide +kernel
theorem dX11_isClause_54 : decode cX11_isClause 54 = .ok (.getfield 155, 3) := by decide +kernel
theorem dX11_isClause_57 : decode cX11_isClause 57 = .ok (.iaload, 1) := by decide +kernel
theorem dX11_isClause_58 : decode cX11_isClause 58 = .ok (.bipush 114, 2) := by decide +kernel
theorem dX11_isClause_60 : decode cX11_isClause 60 = .ok (.if_icmp .ne 7, 3) := by decide +kernel
theorem dX11_isClause_63 : decode cX11_isClause 63 = .ok (.iconst 2, 1) := by decide +kernel
theorem dX11_isClause_64 : decode cX11_isClause 64 = .ok (.goto 4, 3) := by decide +kernel
theorem dX11_isClause_67 : decode cX11_isClause 67 = .ok (.iconst (-1), 1) := by decide +kernel
theorem dX11_isClause_68 : decode cX11_isClause 68 = .ok (.istore_n 2, 1) := by decide +kernel
theorem dX11_isClause_69 : decode cX11_isClause 69 = .ok (.iload_n 2, 1) := by decide +kernel
theorem dX11_isClause_70 : decode cX11_isClause 70 = .ok (.ifCond .ne 12, 3) := by decide +kernel
theorem dX11_isClause_73 : decode cX11_isClause 73 = .ok (.aload_n 0, 1) := by decide +kernel
theorem dX11_isClause_74 : decode cX11_isClause 74 = .ok (.ldc 214, 2) := by decide +kernel
theorem dX11_isClause_76 : decode cX11_isClause 76 = .ok (.invokevirtual 216, 3) := by decide +kernel
theorem dX11_isClause_79 : decode cX11_isClause 79 = .ok (.goto 36, 3) := by decide +kernel
theorem dX11_isClause_82 : decode cX11_isClause 82 = .ok (.iload_n 2, 1) := by decide +kernel
theorem dX11_isClause_83 : decode cX11_isClause 83 = .ok (.iconst 1, 1) := by decide +kernel
theorem dX11_isClause_84 : decode cX11_isClause 84 = .ok (.if_icmp .ne 12, 3) := by decide +kernel
theorem dX11_isClause_87 : decode cX11_isClause 87 = .ok (.aload_n 0, 1) := by decide +kernel
theorem dX11_isClause_88 : decode cX11_isClause 88 = .ok (.ldc 220, 2) := by decide +kernel
theorem dX11_isClause_90 : decode cX11_isClause 90 = .ok (.invokevirtual 216, 3) := by decide +kernel
theorem dX11_isClause_93 : decode cX11_isClause 93 = .ok (.goto 22, 3) := by decide +kernel
theorem dX11_isClause_96 : decode cX11_isClause 96 = .ok (.iload_n 2, 1) := by decide +kernel
theorem dX11_isClause_97 : decode cX11_isClause 97 = .ok (.iconst 2, 1) := by decide +kernel
theorem dX11_isClause_98 : decode cX11_isClause 98 = .ok (.if_icmp .ne 16, 3) := by decide +kernel
theorem dX11_isClause_101 : decode cX11_isClause 101 = .ok (.aload_n 0, 1) := by decide +kernel
theorem dX11_isClause_102 : decode cX11_isClause 102 = .ok (.ldc 222, 2) := by decide +kernel
theorem dX11_isClause_104 : decode cX11_isClause 104 = .ok (.invokevirtual 216, 3) := by decide +kernel
theorem dX11_isClause_107 : decode cX11_isClause 107 = .ok (.ifCond .eq 7, 3) := by decide +kernel
theorem dX11_isClause_110 : decode cX11_isClause 110 = .ok (.iconst 1, 1) := by decide +kernel
theorem dX11_isClause_111 : decode cX11_isClause 111 = .ok (.goto 4, 3) := by decide +kernel
theorem dX11_isClause_114 : decode cX11_isClause 114 = .ok (.iconst 0, 1) := by decide +kernel
theorem dX11_isClause_115 : decode cX11_isClause 115 = .ok (.istore_n 3, 1) := by decide +kernel
theorem dX11_isClause_116 : decode cX11_isClause 116 = .ok (.iload_n 3, 1) := by decide +kernel
theorem dX11_isClause_117 : decode cX11_isClause 117 = .ok (.ifCond .eq 10, 3) := by decide +kernel
theorem dX11_isClause_120 : decode cX11_isClause 120 = .ok (.aload_n 0, 1) := by decide +kernel
theorem dX11_isClause_121 : decode cX11_isClause 121 = .ok (.invokevirtual 190, 3) := by decide +kernel
theorem dX11_isClause_124 : decode cX11_isClause 124 = .ok (.ifCond .ne 5, 3) := by decide +kernel
theorem dX11_isClause_127 : decode cX11_isClause 127 = .ok (.iconst 0, 1) := by decide +kernel
theorem dX11_isClause_128 : decode cX11_isClause 128 = .ok (.ireturn, 1) := by decide +kernel
theorem dX11_isClause_129 : decode cX11_isClause 129 = .ok (.aload_n 0, 1) := by decide +kernel
theorem dX11_isClause_130 : decode cX11_isClause 130 = .ok (.getfield 45, 3) := by decide +kernel
theorem dX11_isClause_133 : decode cX11_isClause 133 = .ok (.iload_n 1, 1) := by decide +kernel
theorem dX11_isClause_134 : decode cX11_isClause 134 = .ok (.iload_n 2, 1) := by decide +kernel
theorem dX11_isClause_135 : decode cX11_isClause 135 = .ok (.iastore, 1) := by decide +kernel
theorem dX11_isClause_136 : decode cX11_isClause 136 = .ok (.aload_n 0, 1) := by decide +kernel
theorem dX11_isClause_137 : decode cX11_isClause 137 = .ok (.getfield 48, 3) := by decide +kernel
theorem dX11_isClause_140 : decode cX11_isClause 140 = .ok (.iload_n 1, 1) := by decide +kernel
theorem dX11_isClause_141 : decode cX11_isClause 141 = .ok (.aload_n 0, 1) := by decide +kernel
theorem dX11_isClause_142 : decode cX11_isClause 142 = .ok (.getfield 158, 3) := by decide +kernel
theorem dX11_isClause_145 : decode cX11_isClause 145 = .ok (.iastore, 1) := by decide +kernel
theorem dX11_isClause_146 : decode cX11_isClause 146 = .ok (.aload_n 0, 1) := by decide +kernel
theorem dX11_isClause_147 : decode cX11_isClause 147 = .ok (.getfield 51, 3) := by decide +kernel
theorem dX11_isClause_150 : decode cX11_isClause 150 = .ok (.iload_n 1, 1) := by decide +kernel
theorem dX11_isClause_151 : decode cX11_isClause 151 = .ok (.aload_n 0, 1) := by decide +kernel
theorem dX11_isClause_152 : decode cX11_isClause 152 = .ok (.getfield 180, 3) := by decide +kernel
theorem dX11_isClause_155 : decode cX11_isClause 155 = .ok (.iastore, 1) := by decide +kernel
theorem dX11_isClause_156 : decode cX11_isClause 156 = .ok (.aload_n 0, 1) := by decide +kernel
theorem dX11_isClause_157 : decode cX11_isClause 157 = .ok (.iconst 0, 1) := by decide +kernel
theorem dX11_isClause_158 : decode cX11_isClause 158 = .ok (.putfield 196, 3) := by decide +kernel
theorem dX11_isClause_161 : decode cX11_isClause 161 = .ok (.iload_n 2, 1) := by decide +kernel
theorem dX11_isClause_162 : decode cX11_isClause 162 = .ok (.iconst 2, 1) := by decide +kernel
theorem dX11_isClause_163 : decode cX11_isClause 163 = .ok (.if_icmp .ge 21, 3) := by decide +kernel
theorem dX11_isClause_166 : decode cX11_isClause 166 = .ok (.aload_n 0, 1) := by decide +kernel
theorem dX11_isClause_167 : decode cX11_isClause 167 = .ok (.bipush 32, 2) := by decide +kernel
theorem dX11_isClause_169 : decode cX11_isClause 169 = .ok (.invokevirtual 177, 3) := by decide +kernel
theorem dX11_isClause_172 : decode cX11_isClause 172 = .ok (.ifCond .eq 10, 3) := by decide +kernel
theorem dX11_isClause_175 : decode cX11_isClause 175 = .ok (.aload_n 0, 1) := by decide +kernel
theorem dX11_isClause_176 : decode cX11_isClause 176 = .ok (.invokevirtual 205, 3) := by decide +kernel
theorem dX11_isClause_179 : decode cX11_isClause 179 = .ok (.ifCond .ne 5, 3) := by decide +kernel
theorem dX11_isClause_182 : decode cX11_isClause 182 = .ok (.iconst 0, 1) := by decide +kernel
theorem dX11_isClause_183 : decode cX11_isClause 183 = .ok (.ireturn, 1) := by decide +kernel
theorem dX11_isClause_184 : decode cX11_isClause 184 = .ok (.aload_n 0, 1) := by decide +kernel
theorem dX11_isClause_185 : decode cX11_isClause 185 = .ok (.getfield 54, 3) := by decide +kernel
theorem dX11_isClause_188 : decode cX11_isClause 188 = .ok (.iload_n 1, 1) := by decide +kernel
theorem dX11_isClause_189 : decode cX11_isClause 189 = .ok (.aload_n 0, 1) := by decide +kernel
theorem dX11_isClause_190 : decode cX11_isClause 190 = .ok (.getfield 180, 3) := by decide +kernel
theorem dX11_isClause_193 : decode cX11_isClause 193 = .ok (.aload_n 0, 1) := by decide +kernel
theorem dX11_isClause_194 : decode cX11_isClause 194 = .ok (.getfield 51, 3) := by decide +kernel
theorem dX11_isClause_197 : decode cX11_isClause 197 = .ok (.iload_n 1, 1) := by decide +kernel
theorem dX11_isClause_198 : decode cX11_isClause 198 = .ok (.iaload, 1) := by decide +kernel
theorem dX11_isClause_199 : decode cX11_isClause 199 = .ok (.isub, 1) := by decide +kernel
theorem dX11_isClause_200 : decode cX11_isClause 200 = .ok (.iastore, 1) := by decide +kernel
theorem dX11_isClause_201 : decode cX11_isClause 201 = .ok (.iconst 1, 1) := by decide +kernel
theorem dX11_isClause_202 : decode cX11_isClause 202 = .ok (.ireturn, 1) := by decide +kernel
theorem dX11_border_0 : decode cX11_border 0 = .ok (.aload_n 0, 1) := by decide +kernel
theorem dX11_border_1 : decode cX11_border 1 = .ok (.getfield 224, 3) := by decide +kernel
theorem dX11_border_4 : decode cX11_border 4 = .ok (.bipush 6, 2) := by decide +kernel
theorem dX11_border_6 : decode cX11_border 6 = .ok (.if_icmp .ne 6, 3) := by decide +kernel
theorem dX11_border_9 : decode cX11_border 9 = .ok (.bipush (-4), 2) := by decide +kernel
theorem dX11_border_11 : decode cX11_border 11 = .ok (.ireturn, 1) := by decide +kernel
theorem dX11_border_12 : decode cX11_border 12 = .ok (.aload_n 0, 1) := by decide +kernel
theorem dX11_border_13 : decode cX11_border 13 = .ok (.getfield 180, 3) := by decide +kernel
theorem dX11_border_16 : decode cX11_border 16 = .ok (.istore_n 1, 1) := by decide +kernel
theorem dX11_border_17 : decode cX11_border 17 = .ok (.aload_n 0, 1) := by decide +kernel
theorem dX11_border_18 : decode cX11_border 18 = .ok (.iconst 0, 1) := by decide +kernel
theorem dX11_border_19 : decode cX11_border 19 = .ok (.putfield 155, 3) := by decide +kernel
theorem dX11_border_22 : decode cX11_border 22 = .ok (.iconst 0, 1) := by decide +kernel
theorem dX11_border_23 : decode cX11_border 23 = .ok (.istore_n 2, 1) := by decide +kernel
theorem dX11_border_24 : decode cX11_border 24 = .ok (.iconst 1, 1) := by decide +kernel
theorem dX11_border_25 : decode cX11_border 25 = .ok (.istore_n 3, 1) := by decide +kernel
theorem dX11_border_26 : decode cX11_border 26 = .ok (.iconst 0, 1) := by decide +kernel
theorem dX11_border_27 : decode cX11_border 27 = .ok (.istore 4, 2) := by decide +kernel
theorem dX11_border_29 : decode cX11_border 29 = .ok (.iload_n 3, 1) := by decide +kernel
theorem dX11_border_30 : decode cX11_border 30 = .ok (.ifCond .eq 93, 3) := by decide +kernel
theorem dX11_border_33 : decode cX11_border 33 = .ok (.iload 4, 2) := by decide +kernel
theorem dX11_border_35 : decode cX11_border 35 = .ok (.ifCond .ne 88, 3) := by decide +kernel
theorem dX11_border_38 : decode cX11_border 38 = .ok (.iload_n 2, 1) := by decide +kernel
theorem dX11_border_39 : decode cX11_border 39 = .ok (.bipush 10, 2) := by decide +kernel
theorem dX11_border_41 : decode cX11_border 41 = .ok (.if_icmp .ge 23, 3) := by decide +kernel
theorem dX11_border_44 : decode cX11_border 44 = .ok (.aload_n 0, 1) := by decide +kernel
theorem dX11_border_45 : decode cX11_border 45 = .ok (.bipush 10, 2) := by decide +kernel
theorem dX11_border_47 : decode cX11_border 47 = .ok (.aload_n 0, 1) := by decide +kernel
theorem dX11_border_48 : decode cX11_border 48 = .ok (.getfield 224, 3) := by decide +kernel
theorem dX11_border_51 : decode cX11_border 51 = .ok (.imul, 1) := by decide +kernel
theorem dX11_border_52 : decode cX11_border 52 = .ok (.iload_n 2, 1) := by decide +kernel
theorem dX11_border_53 : decode cX11_border 53 = .ok (.iadd, 1) := by decide +kernel
theorem dX11_border_54 : decode cX11_border 54 = .ok (.invokevirtual 227, 3) := by decide +kernel
theorem dX11_border_57 : decode cX11_border 57 = .ok (.ifCond .eq 7, 3) := by decide +kernel
theorem dX11_border_60 : decode cX11_border 60 = .ok (.iconst 1, 1) := by decide +kernel
theorem dX11_border_61 : decode cX11_border 61 = .ok (.goto 4, 3) := by decide +kernel
theorem dX11_border_64 : decode cX11_border 64 = .ok (.iconst 0, 1) := by decide +kernel
theorem dX11_border_65 : decode cX11_border 65 = .ok (.istore_n 3, 1) := by decide +kernel
theorem dX11_border_66 : decode cX11_border 66 = .ok (.iload_n 3, 1) := by decide +kernel
theorem dX11_border_67 : decode cX11_border 67 = .ok (.ifCond .ne 6, 3) := by decide +kernel
theorem dX11_border_70 : decode cX11_border 70 = .ok (.goto (-41), 3) := by decide +kernel
theorem dX11_border_73 : decode cX11_border 73 = .ok (.iinc 2 1, 3) := by decide +kernel
theorem dX11_border_76 : decode cX11_border 76 = .ok (.aload_n 0, 1) := by decide +kernel
theorem dX11_border_77 : decode cX11_border 77 = .ok (.getfield 155, 3) := by decide +kernel
theorem dX11_border_80 : decode cX11_border 80 = .ok (.aload_n 0, 1) := by decide +kernel
theorem dX11_border_81 : decode cX11_border 81 = .ok (.getfield 152, 3) := by decide +kernel
theorem dX11_border_84 : decode cX11_border 84 = .ok (.if_icmp .ne 7, 3) := by decide +kernel
theorem dX11_border_87 : decode cX11_border 87 = .ok (.iconst 1, 1) := by decide +kernel
theorem dX11_border_88 : decode cX11_border 88 = .ok (.goto 4, 3) := by decide +kernel
theorem dX11_border_91 : decode cX11_border 91 = .ok (.iconst 0, 1) := by decide +kernel
theorem dX11_border_92 : decode cX11_border 92 = .ok (.istore 4, 2) := by decide +kernel
theorem dX11_border_94 : decode cX11_border 94 = .ok (.iload 4, 2) := by decide +kernel
theorem dX11_border_96 : decode cX11_border 96 = .ok (.ifCond .ne 18, 3) := by decide +kernel
theorem dX11_border_99 : decode cX11_border 99 = .ok (.iload_n 2, 1) := by decide +kernel
theorem dX11_border_100 : decode cX11_border 100 = .ok (.bipush 10, 2) := by decide +kernel
theorem dX11_border_102 : decode cX11_border 102 = .ok (.if_icmp .ge 16, 3) := by decide +kernel
theorem dX11_border_105 : decode cX11_border 105 = .ok (.aload_n 0, 1) := by decide +kernel
theorem dX11_border_106 : decode cX11_border 106 = .ok (.bipush 59, 2) := by decide +kernel
theorem dX11_border_108 : decode cX11_border 108 = .ok (.invokevirtual 177, 3) := by decide +kernel
theorem dX11_border_111 : decode cX11_border 111 = .ok (.ifCond .eq 7, 3) := by decide +kernel
theorem dX11_border_114 : decode cX11_border 114 = .ok (.iconst 1, 1) := by decide +kernel
theorem dX11_border_115 : decode cX11_border 115 = .ok (.goto 4, 3) := by decide +kernel
theorem dX11_border_118 : decode cX11_border 118 = .ok (.iconst 0, 1) := by decide +kernel
theorem dX11_border_119 : decode cX11_border 119 = .ok (.istore_n 3, 1) := by decide +kernel
theorem dX11_border_120 : decode cX11_border 120 = .ok (.goto (-91), 3) := by decide +kernel
theorem dX11_border_123 : decode cX11_border 123 = .ok (.aload_n 0, 1) := by decide +kernel
theorem dX11_border_124 : decode cX11_border 124 = .ok (.iconst 0, 1) := by decide +kernel
theorem dX11_border_125 : decode cX11_border 125 = .ok (.putfield 152, 3) := by decide +kernel
theorem dX11_border_128 : decode cX11_border 128 = .ok (.iload 4, 2) := by decide +kernel
theorem dX11_border_130 : decode cX11_border 130 = .ok (.ifCond .ne 16, 3) := by decide +kernel
theorem dX11_border_133 : decode cX11_border 133 = .ok (.aload_n 0, 1) := by decide +kernel
theorem dX11_border_134 : decode cX11_border 134 = .ok (.iload_n 1, 1) := by decide +kernel
theorem dX11_border_135 : decode cX11_border 135 = .ok (.putfield 180, 3) := by decide +kernel
theorem dX11_border_138 : decode cX11_border 138 = .ok (.bipush (-10), 2) := by decide +kernel
theorem dX11_border_140 : decode cX11_border 140 = .ok (.aload_n 0, 1) := by decide +kernel
theorem dX11_border_141 : decode cX11_border 141 = .ok (.getfield 155, 3) := by decide +kernel
theorem dX11_border_144 : decode cX11_border 144 = .ok (.isub, 1) := by decide +kernel
theorem dX11_border_145 : decode cX11_border 145 = .ok (.ireturn, 1) := by decide +kernel
theorem dX11_border_146 : decode cX11_border 146 = .ok (.aload_n 0, 1) := by decide +kernel
theorem dX11_border_147 : decode cX11_border 147 = .ok (.getfield 42, 3) := by decide +kernel
theorem dX11_border_150 : decode cX11_border 150 = .ok (.aload_n 0, 1) := by decide +kernel
theorem dX11_border_151 : decode cX11_border 151 = .ok (.getfield 224, 3) := by decide +kernel
theorem dX11_border_154 : decode cX11_border 154 = .ok (.iload_n 2, 1) := by decide +kernel
theorem dX11_border_155 : decode cX11_border 155 = .ok (.iastore, 1) := by decide +kernel
theorem dX11_border_156 : decode cX11_border 156 = .ok (.aload_n 0, 1) := by decide +kernel
theorem dX11_border_157 : decode cX11_border 157 = .ok (.aload_n 0, 1) := by decide +kernel
theorem dX11_border_158 : decode cX11_border 158 = .ok (.getfield 224, 3) := by decide +kernel
theorem dX11_border_161 : decode cX11_border 161 = .ok (.putfield 110, 3) := by decide +kernel
theorem dX11_border_164 : decode cX11_border 164 = .ok (.aload_n 0, 1) := by decide +kernel
theorem dX11_border_165 : decode cX11_border 165 = .ok (.dup, 1) := by decide +kernel
theorem dX11_border_166 : decode cX11_border 166 = .ok (.getfield 224, 3) := by decide +kernel
theorem dX11_border_169 : decode cX11_border 169 = .ok (.dup_x1, 1) := by decide +kernel
theorem dX11_border_170 : decode cX11_border 170 = .ok (.iconst 1, 1) := by decide +kernel
theorem dX11_border_171 : decode cX11_border 171 = .ok (.iadd, 1) := by decide +kernel
theorem dX11_border_172 : decode cX11_border 172 = .ok (.putfield 224, 3) := by decide +kernel
theorem dX11_border_175 : decode cX11_border 175 = .ok (.ireturn, 1) := by decide +kernel
theorem dX11_letterOf_0 : decode cX11_letterOf 0 = .ok (.iload_n 3, 1) := by decide +kernel
theorem dX11_letterOf_1 : decode cX11_letterOf 1 = .ok (.tableswitch 66 0 4 #[35, 37, 44, 51, 61], 35) := by decide +kernel
theorem dX11_letterOf_36 : decode cX11_letterOf 36 = .ok (.iload_n 1, 1) := by decide +kernel
theorem dX11_letterOf_37 : decode cX11_letterOf 37 = .ok (.ireturn, 1) := by decide +kernel
theorem dX11_letterOf_38 : decode cX11_letterOf 38 = .ok (.aload_n 0, 1) := by decide +kernel
theorem dX11_letterOf_39 : decode cX11_letterOf 39 = .ok (.getfield 9, 3) := by decide +kernel
theorem dX11_letterOf_42 : decode cX11_letterOf 42 = .ok (.iload_n 1, 1) := by decide +kernel
theorem dX11_letterOf_43 : decode cX11_letterOf 43 = .ok (.iaload, 1) := by decide +kernel
theorem dX11_letterOf_44 : decode cX11_letterOf 44 = .ok (.ireturn, 1) := by decide +kernel
theorem dX11_letterOf_45 : decode cX11_letterOf 45 = .ok (.aload_n 0, 1) := by decide +kernel
theorem dX11_letterOf_46 : decode cX11_letterOf 46 = .ok (.getfield 15, 3) := by decide +kernel
theorem dX11_letterOf_49 : decode cX11_letterOf 49 = .ok (.iload_n 1, 1) := by decide +kernel
theorem dX11_letterOf_50 : decode cX11_letterOf 50 = .ok (.iaload, 1) := by decide +kernel
theorem dX11_letterOf_51 : decode cX11_letterOf 51 = .ok (.ireturn, 1) := by decide +kernel
theorem dX11_letterOf_52 : decode cX11_letterOf 52 = .ok (.aload_n 0, 1) := by decide +kernel
theorem dX11_letterOf_53 : decode cX11_letterOf 53 = .ok (.getfield 21, 3) := by decide +kernel
theorem dX11_letterOf_56 : decode cX11_letterOf 56 = .ok (.iload_n 1, 1) := by decide +kernel
theorem dX11_letterOf_57 : decode cX11_letterOf 57 = .ok (.iaload, 1) := by decide +kernel
theorem dX11_letterOf_58 : decode cX11_letterOf 58 = .ok (.bipush 10, 2) := by decide +kernel
theorem dX11_letterOf_60 : decode cX11_letterOf 60 = .ok (.idiv, 1) := by decide +kernel
theorem dX11_letterOf_61 : decode cX11_letterOf 61 = .ok (.ireturn, 1) := by decide +kernel
theorem dX11_letterOf_62 : decode cX11_letterOf 62 = .ok (.iload_n 2, 1) := by decide +kernel
theorem dX11_letterOf_63 : decode cX11_letterOf 63 = .ok (.invokestatic 230, 3) := by decide +kernel
theorem dX11_letterOf_66 : decode cX11_letterOf 66 = .ok (.ireturn, 1) := by decide +kernel
theorem dX11_letterOf_67 : decode cX11_letterOf 67 = .ok (.aload_n 0, 1) := by decide +kernel
theorem dX11_letterOf_68 : decode cX11_letterOf 68 = .ok (.getfield 235, 3) := by decide +kernel
theorem dX11_letterOf_71 : decode cX11_letterOf 71 = .ok (.bipush 10, 2) := by decide +kernel
theorem dX11_letterOf_73 : decode cX11_letterOf 73 = .ok (.irem, 1) := by decide +kernel
theorem dX11_letterOf_74 : decode cX11_letterOf 74 = .ok (.ireturn, 1) := by decide +kernel
theorem dX11_isTrue_0 : decode cX11_isTrue 0 = .ok (.iconst 0, 1) := by decide +kernel
theorem dX11_isTrue_1 : decode cX11_isTrue 1 = .ok (.istore 4, 2) := by decide +kernel
theorem dX11_isTrue_3 : decode cX11_isTrue 3 = .ok (.aload_n 0, 1) := by decide +kernel
theorem dX11_isTrue_4 : decode cX11_isTrue 4 = .ok (.getfield 51, 3) := by decide +kernel
theorem dX11_isTrue_7 : decode cX11_isTrue 7 = .ok (.iload_n 3, 1) := by decide +kernel
theorem dX11_isTrue_8 : decode cX11_isTrue 8 = .ok (.iaload, 1) := by decide +kernel
theorem dX11_isTrue_9 : decode cX11_isTrue 9 = .ok (.istore 5, 2) := by decide +kernel
theorem dX11_isTrue_11 : decode cX11_isTrue 11 = .ok (.iload 5, 2) := by decide +kernel
theorem dX11_isTrue_13 : decode cX11_isTrue 13 = .ok (.aload_n 0, 1) := by decide +kernel
theorem dX11_isTrue_14 : decode cX11_isTrue 14 = .ok (.getfield 51, 3) := by decide +kernel
theorem dX11_isTrue_17 : decode cX11_isTrue 17 = .ok (.iload_n 3, 1) := by decide +kernel
theorem dX11_isTrue_18 : decode cX11_isTrue 18 = .ok (.iaload, 1) := by decide +kernel
theorem dX11_isTrue_19 : decode cX11_isTrue 19 = .ok (.aload_n 0, 1) := by decide +kernel
theorem dX11_isTrue_20 : decode cX11_isTrue 20 = .ok (.getfield 54, 3) := by decide +kernel
theorem dX11_isTrue_23 : decode cX11_isTrue 23 = .ok (.iload_n 3, 1) := by decide +kernel
theorem dX11_isTrue_24 : decode cX11_isTrue 24 = .ok (.iaload, 1) := by decide +kernel
theorem dX11_isTrue_25 : decode cX11_isTrue 25 = .ok (.iadd, 1) := by decide +kernel
theorem dX11_isTrue_26 : decode cX11_isTrue 26 = .ok (.if_icmp .ge 235, 3) := by decide +kernel
theorem dX11_isTrue_29 : decode cX11_isTrue 29 = .ok (.aload_n 0, 1) := by decide +kernel
theorem dX11_isTrue_30 : decode cX11_isTrue 30 = .ok (.getfield 57, 3) := by decide +kernel
theorem dX11_isTrue_33 : decode cX11_isTrue 33 = .ok (.iload 5, 2) := by decide +kernel
theorem dX11_isTrue_35 : decode cX11_isTrue 35 = .ok (.iaload, 1) := by decide +kernel
theorem dX11_isTrue_36 : decode cX11_isTrue 36 = .ok (.istore 6, 2) := by decide +kernel
theorem dX11_isTrue_38 : decode cX11_isTrue 38 = .ok (.iload 6, 2) := by decide +kernel
theorem dX11_isTrue_40 : decode cX11_isTrue 40 = .ok (.iconst 3, 1) := by decide +kernel
theorem dX11_isTrue_41 : decode cX11_isTrue 41 = .ok (.if_icmp .lt 105, 3) := by decide +kernel
theorem dX11_isTrue_44 : decode cX11_isTrue 44 = .ok (.aload_n 0, 1) := by decide +kernel
theorem dX11_isTrue_45 : decode cX11_isTrue 45 = .ok (.iload_n 1, 1) := by decide +kernel
theorem dX11_isTrue_46 : decode cX11_isTrue 46 = .ok (.iload_n 2, 1) := by decide +kernel
theorem dX11_isTrue_47 : decode cX11_isTrue 47 = .ok (.iload 6, 2) := by decide +kernel
theorem dX11_isTrue_49 : decode cX11_isTrue 49 = .ok (.iconst 3, 1) := by decide +kernel
theorem dX11_isTrue_50 : decode cX11_isTrue 50 = .ok (.isub, 1) := by decide +kernel
theorem dX11_isTrue_51 : decode cX11_isTrue 51 = .ok (.sipush 300, 3) := by decide +kernel
theorem dX11_isTrue_54 : decode cX11_isTrue 54 = .ok (.idiv, 1) := by decide +kernel
theorem dX11_isTrue_55 : decode cX11_isTrue 55 = .ok (.invokevirtual 238, 3) := by decide +kernel
theorem dX11_isTrue_58 : decode cX11_isTrue 58 = .ok (.istore 7, 2) := by decide +kernel
theorem dX11_isTrue_60 : decode cX11_isTrue 60 = .ok (.iload 6, 2) := by decide +kernel
theorem dX11_isTrue_62 : decode cX11_isTrue 62 = .ok (.iconst 3, 1) := by decide +kernel
theorem dX11_isTrue_63 : decode cX11_isTrue 63 = .ok (.isub, 1) := by decide +kernel
theorem dX11_isTrue_64 : decode cX11_isTrue 64 = .ok (.bipush 100, 2) := by decide +kernel
theorem dX11_isTrue_66 : decode cX11_isTrue 66 = .ok (.irem, 1) := by decide +kernel
theorem dX11_isTrue_67 : decode cX11_isTrue 67 = .ok (.istore 8, 2) := by decide +kernel
theorem dX11_isTrue_69 : decode cX11_isTrue 69 = .ok (.iload 6, 2) := by decide +kernel
theorem dX11_isTrue_71 : decode cX11_isTrue 71 = .ok (.iconst 3, 1) := by decide +kernel
theorem dX11_isTrue_72 : decode cX11_isTrue 72 = .ok (.isub, 1) := by decide +kernel
theorem dX11_isTrue_73 : decode cX11_isTrue 73 = .ok (.bipush 100, 2) := by decide +kernel
theorem dX11_isTrue_75 : decode cX11_isTrue 75 = .ok (.idiv, 1) := by decide +kernel
theorem dX11_isTrue_76 : decode cX11_isTrue 76 = .ok (.iconst 3, 1) := by decide +kernel
theorem dX11_isTrue_77 : decode cX11_isTrue 77 = .ok (.irem, 1) := by decide +kernel
theorem dX11_isTrue_78 : decode cX11_isTrue 78 = .ok (.istore 9, 2) := by decide +kernel
theorem dX11_isTrue_80 : decode cX11_isTrue 80 = .ok (.aload_n 0, 1) := by decide +kernel
theorem dX11_isTrue_81 : decode cX11_isTrue 81 = .ok (.getfield 60, 3) := by decide +kernel
theorem dX11_isTrue_84 : decode cX11_isTrue 84 = .ok (.iload 4, 2) := by decide +kernel
theorem dX11_isTrue_86 : decode cX11_isTrue 86 = .ok (.iinc 4 1, 3) := by decide +kernel
theorem dX11_isTrue_89 : decode cX11_isTrue 89 = .ok (.iload 9, 2) := by decide +kernel
theorem dX11_isTrue_91 : decode cX11_isTrue 91 = .ok (.ifCond .ne 18, 3) := by decide +kernel
theorem dX11_isTrue_94 : decode cX11_isTrue 94 = .ok (.iload 7, 2) := by decide +kernel
theorem dX11_isTrue_96 : decode cX11_isTrue 96 = .ok (.iload 8, 2) := by decide +kernel
theorem dX11_isTrue_98 : decode cX11_isTrue 98 = .ok (.if_icmp .ge 7, 3) := by decide +kernel
theorem dX11_isTrue_101 : decode cX11_isTrue 101 = .ok (.iconst 1, 1) := by decide +kernel
theorem dX11_isTrue_102 : decode cX11_isTrue 102 = .ok (.goto 40, 3) := by decide +kernel
theorem dX11_isTrue_105 : decode cX11_isTrue 105 = .ok (.iconst 0, 1) := by decide +kernel
theorem dX11_isTrue_106 : decode cX11_isTrue 106 = .ok (.goto 36, 3) := by decide +kernel
theorem dX11_isTrue_109 : decode cX11_isTrue 109 = .ok (.iload 9, 2) := by decide +kernel
theorem dX11_isTrue_111 : decode cX11_isTrue 111 = .ok (.iconst 1, 1) := by decide +kernel
theorem dX11_isTrue_112 : decode cX11_isTrue 112 = .ok (.if_icmp .ne 18, 3) := by decide +kernel
theorem dX11_isTrue_115 : decode cX11_isTrue 115 = .ok (.iload 7, 2) := by decide +kernel
theorem dX11_isTrue_117 : decode cX11_isTrue 117 = .ok (.iload 8, 2) := by decide +kernel
theorem dX11_isTrue_119 : decode cX11_isTrue 119 = .ok (.if_icmp .ne 7, 3) := by decide +kernel
theorem dX11_isTrue_122 : decode cX11_isTrue 122 = .ok (.iconst 1, 1) := by decide +kernel
theorem dX11_isTrue_123 : decode cX11_isTrue 123 = .ok (.goto 19, 3) := by decide +kernel
theorem dX11_isTrue_126 : decode cX11_isTrue 126 = .ok (.iconst 0, 1) := by decide +kernel
theorem dX11_isTrue_127 : decode cX11_isTrue 127 = .ok (.goto 15, 3) := by decide +kernel
theorem dX11_isTrue_130 : decode cX11_isTrue 130 = .ok (.iload 7, 2) := by decide +kernel
theorem dX11_isTrue_132 : decode cX11_isTrue 132 = .ok (.iload 8, 2) := by decide +kernel
theorem dX11_isTrue_134 : decode cX11_isTrue 134 = .ok (.if_icmp .le 7, 3) := by decide +kernel
theorem dX11_isTrue_137 : decode cX11_isTrue 137 = .ok (.iconst 1, 1) := by decide +kernel
theorem dX11_isTrue_138 : decode cX11_isTrue 138 = .ok (.goto 4, 3) := by decide +kernel
theorem dX11_isTrue_141 : decode cX11_isTrue 141 = .ok (.iconst 0, 1) := by decide +kernel
theorem dX11_isTrue_142 : decode cX11_isTrue 142 = .ok (.bastore, 1) := by decide +kernel
theorem dX11_isTrue_143 : decode cX11_isTrue 143 = .ok (.goto 112, 3) := by decide +kernel
theorem dX11_isTrue_146 : decode cX11_isTrue 146 = .ok (.iload 6, 2) := by decide +kernel
theorem dX11_isTrue_148 : decode cX11_isTrue 148 = .ok (.ifCond .ne 32, 3) := by decide +kernel
theorem dX11_isTrue_151 : decode cX11_isTrue 151 = .ok (.aload_n 0, 1) := by decide +kernel
theorem dX11_isTrue_152 : decode cX11_isTrue 152 = .ok (.getfield 60, 3) := by decide +kernel
theorem dX11_isTrue_155 : decode cX11_isTrue 155 = .ok (.iload 4, 2) := by decide +kernel
theorem dX11_isTrue_157 : decode cX11_isTrue 157 = .ok (.iconst 1, 1) := by decide +kernel
theorem dX11_isTrue_158 : decode cX11_isTrue 158 = .ok (.isub, 1) := by decide +kernel
theorem dX11_isTrue_159 : decode cX11_isTrue 159 = .ok (.aload_n 0, 1) := by decide +kernel
theorem dX11_isTrue_160 : decode cX11_isTrue 160 = .ok (.getfield 60, 3) := by decide +kernel
theorem dX11_isTrue_163 : decode cX11_isTrue 163 = .ok (.iload 4, 2) := by decide +kernel
theorem dX11_isTrue_165 : decode cX11_isTrue 165 = .ok (.iconst 1, 1) := by decide +kernel
theorem dX11_isTrue_166 : decode cX11_isTrue 166 = .ok (.isub, 1) := by decide +kernel
theorem dX11_isTrue_167 : decode cX11_isTrue 167 = .ok (.baload, 1) := by decide +kernel
theorem dX11_isTrue_168 : decode cX11_isTrue 168 = .ok (.ifCond .ne 7, 3) := by decide +kernel
theorem dX11_isTrue_171 : decode cX11_isTrue 171 = .ok (.iconst 1, 1) := by decide +kernel
theorem dX11_isTrue_172 : decode cX11_isTrue 172 = .ok (.goto 4, 3) := by decide +kernel
theorem dX11_isTrue_175 : decode cX11_isTrue 175 = .ok (.iconst 0, 1) := by decide +kernel
theorem dX11_isTrue_176 : decode cX11_isTrue 176 = .ok (.bastore, 1) := by decide +kernel
theorem dX11_isTrue_177 : decode cX11_isTrue 177 = .ok (.goto 78, 3) := by decide +kernel
theorem dX11_isTrue_180 : decode cX11_isTrue 180 = .ok (.iinc 4 (-1), 3) := by decide +kernel
theorem dX11_isTrue_183 : decode cX11_isTrue 183 = .ok (.aload_n 0, 1) := by decide +kernel
theorem dX11_isTrue_184 : decode cX11_isTrue 184 = .ok (.getfield 60, 3) := by decide +kernel
theorem dX11_isTrue_187 : decode cX11_isTrue 187 = .ok (.iload 4, 2) := by decide +kernel
theorem dX11_isTrue_189 : decode cX11_isTrue 189 = .ok (.iconst 1, 1) := by decide +kernel
theorem dX11_isTrue_190 : decode cX11_isTrue 190 = .ok (.isub, 1) := by decide +kernel
theorem dX11_isTrue_191 : decode cX11_isTrue 191 = .ok (.iload 6, 2) := by decide +kernel
theorem dX11_isTrue_193 : decode cX11_isTrue 193 = .ok (.iconst 1, 1) := by decide +kernel
theorem dX11_isTrue_194 : decode cX11_isTrue 194 = .ok (.if_icmp .ne 33, 3) := by decide +kernel
theorem dX11_isTrue_197 : decode cX11_isTrue 197 = .ok (.aload_n 0, 1) := by decide +kernel
theorem dX11_isTrue_198 : decode cX11_isTrue 198 = .ok (.getfield 60, 3) := by decide +kernel
theorem dX11_isTrue_201 : decode cX11_isTrue 201 = .ok (.iload 4, 2) := by decide +kernel
theorem dX11_isTrue_203 : decode cX11_isTrue 203 = .ok (.iconst 1, 1) := by decide +kernel
theorem dX11_isTrue_204 : decode cX11_isTrue 204 = .ok (.isub, 1) := by decide +kernel
theorem dX11_isTrue_205 : decode cX11_isTrue 205 = .ok (.baload, 1) := by decide +kernel
theorem dX11_isTrue_206 : decode cX11_isTrue 206 = .ok (.ifCond .eq 17, 3) := by decide +kernel
theorem dX11_isTrue_209 : decode cX11_isTrue 209 = .ok (.aload_n 0, 1) := by decide +kernel
theorem dX11_isTrue_210 : decode cX11_isTrue 210 = .ok (.getfield 60, 3) := by decide +kernel
theorem dX11_isTrue_213 : decode cX11_isTrue 213 = .ok (.iload 4, 2) := by decide +kernel
theorem dX11_isTrue_215 : decode cX11_isTrue 215 = .ok (.baload, 1) := by decide +kernel
theorem dX11_isTrue_216 : decode cX11_isTrue 216 = .ok (.ifCond .eq 7, 3) := by decide +kernel
theorem dX11_isTrue_219 : decode cX11_isTrue 219 = .ok (.iconst 1, 1) := by decide +kernel
theorem dX11_isTrue_220 : decode cX11_isTrue 220 = .ok (.goto 34, 3) := by decide +kernel
theorem dX11_isTrue_223 : decode cX11_isTrue 223 = .ok (.iconst 0, 1) := by decide +kernel
theorem dX11_isTrue_224 : decode cX11_isTrue 224 = .ok (.goto 30, 3) := by decide +kernel
theorem dX11_isTrue_227 : decode cX11_isTrue 227 = .ok (.aload_n 0, 1) := by decide +kernel
theorem dX11_isTrue_228 : decode cX11_isTrue 228 = .ok (.getfield 60, 3) := by decide +kernel
theorem dX11_isTrue_231 : decode cX11_isTrue 231 = .ok (.iload 4, 2) := by decide +kernel
theorem dX11_isTrue_233 : decode cX11_isTrue 233 = .ok (.iconst 1, 1) := by decide +kernel
theorem dX11_isTrue_234 : decode cX11_isTrue 234 = .ok (.isub, 1) := by decide +kernel
theorem dX11_isTrue_235 : decode cX11_isTrue 235 = .ok (.baload, 1) := by decide +kernel
theorem dX11_isTrue_236 : decode cX11_isTrue 236 = .ok (.ifCond .ne 13, 3) := by decide +kernel
theorem dX11_isTrue_239 : decode cX11_isTrue 239 = .ok (.aload_n 0, 1) := by decide +kernel
theorem dX11_isTrue_240 : decode cX11_isTrue 240 = .ok (.getfield 60, 3) := by decide +kernel
theorem dX11_isTrue_243 : decode cX11_isTrue 243 = .ok (.iload 4, 2) := by decide +kernel
theorem dX11_isTrue_245 : decode cX11_isTrue 245 = .ok (.baload, 1) := by decide +kernel
theorem dX11_isTrue_246 : decode cX11_isTrue 246 = .ok (.ifCond .eq 7, 3) := by decide +kernel
theorem dX11_isTrue_249 : decode cX11_isTrue 249 = .ok (.iconst 1, 1) := by decide +kernel
theorem dX11_isTrue_250 : decode cX11_isTrue 250 = .ok (.goto 4, 3) := by decide +kernel
theorem dX11_isTrue_253 : decode cX11_isTrue 253 = .ok (.iconst 0, 1) := by decide +kernel
theorem dX11_isTrue_254 : decode cX11_isTrue 254 = .ok (.bastore, 1) := by decide +kernel
theorem dX11_isTrue_255 : decode cX11_isTrue 255 = .ok (.iinc 5 1, 3) := by decide +kernel
theorem dX11_isTrue_258 : decode cX11_isTrue 258 = .ok (.goto (-247), 3) := by decide +kernel
theorem dX11_isTrue_261 : decode cX11_isTrue 261 = .ok (.aload_n 0, 1) := by decide +kernel
theorem dX11_isTrue_262 : decode cX11_isTrue 262 = .ok (.getfield 60, 3) := by decide +kernel
theorem dX11_isTrue_265 : decode cX11_isTrue 265 = .ok (.iconst 0, 1) := by decide +kernel
theorem dX11_isTrue_266 : decode cX11_isTrue 266 = .ok (.baload, 1) := by decide +kernel
theorem dX11_isTrue_267 : decode cX11_isTrue 267 = .ok (.ireturn, 1) := by decide +kernel
theorem dX11_sum_0 : decode cX11_sum 0 = .ok (.iconst 2, 1) := by decide +kernel
theorem dX11_sum_1 : decode cX11_sum 1 = .ok (.iload_n 2, 1) := by decide +kernel
theorem dX11_sum_2 : decode cX11_sum 2 = .ok (.aload_n 0, 1) := by decide +kernel
theorem dX11_sum_3 : decode cX11_sum 3 = .ok (.getfield 18, 3) := by decide +kernel
theorem dX11_sum_6 : decode cX11_sum 6 = .ok (.iload_n 1, 1) := by decide +kernel
theorem dX11_sum_7 : decode cX11_sum 7 = .ok (.iaload, 1) := by decide +kernel
theorem dX11_sum_8 : decode cX11_sum 8 = .ok (.iand, 1) := by decide +kernel
theorem dX11_sum_9 : decode cX11_sum 9 = .ok (.invokestatic 230, 3) := by decide +kernel
theorem dX11_sum_12 : decode cX11_sum 12 = .ok (.imul, 1) := by decide +kernel
theorem dX11_sum_13 : decode cX11_sum 13 = .ok (.iload_n 2, 1) := by decide +kernel
theorem dX11_sum_14 : decode cX11_sum 14 = .ok (.aload_n 0, 1) := by decide +kernel
theorem dX11_sum_15 : decode cX11_sum 15 = .ok (.getfield 18, 3) := by decide +kernel
theorem dX11_sum_18 : decode cX11_sum 18 = .ok (.iload_n 1, 1) := by decide +kernel
theorem dX11_sum_19 : decode cX11_sum 19 = .ok (.iaload, 1) := by decide +kernel
theorem dX11_sum_20 : decode cX11_sum 20 = .ok (.iconst (-1), 1) := by decide +kernel
theorem dX11_sum_21 : decode cX11_sum 21 = .ok (.ixor, 1) := by decide +kernel
theorem dX11_sum_22 : decode cX11_sum 22 = .ok (.iand, 1) := by decide +kernel
theorem dX11_sum_23 : decode cX11_sum 23 = .ok (.invokestatic 230, 3) := by decide +kernel
theorem dX11_sum_26 : decode cX11_sum 26 = .ok (.isub, 1) := by decide +kernel
theorem dX11_sum_27 : decode cX11_sum 27 = .ok (.aload_n 0, 1) := by decide +kernel
theorem dX11_sum_28 : decode cX11_sum 28 = .ok (.getfield 21, 3) := by decide +kernel
theorem dX11_sum_31 : decode cX11_sum 31 = .ok (.iload_n 1, 1) := by decide +kernel
theorem dX11_sum_32 : decode cX11_sum 32 = .ok (.iaload, 1) := by decide +kernel
theorem dX11_sum_33 : decode cX11_sum 33 = .ok (.bipush 10, 2) := by decide +kernel
theorem dX11_sum_35 : decode cX11_sum 35 = .ok (.idiv, 1) := by decide +kernel
theorem dX11_sum_36 : decode cX11_sum 36 = .ok (.isub, 1) := by decide +kernel
theorem dX11_sum_37 : decode cX11_sum 37 = .ok (.istore_n 3, 1) := by decide +kernel
theorem dX11_sum_38 : decode cX11_sum 38 = .ok (.iconst 0, 1) := by decide +kernel
theorem dX11_sum_39 : decode cX11_sum 39 = .ok (.istore 4, 2) := by decide +kernel
theorem dX11_sum_41 : decode cX11_sum 41 = .ok (.aload_n 0, 1) := by decide +kernel
theorem dX11_sum_42 : decode cX11_sum 42 = .ok (.getfield 110, 3) := by decide +kernel
theorem dX11_sum_45 : decode cX11_sum 45 = .ok (.iconst (-1), 1) := by decide +kernel
theorem dX11_sum_46 : decode cX11_sum 46 = .ok (.if_icmp .eq 88, 3) := by decide +kernel
theorem dX11_sum_49 : decode cX11_sum 49 = .ok (.iload 4, 2) := by decide +kernel
theorem dX11_sum_51 : decode cX11_sum 51 = .ok (.aload_n 0, 1) := by decide +kernel
theorem dX11_sum_52 : decode cX11_sum 52 = .ok (.getfield 42, 3) := by decide +kernel
theorem dX11_sum_55 : decode cX11_sum 55 = .ok (.aload_n 0, 1) := by decide +kernel
theorem dX11_sum_56 : decode cX11_sum 56 = .ok (.getfield 110, 3) := by decide +kernel
theorem dX11_sum_59 : decode cX11_sum 59 = .ok (.iaload, 1) := by decide +kernel
theorem dX11_sum_60 : decode cX11_sum 60 = .ok (.if_icmp .ge 74, 3) := by decide +kernel
theorem dX11_sum_63 : decode cX11_sum 63 = .ok (.bipush 10, 2) := by decide +kernel
theorem dX11_sum_65 : decode cX11_sum 65 = .ok (.aload_n 0, 1) := by decide +kernel
theorem dX11_sum_66 : decode cX11_sum 66 = .ok (.getfield 110, 3) := by decide +kernel
theorem dX11_sum_69 : decode cX11_sum 69 = .ok (.imul, 1) := by decide +kernel
theorem dX11_sum_70 : decode cX11_sum 70 = .ok (.iload 4, 2) := by decide +kernel
theorem dX11_sum_72 : decode cX11_sum 72 = .ok (.iadd, 1) := by decide +kernel
theorem dX11_sum_73 : decode cX11_sum 73 = .ok (.istore 5, 2) := by decide +kernel
theorem dX11_sum_75 : decode cX11_sum 75 = .ok (.aload_n 0, 1) := by decide +kernel
theorem dX11_sum_76 : decode cX11_sum 76 = .ok (.getfield 45, 3) := by decide +kernel
theorem dX11_sum_79 : decode cX11_sum 79 = .ok (.iload 5, 2) := by decide +kernel
theorem dX11_sum_81 : decode cX11_sum 81 = .ok (.iaload, 1) := by decide +kernel
theorem dX11_sum_82 : decode cX11_sum 82 = .ok (.iconst 2, 1) := by decide +kernel
theorem dX11_sum_83 : decode cX11_sum 83 = .ok (.if_icmp .ge 45, 3) := by decide +kernel
theorem dX11_sum_86 : decode cX11_sum 86 = .ok (.aload_n 0, 1) := by decide +kernel
theorem dX11_sum_87 : decode cX11_sum 87 = .ok (.iload_n 1, 1) := by decide +kernel
theorem dX11_sum_88 : decode cX11_sum 88 = .ok (.iload_n 2, 1) := by decide +kernel
theorem dX11_sum_89 : decode cX11_sum 89 = .ok (.iload 5, 2) := by decide +kernel
theorem dX11_sum_91 : decode cX11_sum 91 = .ok (.invokevirtual 242, 3) := by decide +kernel
theorem dX11_sum_94 : decode cX11_sum 94 = .ok (.ifCond .eq 34, 3) := by decide +kernel
theorem dX11_sum_97 : decode cX11_sum 97 = .ok (.iload_n 3, 1) := by decide +kernel
theorem dX11_sum_98 : decode cX11_sum 98 = .ok (.aload_n 0, 1) := by decide +kernel
theorem dX11_sum_99 : decode cX11_sum 99 = .ok (.getfield 45, 3) := by decide +kernel
theorem dX11_sum_102 : decode cX11_sum 102 = .ok (.iload 5, 2) := by decide +kernel
theorem dX11_sum_104 : decode cX11_sum 104 = .ok (.iaload, 1) := by decide +kernel
theorem dX11_sum_105 : decode cX11_sum 105 = .ok (.ifCond .ne 13, 3) := by decide +kernel
theorem dX11_sum_108 : decode cX11_sum 108 = .ok (.aload_n 0, 1) := by decide +kernel
theorem dX11_sum_109 : decode cX11_sum 109 = .ok (.getfield 48, 3) := by decide +kernel
theorem dX11_sum_112 : decode cX11_sum 112 = .ok (.iload 5, 2) := by decide +kernel
theorem dX11_sum_114 : decode cX11_sum 114 = .ok (.iaload, 1) := by decide +kernel
theorem dX11_sum_115 : decode cX11_sum 115 = .ok (.goto 11, 3) := by decide +kernel
theorem dX11_sum_118 : decode cX11_sum 118 = .ok (.aload_n 0, 1) := by decide +kernel
theorem dX11_sum_119 : decode cX11_sum 119 = .ok (.getfield 48, 3) := by decide +kernel
theorem dX11_sum_122 : decode cX11_sum 122 = .ok (.iload 5, 2) := by decide +kernel
theorem dX11_sum_124 : decode cX11_sum 124 = .ok (.iaload, 1) := by decide +kernel
theorem dX11_sum_125 : decode cX11_sum 125 = .ok (.ineg, 1) := by decide +kernel
theorem dX11_sum_126 : decode cX11_sum 126 = .ok (.iadd, 1) := by decide +kernel
theorem dX11_sum_127 : decode cX11_sum 127 = .ok (.istore_n 3, 1) := by decide +kernel
theorem dX11_sum_128 : decode cX11_sum 128 = .ok (.iinc 4 1, 3) := by decide +kernel
theorem dX11_sum_131 : decode cX11_sum 131 = .ok (.goto (-90), 3) := by decide +kernel
theorem dX11_sum_134 : decode cX11_sum 134 = .ok (.iload_n 3, 1) := by decide +kernel
theorem dX11_sum_135 : decode cX11_sum 135 = .ok (.ireturn, 1) := by decide +kernel
theorem dX11_restBy_0 : decode cX11_restBy 0 = .ok (.iconst 5, 1) := by decide +kernel
theorem dX11_restBy_1 : decode cX11_restBy 1 = .ok (.istore_n 1, 1) := by decide +kernel
theorem dX11_restBy_2 : decode cX11_restBy 2 = .ok (.iconst 0, 1) := by decide +kernel
theorem dX11_restBy_3 : decode cX11_restBy 3 = .ok (.istore_n 2, 1) := by decide +kernel
theorem dX11_restBy_4 : decode cX11_restBy 4 = .ok (.aload_n 0, 1) := by decide +kernel
theorem dX11_restBy_5 : decode cX11_restBy 5 = .ok (.getfield 110, 3) := by decide +kernel
theorem dX11_restBy_8 : decode cX11_restBy 8 = .ok (.iconst (-1), 1) := by decide +kernel
theorem dX11_restBy_9 : decode cX11_restBy 9 = .ok (.if_icmp .eq 55, 3) := by decide +kernel
theorem dX11_restBy_12 : decode cX11_restBy 12 = .ok (.iload_n 2, 1) := by decide +kernel
theorem dX11_restBy_13 : decode cX11_restBy 13 = .ok (.aload_n 0, 1) := by decide +kernel
theorem dX11_restBy_14 : decode cX11_restBy 14 = .ok (.getfield 42, 3) := by decide +kernel
theorem dX11_restBy_17 : decode cX11_restBy 17 = .ok (.aload_n 0, 1) := by decide +kernel
theorem dX11_restBy_18 : decode cX11_restBy 18 = .ok (.getfield 110, 3) := by decide +kernel
theorem dX11_restBy_21 : decode cX11_restBy 21 = .ok (.iaload, 1) := by decide +kernel
theorem dX11_restBy_22 : decode cX11_restBy 22 = .ok (.if_icmp .ge 42, 3) := by decide +kernel
theorem dX11_restBy_25 : decode cX11_restBy 25 = .ok (.aload_n 0, 1) := by decide +kernel
theorem dX11_restBy_26 : decode cX11_restBy 26 = .ok (.getfield 45, 3) := by decide +kernel
theorem dX11_restBy_29 : decode cX11_restBy 29 = .ok (.bipush 10, 2) := by decide +kernel
theorem dX11_restBy_31 : decode cX11_restBy 31 = .ok (.aload_n 0, 1) := by decide +kernel
theorem dX11_restBy_32 : decode cX11_restBy 32 = .ok (.getfield 110, 3) := by decide +kernel
theorem dX11_restBy_35 : decode cX11_restBy 35 = .ok (.imul, 1) := by decide +kernel
theorem dX11_restBy_36 : decode cX11_restBy 36 = .ok (.iload_n 2, 1) := by decide +kernel
theorem dX11_restBy_37 : decode cX11_restBy 37 = .ok (.iadd, 1) := by decide +kernel
theorem dX11_restBy_38 : decode cX11_restBy 38 = .ok (.iaload, 1) := by decide +kernel
theorem dX11_restBy_39 : decode cX11_restBy 39 = .ok (.iconst 2, 1) := by decide +kernel
theorem dX11_restBy_40 : decode cX11_restBy 40 = .ok (.if_icmp .ne 18, 3) := by decide +kernel
theorem dX11_restBy_43 : decode cX11_restBy 43 = .ok (.aload_n 0, 1) := by decide +kernel
theorem dX11_restBy_44 : decode cX11_restBy 44 = .ok (.getfield 48, 3) := by decide +kernel
theorem dX11_restBy_47 : decode cX11_restBy 47 = .ok (.bipush 10, 2) := by decide +kernel
theorem dX11_restBy_49 : decode cX11_restBy 49 = .ok (.aload_n 0, 1) := by decide +kernel
theorem dX11_restBy_50 : decode cX11_restBy 50 = .ok (.getfield 110, 3) := by decide +kernel
theorem dX11_restBy_53 : decode cX11_restBy 53 = .ok (.imul, 1) := by decide +kernel
theorem dX11_restBy_54 : decode cX11_restBy 54 = .ok (.iload_n 2, 1) := by decide +kernel
theorem dX11_restBy_55 : decode cX11_restBy 55 = .ok (.iadd, 1) := by decide +kernel
theorem dX11_restBy_56 : decode cX11_restBy 56 = .ok (.iaload, 1) := by decide +kernel
theorem dX11_restBy_57 : decode cX11_restBy 57 = .ok (.istore_n 1, 1) := by decide +kernel
theorem dX11_restBy_58 : decode cX11_restBy 58 = .ok (.iinc 2 1, 3) := by decide +kernel
theorem dX11_restBy_61 : decode cX11_restBy 61 = .ok (.goto (-57), 3) := by decide +kernel
theorem dX11_restBy_64 : decode cX11_restBy 64 = .ok (.iload_n 1, 1) := by decide +kernel
theorem dX11_restBy_65 : decode cX11_restBy 65 = .ok (.ireturn, 1) := by decide +kernel
theorem dX11_wit_0 : decode cX11_wit 0 = .ok (.aload_n 0, 1) := by decide +kernel
theorem dX11_wit_1 : decode cX11_wit 1 = .ok (.iload_n 1, 1) := by decide +kernel
theorem dX11_wit_2 : decode cX11_wit 2 = .ok (.iload_n 2, 1) := by decide +kernel
theorem dX11_wit_3 : decode cX11_wit 3 = .ok (.invokevirtual 245, 3) := by decide +kernel
theorem dX11_wit_6 : decode cX11_wit 6 = .ok (.istore_n 3, 1) := by decide +kernel
theorem dX11_wit_7 : decode cX11_wit 7 = .ok (.iload_n 2, 1) := by decide +kernel
theorem dX11_wit_8 : decode cX11_wit 8 = .ok (.invokestatic 230, 3) := by decide +kernel
theorem dX11_wit_11 : decode cX11_wit 11 = .ok (.istore 4, 2) := by decide +kernel
theorem dX11_wit_13 : decode cX11_wit 13 = .ok (.iload_n 3, 1) := by decide +kernel
theorem dX11_wit_14 : decode cX11_wit 14 = .ok (.iconst 2, 1) := by decide +kernel
theorem dX11_wit_15 : decode cX11_wit 15 = .ok (.idiv, 1) := by decide +kernel
theorem dX11_wit_16 : decode cX11_wit 16 = .ok (.iconst 1, 1) := by decide +kernel
theorem dX11_wit_17 : decode cX11_wit 17 = .ok (.iadd, 1) := by decide +kernel
theorem dX11_wit_18 : decode cX11_wit 18 = .ok (.istore 5, 2) := by decide +kernel
theorem dX11_wit_20 : decode cX11_wit 20 = .ok (.iload 4, 2) := by decide +kernel
theorem dX11_wit_22 : decode cX11_wit 22 = .ok (.iconst 2, 1) := by decide +kernel
theorem dX11_wit_23 : decode cX11_wit 23 = .ok (.if_icmp .ge 7, 3) := by decide +kernel
theorem dX11_wit_26 : decode cX11_wit 26 = .ok (.iconst 0, 1) := by decide +kernel
theorem dX11_wit_27 : decode cX11_wit 27 = .ok (.goto 4, 3) := by decide +kernel
theorem dX11_wit_30 : decode cX11_wit 30 = .ok (.iload_n 3, 1) := by decide +kernel
theorem dX11_wit_31 : decode cX11_wit 31 = .ok (.istore 6, 2) := by decide +kernel
theorem dX11_wit_33 : decode cX11_wit 33 = .ok (.aload_n 0, 1) := by decide +kernel
theorem dX11_wit_34 : decode cX11_wit 34 = .ok (.getfield 9, 3) := by decide +kernel
theorem dX11_wit_37 : decode cX11_wit 37 = .ok (.iload_n 1, 1) := by decide +kernel
theorem dX11_wit_38 : decode cX11_wit 38 = .ok (.iaload, 1) := by decide +kernel
theorem dX11_wit_39 : decode cX11_wit 39 = .ok (.tableswitch 116 1 6 #[37, 46, 49, 52, 76, 97], 37) := by decide +kernel
theorem dX11_wit_76 : decode cX11_wit 76 = .ok (.iload_n 3, 1) := by decide +kernel
theorem dX11_wit_77 : decode cX11_wit 77 = .ok (.aload_n 0, 1) := by decide +kernel
theorem dX11_wit_78 : decode cX11_wit 78 = .ok (.getfield 15, 3) := by decide +kernel
theorem dX11_wit_81 : decode cX11_wit 81 = .ok (.iload_n 1, 1) := by decide +kernel
theorem dX11_wit_82 : decode cX11_wit 82 = .ok (.iaload, 1) := by decide +kernel
theorem dX11_wit_83 : decode cX11_wit 83 = .ok (.iadd, 1) := by decide +kernel
theorem dX11_wit_84 : decode cX11_wit 84 = .ok (.ireturn, 1) := by decide +kernel
theorem dX11_wit_85 : decode cX11_wit 85 = .ok (.iload 5, 2) := by decide +kernel
theorem dX11_wit_87 : decode cX11_wit 87 = .ok (.ireturn, 1) := by decide +kernel
theorem dX11_wit_88 : decode cX11_wit 88 = .ok (.iload 6, 2) := by decide +kernel
theorem dX11_wit_90 : decode cX11_wit 90 = .ok (.ireturn, 1) := by decide +kernel
theorem dX11_wit_91 : decode cX11_wit 91 = .ok (.iload_n 3, 1) := by decide +kernel
theorem dX11_wit_92 : decode cX11_wit 92 = .ok (.aload_n 0, 1) := by decide +kernel
theorem dX11_wit_93 : decode cX11_wit 93 = .ok (.getfield 15, 3) := by decide +kernel
theorem dX11_wit_96 : decode cX11_wit 96 = .ok (.iload_n 1, 1) := by decide +kernel
theorem dX11_wit_97 : decode cX11_wit 97 = .ok (.iaload, 1) := by decide +kernel
theorem dX11_wit_98 : decode cX11_wit 98 = .ok (.iadd, 1) := by decide +kernel
theorem dX11_wit_99 : decode cX11_wit 99 = .ok (.aload_n 0, 1) := by decide +kernel
theorem dX11_wit_100 : decode cX11_wit 100 = .ok (.getfield 235, 3) := by decide +kernel
theorem dX11_wit_103 : decode cX11_wit 103 = .ok (.iconst 3, 1) := by decide +kernel
theorem dX11_wit_104 : decode cX11_wit 104 = .ok (.irem, 1) := by decide +kernel
theorem dX11_wit_105 : decode cX11_wit 105 = .ok (.ifCond .ne 7, 3) := by decide +kernel
theorem dX11_wit_108 : decode cX11_wit 108 = .ok (.iconst 3, 1) := by decide +kernel
theorem dX11_wit_109 : decode cX11_wit 109 = .ok (.goto 4, 3) := by decide +kernel
theorem dX11_wit_112 : decode cX11_wit 112 = .ok (.iconst 0, 1) := by decide +kernel
theorem dX11_wit_113 : decode cX11_wit 113 = .ok (.iadd, 1) := by decide +kernel
theorem dX11_wit_114 : decode cX11_wit 114 = .ok (.ireturn, 1) := by decide +kernel
theorem dX11_wit_115 : decode cX11_wit 115 = .ok (.aload_n 0, 1) := by decide +kernel
theorem dX11_wit_116 : decode cX11_wit 116 = .ok (.getfield 21, 3) := by decide +kernel
theorem dX11_wit_119 : decode cX11_wit 119 = .ok (.iload_n 1, 1) := by decide +kernel
theorem dX11_wit_120 : decode cX11_wit 120 = .ok (.iaload, 1) := by decide +kernel
theorem dX11_wit_121 : decode cX11_wit 121 = .ok (.bipush 30, 2) := by decide +kernel
theorem dX11_wit_123 : decode cX11_wit 123 = .ok (.if_icmp .lt 10, 3) := by decide +kernel
theorem dX11_wit_126 : decode cX11_wit 126 = .ok (.iload 5, 2) := by decide +kernel
theorem dX11_wit_128 : decode cX11_wit 128 = .ok (.iconst 4, 1) := by decide +kernel
theorem dX11_wit_129 : decode cX11_wit 129 = .ok (.isub, 1) := by decide +kernel
theorem dX11_wit_130 : decode cX11_wit 130 = .ok (.goto 5, 3) := by decide +kernel
theorem dX11_wit_133 : decode cX11_wit 133 = .ok (.iload 5, 2) := by decide +kernel
theorem dX11_wit_135 : decode cX11_wit 135 = .ok (.ireturn, 1) := by decide +kernel
theorem dX11_wit_136 : decode cX11_wit 136 = .ok (.iload 6, 2) := by decide +kernel
theorem dX11_wit_138 : decode cX11_wit 138 = .ok (.aload_n 0, 1) := by decide +kernel
theorem dX11_wit_139 : decode cX11_wit 139 = .ok (.getfield 24, 3) := by decide +kernel
theorem dX11_wit_142 : decode cX11_wit 142 = .ok (.iconst 4, 1) := by decide +kernel
theorem dX11_wit_143 : decode cX11_wit 143 = .ok (.iload_n 1, 1) := by decide +kernel
theorem dX11_wit_144 : decode cX11_wit 144 = .ok (.imul, 1) := by decide +kernel
theorem dX11_wit_145 : decode cX11_wit 145 = .ok (.iload 4, 2) := by decide +kernel
theorem dX11_wit_147 : decode cX11_wit 147 = .ok (.iconst 4, 1) := by decide +kernel
theorem dX11_wit_148 : decode cX11_wit 148 = .ok (.irem, 1) := by decide +kernel
theorem dX11_wit_149 : decode cX11_wit 149 = .ok (.iadd, 1) := by decide +kernel
theorem dX11_wit_150 : decode cX11_wit 150 = .ok (.iaload, 1) := by decide +kernel
theorem dX11_wit_151 : decode cX11_wit 151 = .ok (.iadd, 1) := by decide +kernel
theorem dX11_wit_152 : decode cX11_wit 152 = .ok (.iconst 4, 1) := by decide +kernel
theorem dX11_wit_153 : decode cX11_wit 153 = .ok (.isub, 1) := by decide +kernel
theorem dX11_wit_154 : decode cX11_wit 154 = .ok (.ireturn, 1) := by decide +kernel
theorem dX11_wit_155 : decode cX11_wit 155 = .ok (.iload_n 3, 1) := by decide +kernel
theorem dX11_wit_156 : decode cX11_wit 156 = .ok (.ireturn, 1) := by decide +kernel
theorem dX11_answers_0 : decode cX11_answers 0 = .ok (.aload_n 0, 1) := by decide +kernel
theorem dX11_answers_1 : decode cX11_answers 1 = .ok (.iload_n 1, 1) := by decide +kernel
theorem dX11_answers_2 : decode cX11_answers 2 = .ok (.iload_n 2, 1) := by decide +kernel
theorem dX11_answers_3 : decode cX11_answers 3 = .ok (.invokevirtual 134, 3) := by decide +kernel
theorem dX11_answers_6 : decode cX11_answers 6 = .ok (.ifCond .le 7, 3) := by decide +kernel
theorem dX11_answers_9 : decode cX11_answers 9 = .ok (.iconst 1, 1) := by decide +kernel
theorem dX11_answers_10 : decode cX11_answers 10 = .ok (.goto 4, 3) := by decide +kernel
theorem dX11_answers_13 : decode cX11_answers 13 = .ok (.iconst 0, 1) := by decide +kernel
theorem dX11_answers_14 : decode cX11_answers 14 = .ok (.ireturn, 1) := by decide +kernel
theorem dX11_asks_0 : decode cX11_asks 0 = .ok (.aload_n 0, 1) := by decide +kernel
theorem dX11_asks_1 : decode cX11_asks 1 = .ok (.iload_n 2, 1) := by decide +kernel
theorem dX11_asks_2 : decode cX11_asks 2 = .ok (.aload_n 0, 1) := by decide +kernel
theorem dX11_asks_3 : decode cX11_asks 3 = .ok (.getfield 27, 3) := by decide +kernel
theorem dX11_asks_6 : decode cX11_asks 6 = .ok (.iload_n 1, 1) := by decide +kernel
theorem dX11_asks_7 : decode cX11_asks 7 = .ok (.iaload, 1) := by decide +kernel
theorem dX11_asks_8 : decode cX11_asks 8 = .ok (.invokevirtual 248, 3) := by decide +kernel
theorem dX11_asks_11 : decode cX11_asks 11 = .ok (.ifCond .eq 31, 3) := by decide +kernel
theorem dX11_asks_14 : decode cX11_asks 14 = .ok (.aload_n 0, 1) := by decide +kernel
theorem dX11_asks_15 : decode cX11_asks 15 = .ok (.getfield 33, 3) := by decide +kernel
theorem dX11_asks_18 : decode cX11_asks 18 = .ok (.iload_n 1, 1) := by decide +kernel
theorem dX11_asks_19 : decode cX11_asks 19 = .ok (.iconst 1, 1) := by decide +kernel
theorem dX11_asks_20 : decode cX11_asks 20 = .ok (.iastore, 1) := by decide +kernel
theorem dX11_asks_21 : decode cX11_asks 21 = .ok (.aload_n 0, 1) := by decide +kernel
theorem dX11_asks_22 : decode cX11_asks 22 = .ok (.getfield 21, 3) := by decide +kernel
theorem dX11_asks_25 : decode cX11_asks 25 = .ok (.iload_n 2, 1) := by decide +kernel
theorem dX11_asks_26 : decode cX11_asks 26 = .ok (.bipush 99, 2) := by decide +kernel
theorem dX11_asks_28 : decode cX11_asks 28 = .ok (.aload_n 0, 1) := by decide +kernel
theorem dX11_asks_29 : decode cX11_asks 29 = .ok (.getfield 21, 3) := by decide +kernel
theorem dX11_asks_32 : decode cX11_asks 32 = .ok (.iload_n 2, 1) := by decide +kernel
theorem dX11_asks_33 : decode cX11_asks 33 = .ok (.iaload, 1) := by decide +kernel
theorem dX11_asks_34 : decode cX11_asks 34 = .ok (.bipush 10, 2) := by decide +kernel
theorem dX11_asks_36 : decode cX11_asks 36 = .ok (.iadd, 1) := by decide +kernel
theorem dX11_asks_37 : decode cX11_asks 37 = .ok (.invokestatic 252, 3) := by decide +kernel
theorem dX11_asks_40 : decode cX11_asks 40 = .ok (.iastore, 1) := by decide +kernel
theorem dX11_asks_41 : decode cX11_asks 41 = .ok (.return_, 1) := by decide +kernel
theorem dX11_asks_42 : decode cX11_asks 42 = .ok (.aload_n 0, 1) := by decide +kernel
theorem dX11_asks_43 : decode cX11_asks 43 = .ok (.getfield 33, 3) := by decide +kernel
theorem dX11_asks_46 : decode cX11_asks 46 = .ok (.iload_n 1, 1) := by decide +kernel
theorem dX11_asks_47 : decode cX11_asks 47 = .ok (.iconst 2, 1) := by decide +kernel
theorem dX11_asks_48 : decode cX11_asks 48 = .ok (.iastore, 1) := by decide +kernel
theorem dX11_asks_49 : decode cX11_asks 49 = .ok (.aload_n 0, 1) := by decide +kernel
theorem dX11_asks_50 : decode cX11_asks 50 = .ok (.getfield 27, 3) := by decide +kernel
theorem dX11_asks_53 : decode cX11_asks 53 = .ok (.iload_n 1, 1) := by decide +kernel
theorem dX11_asks_54 : decode cX11_asks 54 = .ok (.iaload, 1) := by decide +kernel
theorem dX11_asks_55 : decode cX11_asks 55 = .ok (.aload_n 0, 1) := by decide +kernel
theorem dX11_asks_56 : decode cX11_asks 56 = .ok (.getfield 18, 3) := by decide +kernel
theorem dX11_asks_59 : decode cX11_asks 59 = .ok (.iload_n 2, 1) := by decide +kernel
theorem dX11_asks_60 : decode cX11_asks 60 = .ok (.iaload, 1) := by decide +kernel
theorem dX11_asks_61 : decode cX11_asks 61 = .ok (.iconst (-1), 1) := by decide +kernel
theorem dX11_asks_62 : decode cX11_asks 62 = .ok (.ixor, 1) := by decide +kernel
theorem dX11_asks_63 : decode cX11_asks 63 = .ok (.iand, 1) := by decide +kernel
theorem dX11_asks_64 : decode cX11_asks 64 = .ok (.istore_n 3, 1) := by decide +kernel
theorem dX11_asks_65 : decode cX11_asks 65 = .ok (.iload_n 3, 1) := by decide +kernel
theorem dX11_asks_66 : decode cX11_asks 66 = .ok (.ifCond .eq 18, 3) := by decide +kernel
theorem dX11_asks_69 : decode cX11_asks 69 = .ok (.aload_n 0, 1) := by decide +kernel
theorem dX11_asks_70 : decode cX11_asks 70 = .ok (.getfield 18, 3) := by decide +kernel
theorem dX11_asks_73 : decode cX11_asks 73 = .ok (.iload_n 2, 1) := by decide +kernel
theorem dX11_asks_74 : decode cX11_asks 74 = .ok (.dup2, 1) := by decide +kernel
theorem dX11_asks_75 : decode cX11_asks 75 = .ok (.iaload, 1) := by decide +kernel
theorem dX11_asks_76 : decode cX11_asks 76 = .ok (.iconst 1, 1) := by decide +kernel
theorem dX11_asks_77 : decode cX11_asks 77 = .ok (.iload_n 3, 1) := by decide +kernel
theorem dX11_asks_78 : decode cX11_asks 78 = .ok (.invokestatic 257, 3) := by decide +kernel
theorem dX11_asks_81 : decode cX11_asks 81 = .ok (.ishl, 1) := by decide +kernel
theorem dX11_asks_82 : decode cX11_asks 82 = .ok (.ior, 1) := by decide +kernel
theorem dX11_asks_83 : decode cX11_asks 83 = .ok (.iastore, 1) := by decide +kernel
theorem dX11_asks_84 : decode cX11_asks 84 = .ok (.return_, 1) := by decide +kernel
theorem dX11_goesHour_0 : decode cX11_goesHour 0 = .ok (.iconst 0, 1) := by decide +kernel
theorem dX11_goesHour_1 : decode cX11_goesHour 1 = .ok (.istore_n 1, 1) := by decide +kernel
theorem dX11_goesHour_2 : decode cX11_goesHour 2 = .ok (.iload_n 1, 1) := by decide +kernel
theorem dX11_goesHour_3 : decode cX11_goesHour 3 = .ok (.aload_n 0, 1) := by decide +kernel
theorem dX11_goesHour_4 : decode cX11_goesHour 4 = .ok (.getfield 121, 3) := by decide +kernel
theorem dX11_goesHour_7 : decode cX11_goesHour 7 = .ok (.if_icmp .ge 40, 3) := by decide +kernel
theorem dX11_goesHour_10 : decode cX11_goesHour 10 = .ok (.aload_n 0, 1) := by decide +kernel
theorem dX11_goesHour_11 : decode cX11_goesHour 11 = .ok (.getfield 33, 3) := by decide +kernel
theorem dX11_goesHour_14 : decode cX11_goesHour 14 = .ok (.iload_n 1, 1) := by decide +kernel
theorem dX11_goesHour_15 : decode cX11_goesHour 15 = .ok (.iaload, 1) := by decide +kernel
theorem dX11_goesHour_16 : decode cX11_goesHour 16 = .ok (.ifCond .ne 25, 3) := by decide +kernel
theorem dX11_goesHour_19 : decode cX11_goesHour 19 = .ok (.aload_n 0, 1) := by decide +kernel
theorem dX11_goesHour_20 : decode cX11_goesHour 20 = .ok (.getfield 36, 3) := by decide +kernel
theorem dX11_goesHour_23 : decode cX11_goesHour 23 = .ok (.iload_n 1, 1) := by decide +kernel
theorem dX11_goesHour_24 : decode cX11_goesHour 24 = .ok (.iaload, 1) := by decide +kernel
theorem dX11_goesHour_25 : decode cX11_goesHour 25 = .ok (.bipush (-5), 2) := by decide +kernel
theorem dX11_goesHour_27 : decode cX11_goesHour 27 = .ok (.if_icmp .eq 14, 3) := by decide +kernel
theorem dX11_goesHour_30 : decode cX11_goesHour 30 = .ok (.aload_n 0, 1) := by decide +kernel
theorem dX11_goesHour_31 : decode cX11_goesHour 31 = .ok (.iload_n 1, 1) := by decide +kernel
theorem dX11_goesHour_32 : decode cX11_goesHour 32 = .ok (.aload_n 0, 1) := by decide +kernel
theorem dX11_goesHour_33 : decode cX11_goesHour 33 = .ok (.getfield 36, 3) := by decide +kernel
theorem dX11_goesHour_36 : decode cX11_goesHour 36 = .ok (.iload_n 1, 1) := by decide +kernel
theorem dX11_goesHour_37 : decode cX11_goesHour 37 = .ok (.iaload, 1) := by decide +kernel
theorem dX11_goesHour_38 : decode cX11_goesHour 38 = .ok (.invokevirtual 148, 3) := by decide +kernel
theorem dX11_goesHour_41 : decode cX11_goesHour 41 = .ok (.iinc 1 1, 3) := by decide +kernel
theorem dX11_goesHour_44 : decode cX11_goesHour 44 = .ok (.goto (-42), 3) := by decide +kernel
theorem dX11_goesHour_47 : decode cX11_goesHour 47 = .ok (.aload_n 0, 1) := by decide +kernel
theorem dX11_goesHour_48 : decode cX11_goesHour 48 = .ok (.invokevirtual 260, 3) := by decide +kernel
theorem dX11_goesHour_51 : decode cX11_goesHour 51 = .ok (.istore_n 1, 1) := by decide +kernel
theorem dX11_goesHour_52 : decode cX11_goesHour 52 = .ok (.iconst 0, 1) := by decide +kernel
theorem dX11_goesHour_53 : decode cX11_goesHour 53 = .ok (.istore_n 2, 1) := by decide +kernel
theorem dX11_goesHour_54 : decode cX11_goesHour 54 = .ok (.iload_n 2, 1) := by decide +kernel
theorem dX11_goesHour_55 : decode cX11_goesHour 55 = .ok (.aload_n 0, 1) := by decide +kernel
theorem dX11_goesHour_56 : decode cX11_goesHour 56 = .ok (.getfield 114, 3) := by decide +kernel
theorem dX11_goesHour_59 : decode cX11_goesHour 59 = .ok (.if_icmp .ge 27, 3) := by decide +kernel
theorem dX11_goesHour_62 : decode cX11_goesHour 62 = .ok (.aload_n 0, 1) := by decide +kernel
theorem dX11_goesHour_63 : decode cX11_goesHour 63 = .ok (.getfield 21, 3) := by decide +kernel
theorem dX11_goesHour_66 : decode cX11_goesHour 66 = .ok (.iload_n 2, 1) := by decide +kernel
theorem dX11_goesHour_67 : decode cX11_goesHour 67 = .ok (.iconst 0, 1) := by decide +kernel
theorem dX11_goesHour_68 : decode cX11_goesHour 68 = .ok (.aload_n 0, 1) := by decide +kernel
theorem dX11_goesHour_69 : decode cX11_goesHour 69 = .ok (.getfield 21, 3) := by decide +kernel
theorem dX11_goesHour_72 : decode cX11_goesHour 72 = .ok (.iload_n 2, 1) := by decide +kernel
theorem dX11_goesHour_73 : decode cX11_goesHour 73 = .ok (.iaload, 1) := by decide +kernel
theorem dX11_goesHour_74 : decode cX11_goesHour 74 = .ok (.iload_n 1, 1) := by decide +kernel
theorem dX11_goesHour_75 : decode cX11_goesHour 75 = .ok (.isub, 1) := by decide +kernel
theorem dX11_goesHour_76 : decode cX11_goesHour 76 = .ok (.invokestatic 263, 3) := by decide +kernel
theorem dX11_goesHour_79 : decode cX11_goesHour 79 = .ok (.iastore, 1) := by decide +kernel
theorem dX11_goesHour_80 : decode cX11_goesHour 80 = .ok (.iinc 2 1, 3) := by decide +kernel
theorem dX11_goesHour_83 : decode cX11_goesHour 83 = .ok (.goto (-29), 3) := by decide +kernel
theorem dX11_goesHour_86 : decode cX11_goesHour 86 = .ok (.aload_n 0, 1) := by decide +kernel
theorem dX11_goesHour_87 : decode cX11_goesHour 87 = .ok (.dup, 1) := by decide +kernel
theorem dX11_goesHour_88 : decode cX11_goesHour 88 = .ok (.getfield 235, 3) := by decide +kernel
theorem dX11_goesHour_91 : decode cX11_goesHour 91 = .ok (.iconst 1, 1) := by decide +kernel
theorem dX11_goesHour_92 : decode cX11_goesHour 92 = .ok (.iadd, 1) := by decide +kernel
theorem dX11_goesHour_93 : decode cX11_goesHour 93 = .ok (.putfield 235, 3) := by decide +kernel
theorem dX11_goesHour_96 : decode cX11_goesHour 96 = .ok (.return_, 1) := by decide +kernel
theorem dX11_through_0 : decode cX11_through 0 = .ok (.iconst 0, 1) := by decide +kernel
theorem dX11_through_1 : decode cX11_through 1 = .ok (.istore_n 1, 1) := by decide +kernel
theorem dX11_through_2 : decode cX11_through 2 = .ok (.iconst 0, 1) := by decide +kernel
theorem dX11_through_3 : decode cX11_through 3 = .ok (.istore_n 2, 1) := by decide +kernel
theorem dX11_through_4 : decode cX11_through 4 = .ok (.iload_n 2, 1) := by decide +kernel
theorem dX11_through_5 : decode cX11_through 5 = .ok (.aload_n 0, 1) := by decide +kernel
theorem dX11_through_6 : decode cX11_through 6 = .ok (.getfield 121, 3) := by decide +kernel
theorem dX11_through_9 : decode cX11_through 9 = .ok (.if_icmp .ge 28, 3) := by decide +kernel
theorem dX11_through_12 : decode cX11_through 12 = .ok (.aload_n 0, 1) := by decide +kernel
theorem dX11_through_13 : decode cX11_through 13 = .ok (.getfield 33, 3) := by decide +kernel
theorem dX11_through_16 : decode cX11_through 16 = .ok (.iload_n 2, 1) := by decide +kernel
theorem dX11_through_17 : decode cX11_through 17 = .ok (.iaload, 1) := by decide +kernel
theorem dX11_through_18 : decode cX11_through 18 = .ok (.iconst 1, 1) := by decide +kernel
theorem dX11_through_19 : decode cX11_through 19 = .ok (.if_icmp .ne 12, 3) := by decide +kernel
theorem dX11_through_22 : decode cX11_through 22 = .ok (.iload_n 1, 1) := by decide +kernel
theorem dX11_through_23 : decode cX11_through 23 = .ok (.aload_n 0, 1) := by decide +kernel
theorem dX11_through_24 : decode cX11_through 24 = .ok (.getfield 30, 3) := by decide +kernel
theorem dX11_through_27 : decode cX11_through 27 = .ok (.iload_n 2, 1) := by decide +kernel
theorem dX11_through_28 : decode cX11_through 28 = .ok (.iaload, 1) := by decide +kernel
theorem dX11_through_29 : decode cX11_through 29 = .ok (.iadd, 1) := by decide +kernel
theorem dX11_through_30 : decode cX11_through 30 = .ok (.istore_n 1, 1) := by decide +kernel
theorem dX11_through_31 : decode cX11_through 31 = .ok (.iinc 2 1, 3) := by decide +kernel
theorem dX11_through_34 : decode cX11_through 34 = .ok (.goto (-30), 3) := by decide +kernel
theorem dX11_through_37 : decode cX11_through 37 = .ok (.iload_n 1, 1) := by decide +kernel
theorem dX11_through_38 : decode cX11_through 38 = .ok (.ireturn, 1) := by decide +kernel
theorem dX11_areSo_0 : decode cX11_areSo 0 = .ok (.iconst 0, 1) := by decide +kernel
theorem dX11_areSo_1 : decode cX11_areSo 1 = .ok (.istore_n 2, 1) := by decide +kernel
theorem dX11_areSo_2 : decode cX11_areSo 2 = .ok (.iconst 0, 1) := by decide +kernel
theorem dX11_areSo_3 : decode cX11_areSo 3 = .ok (.istore_n 3, 1) := by decide +kernel
theorem dX11_areSo_4 : decode cX11_areSo 4 = .ok (.iload_n 3, 1) := by decide +kernel
theorem dX11_areSo_5 : decode cX11_areSo 5 = .ok (.aload_n 0, 1) := by decide +kernel
theorem dX11_areSo_6 : decode cX11_areSo 6 = .ok (.getfield 121, 3) := by decide +kernel
theorem dX11_areSo_9 : decode cX11_areSo 9 = .ok (.if_icmp .ge 25, 3) := by decide +kernel
theorem dX11_areSo_12 : decode cX11_areSo 12 = .ok (.aload_n 0, 1) := by decide +kernel
theorem dX11_areSo_13 : decode cX11_areSo 13 = .ok (.getfield 33, 3) := by decide +kernel
theorem dX11_areSo_16 : decode cX11_areSo 16 = .ok (.iload_n 3, 1) := by decide +kernel
theorem dX11_areSo_17 : decode cX11_areSo 17 = .ok (.iaload, 1) := by decide +kernel
theorem dX11_areSo_18 : decode cX11_areSo 18 = .ok (.iload_n 1, 1) := by decide +kernel
theorem dX11_areSo_19 : decode cX11_areSo 19 = .ok (.if_icmp .ne 9, 3) := by decide +kernel
theorem dX11_areSo_22 : decode cX11_areSo 22 = .ok (.iload_n 2, 1) := by decide +kernel
theorem dX11_areSo_23 : decode cX11_areSo 23 = .ok (.iconst 1, 1) := by decide +kernel
theorem dX11_areSo_24 : decode cX11_areSo 24 = .ok (.iload_n 3, 1) := by decide +kernel
theorem dX11_areSo_25 : decode cX11_areSo 25 = .ok (.ishl, 1) := by decide +kernel
theorem dX11_areSo_26 : decode cX11_areSo 26 = .ok (.ior, 1) := by decide +kernel
theorem dX11_areSo_27 : decode cX11_areSo 27 = .ok (.istore_n 2, 1) := by decide +kernel
theorem dX11_areSo_28 : decode cX11_areSo 28 = .ok (.iinc 3 1, 3) := by decide +kernel
theorem dX11_areSo_31 : decode cX11_areSo 31 = .ok (.goto (-27), 3) := by decide +kernel
theorem dX11_areSo_34 : decode cX11_areSo 34 = .ok (.iload_n 2, 1) := by decide +kernel
theorem dX11_areSo_35 : decode cX11_areSo 35 = .ok (.ireturn, 1) := by decide +kernel
theorem dX11_told_0 : decode cX11_told 0 = .ok (.aload_n 0, 1) := by decide +kernel
theorem dX11_told_1 : decode cX11_told 1 = .ok (.iload_n 1, 1) := by decide +kernel
theorem dX11_told_2 : decode cX11_told 2 = .ok (.bipush 10, 2) := by decide +kernel
theorem dX11_told_4 : decode cX11_told 4 = .ok (.isub, 1) := by decide +kernel
theorem dX11_told_5 : decode cX11_told 5 = .ok (.invokevirtual 131, 3) := by decide +kernel
theorem dX11_told_8 : decode cX11_told 8 = .ok (.ifCond .eq 12, 3) := by decide +kernel
theorem dX11_told_11 : decode cX11_told 11 = .ok (.aload_n 0, 1) := by decide +kernel
theorem dX11_told_12 : decode cX11_told 12 = .ok (.iload_n 1, 1) := by decide +kernel
theorem dX11_told_13 : decode cX11_told 13 = .ok (.bipush 10, 2) := by decide +kernel
theorem dX11_told_15 : decode cX11_told 15 = .ok (.isub, 1) := by decide +kernel
theorem dX11_told_16 : decode cX11_told 16 = .ok (.invokevirtual 266, 3) := by decide +kernel
theorem dX11_told_19 : decode cX11_told 19 = .ok (.ireturn, 1) := by decide +kernel
theorem dX11_told_20 : decode cX11_told 20 = .ok (.iload_n 1, 1) := by decide +kernel
theorem dX11_told_21 : decode cX11_told 21 = .ok (.tableswitch 87 0 6 #[43, 48, 53, 58, 67, 73, 78], 43) := by decide +kernel
theorem dX11_told_64 : decode cX11_told 64 = .ok (.aload_n 0, 1) := by decide +kernel
theorem dX11_told_65 : decode cX11_told 65 = .ok (.getfield 235, 3) := by decide +kernel
theorem dX11_told_68 : decode cX11_told 68 = .ok (.ireturn, 1) := by decide +kernel
theorem dX11_told_69 : decode cX11_told 69 = .ok (.aload_n 0, 1) := by decide +kernel
theorem dX11_told_70 : decode cX11_told 70 = .ok (.invokevirtual 260, 3) := by decide +kernel
theorem dX11_told_73 : decode cX11_told 73 = .ok (.ireturn, 1) := by decide +kernel
theorem dX11_told_74 : decode cX11_told 74 = .ok (.aload_n 0, 1) := by decide +kernel
theorem dX11_told_75 : decode cX11_told 75 = .ok (.invokevirtual 269, 3) := by decide +kernel
theorem dX11_told_78 : decode cX11_told 78 = .ok (.ireturn, 1) := by decide +kernel
theorem dX11_told_79 : decode cX11_told 79 = .ok (.aload_n 0, 1) := by decide +kernel
theorem dX11_told_80 : decode cX11_told 80 = .ok (.iconst 2, 1) := by decide +kernel
theorem dX11_told_81 : decode cX11_told 81 = .ok (.invokevirtual 272, 3) := by decide +kernel
theorem dX11_told_84 : decode cX11_told 84 = .ok (.invokestatic 230, 3) := by decide +kernel
theorem dX11_told_87 : decode cX11_told 87 = .ok (.ireturn, 1) := by decide +kernel
theorem dX11_told_88 : decode cX11_told 88 = .ok (.aload_n 0, 1) := by decide +kernel
theorem dX11_told_89 : decode cX11_told 89 = .ok (.iconst 0, 1) := by decide +kernel
theorem dX11_told_90 : decode cX11_told 90 = .ok (.invokevirtual 272, 3) := by decide +kernel
theorem dX11_told_93 : decode cX11_told 93 = .ok (.ireturn, 1) := by decide +kernel
theorem dX11_told_94 : decode cX11_told 94 = .ok (.aload_n 0, 1) := by decide +kernel
theorem dX11_told_95 : decode cX11_told 95 = .ok (.invokevirtual 275, 3) := by decide +kernel
theorem dX11_told_98 : decode cX11_told 98 = .ok (.ireturn, 1) := by decide +kernel
theorem dX11_told_99 : decode cX11_told 99 = .ok (.aload_n 0, 1) := by decide +kernel
theorem dX11_told_100 : decode cX11_told 100 = .ok (.invokevirtual 278, 3) := by decide +kernel
theorem dX11_told_103 : decode cX11_told 103 = .ok (.aload_n 0, 1) := by decide +kernel
theorem dX11_told_104 : decode cX11_told 104 = .ok (.getfield 281, 3) := by decide +kernel
theorem dX11_told_107 : decode cX11_told 107 = .ok (.ireturn, 1) := by decide +kernel
theorem dX11_told_108 : decode cX11_told 108 = .ok (.iconst (-1), 1) := by decide +kernel
theorem dX11_told_109 : decode cX11_told 109 = .ok (.ireturn, 1) := by decide +kernel
theorem dX11_pass_0 : decode cX11_pass 0 = .ok (.iload_n 1, 1) := by decide +kernel
theorem dX11_pass_1 : decode cX11_pass 1 = .ok (.iconst 0, 1) := by decide +kernel
theorem dX11_pass_2 : decode cX11_pass 2 = .ok (.bipush 60, 2) := by decide +kernel
theorem dX11_pass_4 : decode cX11_pass 4 = .ok (.invokestatic 117, 3) := by decide +kernel
theorem dX11_pass_7 : decode cX11_pass 7 = .ok (.ifCond .ne 6, 3) := by decide +kernel
theorem dX11_pass_10 : decode cX11_pass 10 = .ok (.bipush (-2), 2) := by decide +kernel
theorem dX11_pass_12 : decode cX11_pass 12 = .ok (.ireturn, 1) := by decide +kernel
theorem dX11_pass_13 : decode cX11_pass 13 = .ok (.aload_n 0, 1) := by decide +kernel
theorem dX11_pass_14 : decode cX11_pass 14 = .ok (.getfield 235, 3) := by decide +kernel
theorem dX11_pass_17 : decode cX11_pass 17 = .ok (.iload_n 1, 1) := by decide +kernel
theorem dX11_pass_18 : decode cX11_pass 18 = .ok (.iadd, 1) := by decide +kernel
theorem dX11_pass_19 : decode cX11_pass 19 = .ok (.sipush 9999, 3) := by decide +kernel
theorem dX11_pass_22 : decode cX11_pass 22 = .ok (.if_icmp .le 6, 3) := by decide +kernel
theorem dX11_pass_25 : decode cX11_pass 25 = .ok (.bipush (-3), 2) := by decide +kernel
theorem dX11_pass_27 : decode cX11_pass 27 = .ok (.ireturn, 1) := by decide +kernel
theorem dX11_pass_28 : decode cX11_pass 28 = .ok (.iconst 0, 1) := by decide +kernel
theorem dX11_pass_29 : decode cX11_pass 29 = .ok (.istore_n 2, 1) := by decide +kernel
theorem dX11_pass_30 : decode cX11_pass 30 = .ok (.iload_n 2, 1) := by decide +kernel
theorem dX11_pass_31 : decode cX11_pass 31 = .ok (.iload_n 1, 1) := by decide +kernel
theorem dX11_pass_32 : decode cX11_pass 32 = .ok (.if_icmp .ge 13, 3) := by decide +kernel
theorem dX11_pass_35 : decode cX11_pass 35 = .ok (.aload_n 0, 1) := by decide +kernel
theorem dX11_pass_36 : decode cX11_pass 36 = .ok (.invokevirtual 284, 3) := by decide +kernel
theorem dX11_pass_39 : decode cX11_pass 39 = .ok (.iinc 2 1, 3) := by decide +kernel
theorem dX11_pass_42 : decode cX11_pass 42 = .ok (.goto (-12), 3) := by decide +kernel
theorem dX11_pass_45 : decode cX11_pass 45 = .ok (.aload_n 0, 1) := by decide +kernel
theorem dX11_pass_46 : decode cX11_pass 46 = .ok (.getfield 235, 3) := by decide +kernel
theorem dX11_pass_49 : decode cX11_pass 49 = .ok (.ireturn, 1) := by decide +kernel
theorem dX11_on_0 : decode cX11_on 0 = .ok (.iload_n 2, 1) := by decide +kernel
theorem dX11_on_1 : decode cX11_on 1 = .ok (.ifCond .eq 38, 3) := by decide +kernel
theorem dX11_on_4 : decode cX11_on 4 = .ok (.aload_n 0, 1) := by decide +kernel
theorem dX11_on_5 : decode cX11_on 5 = .ok (.iload_n 2, 1) := by decide +kernel
theorem dX11_on_6 : decode cX11_on 6 = .ok (.bipush 10, 2) := by decide +kernel
theorem dX11_on_8 : decode cX11_on 8 = .ok (.isub, 1) := by decide +kernel
theorem dX11_on_9 : decode cX11_on 9 = .ok (.invokevirtual 128, 3) := by decide +kernel
theorem dX11_on_12 : decode cX11_on 12 = .ok (.ifCond .ne 27, 3) := by decide +kernel
theorem dX11_on_15 : decode cX11_on 15 = .ok (.aload_n 0, 1) := by decide +kernel
theorem dX11_on_16 : decode cX11_on 16 = .ok (.iload_n 2, 1) := by decide +kernel
theorem dX11_on_17 : decode cX11_on 17 = .ok (.bipush 20, 2) := by decide +kernel
theorem dX11_on_19 : decode cX11_on 19 = .ok (.isub, 1) := by decide +kernel
theorem dX11_on_20 : decode cX11_on 20 = .ok (.invokevirtual 128, 3) := by decide +kernel
theorem dX11_on_23 : decode cX11_on 23 = .ok (.ifCond .ne 16, 3) := by decide +kernel
theorem dX11_on_26 : decode cX11_on 26 = .ok (.aload_n 0, 1) := by decide +kernel
theorem dX11_on_27 : decode cX11_on 27 = .ok (.iload_n 2, 1) := by decide +kernel
theorem dX11_on_28 : decode cX11_on 28 = .ok (.bipush 30, 2) := by decide +kernel
theorem dX11_on_30 : decode cX11_on 30 = .ok (.isub, 1) := by decide +kernel
theorem dX11_on_31 : decode cX11_on 31 = .ok (.invokevirtual 131, 3) := by decide +kernel
theorem dX11_on_34 : decode cX11_on 34 = .ok (.ifCond .ne 5, 3) := by decide +kernel
theorem dX11_on_37 : decode cX11_on 37 = .ok (.iconst (-1), 1) := by decide +kernel
theorem dX11_on_38 : decode cX11_on 38 = .ok (.ireturn, 1) := by decide +kernel
theorem dX11_on_39 : decode cX11_on 39 = .ok (.iload_n 1, 1) := by decide +kernel
theorem dX11_on_40 : decode cX11_on 40 = .ok (.iconst 0, 1) := by decide +kernel
theorem dX11_on_41 : decode cX11_on 41 = .ok (.bipush 60, 2) := by decide +kernel
theorem dX11_on_43 : decode cX11_on 43 = .ok (.invokestatic 117, 3) := by decide +kernel
theorem dX11_on_46 : decode cX11_on 46 = .ok (.ifCond .ne 6, 3) := by decide +kernel
theorem dX11_on_49 : decode cX11_on 49 = .ok (.bipush (-2), 2) := by decide +kernel
theorem dX11_on_51 : decode cX11_on 51 = .ok (.ireturn, 1) := by decide +kernel
theorem dX11_on_52 : decode cX11_on 52 = .ok (.aload_n 0, 1) := by decide +kernel
theorem dX11_on_53 : decode cX11_on 53 = .ok (.aload_n 0, 1) := by decide +kernel
theorem dX11_on_54 : decode cX11_on 54 = .ok (.getfield 91, 3) := by decide +kernel
theorem dX11_on_57 : decode cX11_on 57 = .ok (.invokevirtual 287, 3) := by decide +kernel
theorem dX11_on_60 : decode cX11_on 60 = .ok (.iconst 0, 1) := by decide +kernel
theorem dX11_on_61 : decode cX11_on 61 = .ok (.istore_n 3, 1) := by decide +kernel
theorem dX11_on_62 : decode cX11_on 62 = .ok (.iload_n 3, 1) := by decide +kernel
theorem dX11_on_63 : decode cX11_on 63 = .ok (.iload_n 1, 1) := by decide +kernel
theorem dX11_on_64 : decode cX11_on 64 = .ok (.if_icmp .ge 13, 3) := by decide +kernel
theorem dX11_on_67 : decode cX11_on 67 = .ok (.aload_n 0, 1) := by decide +kernel
theorem dX11_on_68 : decode cX11_on 68 = .ok (.invokevirtual 284, 3) := by decide +kernel
theorem dX11_on_71 : decode cX11_on 71 = .ok (.iinc 3 1, 3) := by decide +kernel
theorem dX11_on_74 : decode cX11_on 74 = .ok (.goto (-12), 3) := by decide +kernel
theorem dX11_on_77 : decode cX11_on 77 = .ok (.iload_n 2, 1) := by decide +kernel
theorem dX11_on_78 : decode cX11_on 78 = .ok (.ifCond .ne 10, 3) := by decide +kernel
theorem dX11_on_81 : decode cX11_on 81 = .ok (.aload_n 0, 1) := by decide +kernel
theorem dX11_on_82 : decode cX11_on 82 = .ok (.invokevirtual 269, 3) := by decide +kernel
theorem dX11_on_85 : decode cX11_on 85 = .ok (.goto 48, 3) := by decide +kernel
theorem dX11_on_88 : decode cX11_on 88 = .ok (.iload_n 2, 1) := by decide +kernel
theorem dX11_on_89 : decode cX11_on 89 = .ok (.bipush 20, 2) := by decide +kernel
theorem dX11_on_91 : decode cX11_on 91 = .ok (.if_icmp .ge 15, 3) := by decide +kernel
theorem dX11_on_94 : decode cX11_on 94 = .ok (.aload_n 0, 1) := by decide +kernel
theorem dX11_on_95 : decode cX11_on 95 = .ok (.getfield 18, 3) := by decide +kernel
theorem dX11_on_98 : decode cX11_on 98 = .ok (.iload_n 2, 1) := by decide +kernel
theorem dX11_on_99 : decode cX11_on 99 = .ok (.bipush 10, 2) := by decide +kernel
theorem dX11_on_101 : decode cX11_on 101 = .ok (.isub, 1) := by decide +kernel
theorem dX11_on_102 : decode cX11_on 102 = .ok (.iaload, 1) := by decide +kernel
theorem dX11_on_103 : decode cX11_on 103 = .ok (.goto 30, 3) := by decide +kernel
theorem dX11_on_106 : decode cX11_on 106 = .ok (.iload_n 2, 1) := by decide +kernel
theorem dX11_on_107 : decode cX11_on 107 = .ok (.bipush 30, 2) := by decide +kernel
theorem dX11_on_109 : decode cX11_on 109 = .ok (.if_icmp .ge 15, 3) := by decide +kernel
theorem dX11_on_112 : decode cX11_on 112 = .ok (.aload_n 0, 1) := by decide +kernel
theorem dX11_on_113 : decode cX11_on 113 = .ok (.getfield 21, 3) := by decide +kernel
theorem dX11_on_116 : decode cX11_on 116 = .ok (.iload_n 2, 1) := by decide +kernel
theorem dX11_on_117 : decode cX11_on 117 = .ok (.bipush 20, 2) := by decide +kernel
theorem dX11_on_119 : decode cX11_on 119 = .ok (.isub, 1) := by decide +kernel
theorem dX11_on_120 : decode cX11_on 120 = .ok (.iaload, 1) := by decide +kernel
theorem dX11_on_121 : decode cX11_on 121 = .ok (.goto 12, 3) := by decide +kernel
theorem dX11_on_124 : decode cX11_on 124 = .ok (.aload_n 0, 1) := by decide +kernel
theorem dX11_on_125 : decode cX11_on 125 = .ok (.getfield 33, 3) := by decide +kernel
theorem dX11_on_128 : decode cX11_on 128 = .ok (.iload_n 2, 1) := by decide +kernel
theorem dX11_on_129 : decode cX11_on 129 = .ok (.bipush 30, 2) := by decide +kernel
theorem dX11_on_131 : decode cX11_on 131 = .ok (.isub, 1) := by decide +kernel
theorem dX11_on_132 : decode cX11_on 132 = .ok (.iaload, 1) := by decide +kernel
theorem dX11_on_133 : decode cX11_on 133 = .ok (.istore_n 3, 1) := by decide +kernel
theorem dX11_on_134 : decode cX11_on 134 = .ok (.aload_n 0, 1) := by decide +kernel
theorem dX11_on_135 : decode cX11_on 135 = .ok (.aload_n 0, 1) := by decide +kernel
theorem dX11_on_136 : decode cX11_on 136 = .ok (.getfield 91, 3) := by decide +kernel
theorem dX11_on_139 : decode cX11_on 139 = .ok (.invokevirtual 291, 3) := by decide +kernel
theorem dX11_on_142 : decode cX11_on 142 = .ok (.iload_n 3, 1) := by decide +kernel
theorem dX11_on_143 : decode cX11_on 143 = .ok (.ireturn, 1) := by decide +kernel
theorem dX11_tries_0 : decode cX11_tries 0 = .ok (.iload_n 1, 1) := by decide +kernel
theorem dX11_tries_1 : decode cX11_tries 1 = .ok (.aload_n 0, 1) := by decide +kernel
theorem dX11_tries_2 : decode cX11_tries 2 = .ok (.getfield 121, 3) := by decide +kernel
theorem dX11_tries_5 : decode cX11_tries 5 = .ok (.if_icmp .ne 48, 3) := by decide +kernel
theorem dX11_tries_8 : decode cX11_tries 8 = .ok (.iload_n 3, 1) := by decide +kernel
theorem dX11_tries_9 : decode cX11_tries 9 = .ok (.aload_n 0, 1) := by decide +kernel
theorem dX11_tries_10 : decode cX11_tries 10 = .ok (.getfield 281, 3) := by decide +kernel
theorem dX11_tries_13 : decode cX11_tries 13 = .ok (.if_icmp .gt 4, 3) := by decide +kernel
theorem dX11_tries_16 : decode cX11_tries 16 = .ok (.return_, 1) := by decide +kernel
theorem dX11_tries_17 : decode cX11_tries 17 = .ok (.aload_n 0, 1) := by decide +kernel
theorem dX11_tries_18 : decode cX11_tries 18 = .ok (.iload_n 3, 1) := by decide +kernel
theorem dX11_tries_19 : decode cX11_tries 19 = .ok (.putfield 281, 3) := by decide +kernel
theorem dX11_tries_22 : decode cX11_tries 22 = .ok (.iconst 0, 1) := by decide +kernel
theorem dX11_tries_23 : decode cX11_tries 23 = .ok (.istore 4, 2) := by decide +kernel
theorem dX11_tries_25 : decode cX11_tries 25 = .ok (.iload 4, 2) := by decide +kernel
theorem dX11_tries_27 : decode cX11_tries 27 = .ok (.bipush 6, 2) := by decide +kernel
theorem dX11_tries_29 : decode cX11_tries 29 = .ok (.if_icmp .ge 23, 3) := by decide +kernel
theorem dX11_tries_32 : decode cX11_tries 32 = .ok (.aload_n 0, 1) := by decide +kernel
theorem dX11_tries_33 : decode cX11_tries 33 = .ok (.getfield 97, 3) := by decide +kernel
theorem dX11_tries_36 : decode cX11_tries 36 = .ok (.iload 4, 2) := by decide +kernel
theorem dX11_tries_38 : decode cX11_tries 38 = .ok (.aload_n 0, 1) := by decide +kernel
theorem dX11_tries_39 : decode cX11_tries 39 = .ok (.getfield 94, 3) := by decide +kernel
theorem dX11_tries_42 : decode cX11_tries 42 = .ok (.iload 4, 2) := by decide +kernel
theorem dX11_tries_44 : decode cX11_tries 44 = .ok (.iaload, 1) := by decide +kernel
theorem dX11_tries_45 : decode cX11_tries 45 = .ok (.iastore, 1) := by decide +kernel
theorem dX11_tries_46 : decode cX11_tries 46 = .ok (.iinc 4 1, 3) := by decide +kernel
theorem dX11_tries_49 : decode cX11_tries 49 = .ok (.goto (-24), 3) := by decide +kernel
theorem dX11_tries_52 : decode cX11_tries 52 = .ok (.return_, 1) := by decide +kernel
theorem dX11_tries_53 : decode cX11_tries 53 = .ok (.iconst 0, 1) := by decide +kernel
theorem dX11_tries_54 : decode cX11_tries 54 = .ok (.istore 4, 2) := by decide +kernel
theorem dX11_tries_56 : decode cX11_tries 56 = .ok (.iload 4, 2) := by decide +kernel
theorem dX11_tries_58 : decode cX11_tries 58 = .ok (.aload_n 0, 1) := by decide +kernel
theorem dX11_tries_59 : decode cX11_tries 59 = .ok (.getfield 114, 3) := by decide +kernel
theorem dX11_tries_62 : decode cX11_tries 62 = .ok (.if_icmp .ge 75, 3) := by decide +kernel
theorem dX11_tries_65 : decode cX11_tries 65 = .ok (.aload_n 0, 1) := by decide +kernel
theorem dX11_tries_66 : decode cX11_tries 66 = .ok (.getfield 33, 3) := by decide +kernel
theorem dX11_tries_69 : decode cX11_tries 69 = .ok (.iload_n 1, 1) := by decide +kernel
theorem dX11_tries_70 : decode cX11_tries 70 = .ok (.iaload, 1) := by decide +kernel
theorem dX11_tries_71 : decode cX11_tries 71 = .ok (.ifCond .ne 60, 3) := by decide +kernel
theorem dX11_tries_74 : decode cX11_tries 74 = .ok (.iload_n 2, 1) := by decide +kernel
theorem dX11_tries_75 : decode cX11_tries 75 = .ok (.iload 4, 2) := by decide +kernel
theorem dX11_tries_77 : decode cX11_tries 77 = .ok (.ishr, 1) := by decide +kernel
theorem dX11_tries_78 : decode cX11_tries 78 = .ok (.iconst 1, 1) := by decide +kernel
theorem dX11_tries_79 : decode cX11_tries 79 = .ok (.iand, 1) := by decide +kernel
theorem dX11_tries_80 : decode cX11_tries 80 = .ok (.iconst 1, 1) := by decide +kernel
theorem dX11_tries_81 : decode cX11_tries 81 = .ok (.if_icmp .eq 50, 3) := by decide +kernel
theorem dX11_tries_84 : decode cX11_tries 84 = .ok (.aload_n 0, 1) := by decide +kernel
theorem dX11_tries_85 : decode cX11_tries 85 = .ok (.iload 4, 2) := by decide +kernel
theorem dX11_tries_87 : decode cX11_tries 87 = .ok (.aload_n 0, 1) := by decide +kernel
theorem dX11_tries_88 : decode cX11_tries 88 = .ok (.getfield 27, 3) := by decide +kernel
theorem dX11_tries_91 : decode cX11_tries 91 = .ok (.iload_n 1, 1) := by decide +kernel
theorem dX11_tries_92 : decode cX11_tries 92 = .ok (.iaload, 1) := by decide +kernel
theorem dX11_tries_93 : decode cX11_tries 93 = .ok (.invokevirtual 248, 3) := by decide +kernel
theorem dX11_tries_96 : decode cX11_tries 96 = .ok (.ifCond .ne 6, 3) := by decide +kernel
theorem dX11_tries_99 : decode cX11_tries 99 = .ok (.goto 32, 3) := by decide +kernel
theorem dX11_tries_102 : decode cX11_tries 102 = .ok (.aload_n 0, 1) := by decide +kernel
theorem dX11_tries_103 : decode cX11_tries 103 = .ok (.getfield 94, 3) := by decide +kernel
theorem dX11_tries_106 : decode cX11_tries 106 = .ok (.iload_n 1, 1) := by decide +kernel
theorem dX11_tries_107 : decode cX11_tries 107 = .ok (.iload 4, 2) := by decide +kernel
theorem dX11_tries_109 : decode cX11_tries 109 = .ok (.iastore, 1) := by decide +kernel
theorem dX11_tries_110 : decode cX11_tries 110 = .ok (.aload_n 0, 1) := by decide +kernel
theorem dX11_tries_111 : decode cX11_tries 111 = .ok (.iload_n 1, 1) := by decide +kernel
theorem dX11_tries_112 : decode cX11_tries 112 = .ok (.iconst 1, 1) := by decide +kernel
theorem dX11_tries_113 : decode cX11_tries 113 = .ok (.iadd, 1) := by decide +kernel
theorem dX11_tries_114 : decode cX11_tries 114 = .ok (.iload_n 2, 1) := by decide +kernel
theorem dX11_tries_115 : decode cX11_tries 115 = .ok (.iconst 1, 1) := by decide +kernel
theorem dX11_tries_116 : decode cX11_tries 116 = .ok (.iload 4, 2) := by decide +kernel
theorem dX11_tries_118 : decode cX11_tries 118 = .ok (.ishl, 1) := by decide +kernel
theorem dX11_tries_119 : decode cX11_tries 119 = .ok (.ior, 1) := by decide +kernel
theorem dX11_tries_120 : decode cX11_tries 120 = .ok (.iload_n 3, 1) := by decide +kernel
theorem dX11_tries_121 : decode cX11_tries 121 = .ok (.aload_n 0, 1) := by decide +kernel
theorem dX11_tries_122 : decode cX11_tries 122 = .ok (.getfield 30, 3) := by decide +kernel
theorem dX11_tries_125 : decode cX11_tries 125 = .ok (.iload_n 1, 1) := by decide +kernel
theorem dX11_tries_126 : decode cX11_tries 126 = .ok (.iaload, 1) := by decide +kernel
theorem dX11_tries_127 : decode cX11_tries 127 = .ok (.iadd, 1) := by decide +kernel
theorem dX11_tries_128 : decode cX11_tries 128 = .ok (.invokevirtual 294, 3) := by decide +kernel
theorem dX11_tries_131 : decode cX11_tries 131 = .ok (.iinc 4 1, 3) := by decide +kernel
theorem dX11_tries_134 : decode cX11_tries 134 = .ok (.goto (-78), 3) := by decide +kernel
theorem dX11_tries_137 : decode cX11_tries 137 = .ok (.aload_n 0, 1) := by decide +kernel
theorem dX11_tries_138 : decode cX11_tries 138 = .ok (.getfield 94, 3) := by decide +kernel
theorem dX11_tries_141 : decode cX11_tries 141 = .ok (.iload_n 1, 1) := by decide +kernel
theorem dX11_tries_142 : decode cX11_tries 142 = .ok (.bipush (-5), 2) := by decide +kernel
theorem dX11_tries_144 : decode cX11_tries 144 = .ok (.iastore, 1) := by decide +kernel
theorem dX11_tries_145 : decode cX11_tries 145 = .ok (.aload_n 0, 1) := by decide +kernel
theorem dX11_tries_146 : decode cX11_tries 146 = .ok (.iload_n 1, 1) := by decide +kernel
theorem dX11_tries_147 : decode cX11_tries 147 = .ok (.iconst 1, 1) := by decide +kernel
theorem dX11_tries_148 : decode cX11_tries 148 = .ok (.iadd, 1) := by decide +kernel
theorem dX11_tries_149 : decode cX11_tries 149 = .ok (.iload_n 2, 1) := by decide +kernel
theorem dX11_tries_150 : decode cX11_tries 150 = .ok (.iload_n 3, 1) := by decide +kernel
theorem dX11_tries_151 : decode cX11_tries 151 = .ok (.invokevirtual 294, 3) := by decide +kernel
theorem dX11_tries_154 : decode cX11_tries 154 = .ok (.return_, 1) := by decide +kernel
theorem dX11_loads_0 : decode cX11_loads 0 = .ok (.aload_n 0, 1) := by decide +kernel
theorem dX11_loads_1 : decode cX11_loads 1 = .ok (.iconst (-1), 1) := by decide +kernel
theorem dX11_loads_2 : decode cX11_loads 2 = .ok (.putfield 281, 3) := by decide +kernel
theorem dX11_loads_5 : decode cX11_loads 5 = .ok (.aload_n 0, 1) := by decide +kernel
theorem dX11_loads_6 : decode cX11_loads 6 = .ok (.iconst 0, 1) := by decide +kernel
theorem dX11_loads_7 : decode cX11_loads 7 = .ok (.iconst 0, 1) := by decide +kernel
theorem dX11_loads_8 : decode cX11_loads 8 = .ok (.iconst 0, 1) := by decide +kernel
theorem dX11_loads_9 : decode cX11_loads 9 = .ok (.invokevirtual 294, 3) := by decide +kernel
theorem dX11_loads_12 : decode cX11_loads 12 = .ok (.return_, 1) := by decide +kernel
theorem dX11_loaded_0 : decode cX11_loaded 0 = .ok (.aload_n 0, 1) := by decide +kernel
theorem dX11_loaded_1 : decode cX11_loaded 1 = .ok (.invokevirtual 278, 3) := by decide +kernel
theorem dX11_loaded_4 : decode cX11_loaded 4 = .ok (.aload_n 0, 1) := by decide +kernel
theorem dX11_loaded_5 : decode cX11_loaded 5 = .ok (.getfield 97, 3) := by decide +kernel
theorem dX11_loaded_8 : decode cX11_loaded 8 = .ok (.iload_n 1, 1) := by decide +kernel
theorem dX11_loaded_9 : decode cX11_loaded 9 = .ok (.iaload, 1) := by decide +kernel
theorem dX11_loaded_10 : decode cX11_loaded 10 = .ok (.ireturn, 1) := by decide +kernel
theorem dX11_enough_0 : decode cX11_enough 0 = .ok (.bipush (-5), 2) := by decide +kernel
theorem dX11_enough_2 : decode cX11_enough 2 = .ok (.istore_n 1, 1) := by decide +kernel
theorem dX11_enough_3 : decode cX11_enough 3 = .ok (.iconst 0, 1) := by decide +kernel
theorem dX11_enough_4 : decode cX11_enough 4 = .ok (.istore_n 2, 1) := by decide +kernel
theorem dX11_enough_5 : decode cX11_enough 5 = .ok (.iload_n 2, 1) := by decide +kernel
theorem dX11_enough_6 : decode cX11_enough 6 = .ok (.iconst 1, 1) := by decide +kernel
theorem dX11_enough_7 : decode cX11_enough 7 = .ok (.aload_n 0, 1) := by decide +kernel
theorem dX11_enough_8 : decode cX11_enough 8 = .ok (.getfield 114, 3) := by decide +kernel
theorem dX11_enough_11 : decode cX11_enough 11 = .ok (.ishl, 1) := by decide +kernel
theorem dX11_enough_12 : decode cX11_enough 12 = .ok (.if_icmp .ge 127, 3) := by decide +kernel
theorem dX11_enough_15 : decode cX11_enough 15 = .ok (.iload_n 1, 1) := by decide +kernel
theorem dX11_enough_16 : decode cX11_enough 16 = .ok (.bipush (-5), 2) := by decide +kernel
theorem dX11_enough_18 : decode cX11_enough 18 = .ok (.if_icmp .eq 14, 3) := by decide +kernel
theorem dX11_enough_21 : decode cX11_enough 21 = .ok (.iload_n 2, 1) := by decide +kernel
theorem dX11_enough_22 : decode cX11_enough 22 = .ok (.invokestatic 230, 3) := by decide +kernel
theorem dX11_enough_25 : decode cX11_enough 25 = .ok (.iload_n 1, 1) := by decide +kernel
theorem dX11_enough_26 : decode cX11_enough 26 = .ok (.invokestatic 230, 3) := by decide +kernel
theorem dX11_enough_29 : decode cX11_enough 29 = .ok (.if_icmp .ge 7, 3) := by decide +kernel
theorem dX11_enough_32 : decode cX11_enough 32 = .ok (.iconst 1, 1) := by decide +kernel
theorem dX11_enough_33 : decode cX11_enough 33 = .ok (.goto 4, 3) := by decide +kernel
theorem dX11_enough_36 : decode cX11_enough 36 = .ok (.iconst 0, 1) := by decide +kernel
theorem dX11_enough_37 : decode cX11_enough 37 = .ok (.istore_n 3, 1) := by decide +kernel
theorem dX11_enough_38 : decode cX11_enough 38 = .ok (.iconst 0, 1) := by decide +kernel
theorem dX11_enough_39 : decode cX11_enough 39 = .ok (.istore 4, 2) := by decide +kernel
theorem dX11_enough_41 : decode cX11_enough 41 = .ok (.iload 4, 2) := by decide +kernel
theorem dX11_enough_43 : decode cX11_enough 43 = .ok (.aload_n 0, 1) := by decide +kernel
theorem dX11_enough_44 : decode cX11_enough 44 = .ok (.getfield 121, 3) := by decide +kernel
theorem dX11_enough_47 : decode cX11_enough 47 = .ok (.if_icmp .ge 80, 3) := by decide +kernel
theorem dX11_enough_50 : decode cX11_enough 50 = .ok (.iload_n 3, 1) := by decide +kernel
theorem dX11_enough_51 : decode cX11_enough 51 = .ok (.ifCond .eq 76, 3) := by decide +kernel
theorem dX11_enough_54 : decode cX11_enough 54 = .ok (.aload_n 0, 1) := by decide +kernel
theorem dX11_enough_55 : decode cX11_enough 55 = .ok (.getfield 33, 3) := by decide +kernel
theorem dX11_enough_58 : decode cX11_enough 58 = .ok (.iload 4, 2) := by decide +kernel
theorem dX11_enough_60 : decode cX11_enough 60 = .ok (.iaload, 1) := by decide +kernel
theorem dX11_enough_61 : decode cX11_enough 61 = .ok (.ifCond .eq 7, 3) := by decide +kernel
theorem dX11_enough_64 : decode cX11_enough 64 = .ok (.iconst 1, 1) := by decide +kernel
theorem dX11_enough_65 : decode cX11_enough 65 = .ok (.goto 4, 3) := by decide +kernel
theorem dX11_enough_68 : decode cX11_enough 68 = .ok (.iconst 0, 1) := by decide +kernel
theorem dX11_enough_69 : decode cX11_enough 69 = .ok (.istore 5, 2) := by decide +kernel
theorem dX11_enough_71 : decode cX11_enough 71 = .ok (.iconst 0, 1) := by decide +kernel
theorem dX11_enough_72 : decode cX11_enough 72 = .ok (.istore 6, 2) := by decide +kernel
theorem dX11_enough_74 : decode cX11_enough 74 = .ok (.iload 6, 2) := by decide +kernel
theorem dX11_enough_76 : decode cX11_enough 76 = .ok (.aload_n 0, 1) := by decide +kernel
theorem dX11_enough_77 : decode cX11_enough 77 = .ok (.getfield 114, 3) := by decide +kernel
theorem dX11_enough_80 : decode cX11_enough 80 = .ok (.if_icmp .ge 38, 3) := by decide +kernel
theorem dX11_enough_83 : decode cX11_enough 83 = .ok (.iload_n 2, 1) := by decide +kernel
theorem dX11_enough_84 : decode cX11_enough 84 = .ok (.iload 6, 2) := by decide +kernel
theorem dX11_enough_86 : decode cX11_enough 86 = .ok (.ishr, 1) := by decide +kernel
theorem dX11_enough_87 : decode cX11_enough 87 = .ok (.iconst 1, 1) := by decide +kernel
theorem dX11_enough_88 : decode cX11_enough 88 = .ok (.iand, 1) := by decide +kernel
theorem dX11_enough_89 : decode cX11_enough 89 = .ok (.iconst 1, 1) := by decide +kernel
theorem dX11_enough_90 : decode cX11_enough 90 = .ok (.if_icmp .ne 22, 3) := by decide +kernel
theorem dX11_enough_93 : decode cX11_enough 93 = .ok (.aload_n 0, 1) := by decide +kernel
theorem dX11_enough_94 : decode cX11_enough 94 = .ok (.iload 6, 2) := by decide +kernel
theorem dX11_enough_96 : decode cX11_enough 96 = .ok (.aload_n 0, 1) := by decide +kernel
theorem dX11_enough_97 : decode cX11_enough 97 = .ok (.getfield 27, 3) := by decide +kernel
theorem dX11_enough_100 : decode cX11_enough 100 = .ok (.iload 4, 2) := by decide +kernel
theorem dX11_enough_102 : decode cX11_enough 102 = .ok (.iaload, 1) := by decide +kernel
theorem dX11_enough_103 : decode cX11_enough 103 = .ok (.invokevirtual 248, 3) := by decide +kernel
theorem dX11_enough_106 : decode cX11_enough 106 = .ok (.ifCond .eq 6, 3) := by decide +kernel
theorem dX11_enough_109 : decode cX11_enough 109 = .ok (.iconst 1, 1) := by decide +kernel
theorem dX11_enough_110 : decode cX11_enough 110 = .ok (.istore 5, 2) := by decide +kernel
theorem dX11_enough_112 : decode cX11_enough 112 = .ok (.iinc 6 1, 3) := by decide +kernel
theorem dX11_enough_115 : decode cX11_enough 115 = .ok (.goto (-41), 3) := by decide +kernel
theorem dX11_enough_118 : decode cX11_enough 118 = .ok (.iload 5, 2) := by decide +kernel
theorem dX11_enough_120 : decode cX11_enough 120 = .ok (.istore_n 3, 1) := by decide +kernel
theorem dX11_enough_121 : decode cX11_enough 121 = .ok (.iinc 4 1, 3) := by decide +kernel
theorem dX11_enough_124 : decode cX11_enough 124 = .ok (.goto (-83), 3) := by decide +kernel
theorem dX11_enough_127 : decode cX11_enough 127 = .ok (.iload_n 3, 1) := by decide +kernel
theorem dX11_enough_128 : decode cX11_enough 128 = .ok (.ifCond .eq 5, 3) := by decide +kernel
theorem dX11_enough_131 : decode cX11_enough 131 = .ok (.iload_n 2, 1) := by decide +kernel
theorem dX11_enough_132 : decode cX11_enough 132 = .ok (.istore_n 1, 1) := by decide +kernel
theorem dX11_enough_133 : decode cX11_enough 133 = .ok (.iinc 2 1, 3) := by decide +kernel
theorem dX11_enough_136 : decode cX11_enough 136 = .ok (.goto (-131), 3) := by decide +kernel
theorem dX11_enough_139 : decode cX11_enough 139 = .ok (.iload_n 1, 1) := by decide +kernel
theorem dX11_enough_140 : decode cX11_enough 140 = .ok (.ireturn, 1) := by decide +kernel
theorem dX11_study_0 : decode cX11_study 0 = .ok (.aload_n 0, 1) := by decide +kernel
theorem dX11_study_1 : decode cX11_study 1 = .ok (.getfield 18, 3) := by decide +kernel
theorem dX11_study_4 : decode cX11_study 4 = .ok (.iload_n 1, 1) := by decide +kernel
theorem dX11_study_5 : decode cX11_study 5 = .ok (.iaload, 1) := by decide +kernel
theorem dX11_study_6 : decode cX11_study 6 = .ok (.istore_n 3, 1) := by decide +kernel
theorem dX11_study_7 : decode cX11_study 7 = .ok (.bipush (-5), 2) := by decide +kernel
theorem dX11_study_9 : decode cX11_study 9 = .ok (.istore 4, 2) := by decide +kernel
theorem dX11_study_11 : decode cX11_study 11 = .ok (.iconst 0, 1) := by decide +kernel
theorem dX11_study_12 : decode cX11_study 12 = .ok (.istore 5, 2) := by decide +kernel
theorem dX11_study_14 : decode cX11_study 14 = .ok (.iload 5, 2) := by decide +kernel
theorem dX11_study_16 : decode cX11_study 16 = .ok (.sipush 4096, 3) := by decide +kernel
theorem dX11_study_19 : decode cX11_study 19 = .ok (.if_icmp .ge 69, 3) := by decide +kernel
theorem dX11_study_22 : decode cX11_study 22 = .ok (.iload 5, 2) := by decide +kernel
theorem dX11_study_24 : decode cX11_study 24 = .ok (.iload_n 3, 1) := by decide +kernel
theorem dX11_study_25 : decode cX11_study 25 = .ok (.iand, 1) := by decide +kernel
theorem dX11_study_26 : decode cX11_study 26 = .ok (.ifCond .ne 56, 3) := by decide +kernel
theorem dX11_study_29 : decode cX11_study 29 = .ok (.iload 4, 2) := by decide +kernel
theorem dX11_study_31 : decode cX11_study 31 = .ok (.bipush (-5), 2) := by decide +kernel
theorem dX11_study_33 : decode cX11_study 33 = .ok (.if_icmp .eq 19, 3) := by decide +kernel
theorem dX11_study_36 : decode cX11_study 36 = .ok (.iload 5, 2) := by decide +kernel
theorem dX11_study_38 : decode cX11_study 38 = .ok (.invokestatic 230, 3) := by decide +kernel
theorem dX11_study_41 : decode cX11_study 41 = .ok (.iload 4, 2) := by decide +kernel
theorem dX11_study_43 : decode cX11_study 43 = .ok (.invokestatic 230, 3) := by decide +kernel
theorem dX11_study_46 : decode cX11_study 46 = .ok (.if_icmp .lt 6, 3) := by decide +kernel
theorem dX11_study_49 : decode cX11_study 49 = .ok (.goto 33, 3) := by decide +kernel
theorem dX11_study_52 : decode cX11_study 52 = .ok (.aload_n 0, 1) := by decide +kernel
theorem dX11_study_53 : decode cX11_study 53 = .ok (.getfield 18, 3) := by decide +kernel
theorem dX11_study_56 : decode cX11_study 56 = .ok (.iload_n 1, 1) := by decide +kernel
theorem dX11_study_57 : decode cX11_study 57 = .ok (.iload_n 3, 1) := by decide +kernel
theorem dX11_study_58 : decode cX11_study 58 = .ok (.iload 5, 2) := by decide +kernel
theorem dX11_study_60 : decode cX11_study 60 = .ok (.ior, 1) := by decide +kernel
theorem dX11_study_61 : decode cX11_study 61 = .ok (.iastore, 1) := by decide +kernel
theorem dX11_study_62 : decode cX11_study 62 = .ok (.aload_n 0, 1) := by decide +kernel
theorem dX11_study_63 : decode cX11_study 63 = .ok (.iload_n 1, 1) := by decide +kernel
theorem dX11_study_64 : decode cX11_study 64 = .ok (.iload_n 2, 1) := by decide +kernel
theorem dX11_study_65 : decode cX11_study 65 = .ok (.invokevirtual 248, 3) := by decide +kernel
theorem dX11_study_68 : decode cX11_study 68 = .ok (.ifCond .eq 7, 3) := by decide +kernel
theorem dX11_study_71 : decode cX11_study 71 = .ok (.iload 5, 2) := by decide +kernel
theorem dX11_study_73 : decode cX11_study 73 = .ok (.istore 4, 2) := by decide +kernel
theorem dX11_study_75 : decode cX11_study 75 = .ok (.aload_n 0, 1) := by decide +kernel
theorem dX11_study_76 : decode cX11_study 76 = .ok (.getfield 18, 3) := by decide +kernel
theorem dX11_study_79 : decode cX11_study 79 = .ok (.iload_n 1, 1) := by decide +kernel
theorem dX11_study_80 : decode cX11_study 80 = .ok (.iload_n 3, 1) := by decide +kernel
theorem dX11_study_81 : decode cX11_study 81 = .ok (.iastore, 1) := by decide +kernel
theorem dX11_study_82 : decode cX11_study 82 = .ok (.iinc 5 1, 3) := by decide +kernel
theorem dX11_study_85 : decode cX11_study 85 = .ok (.goto (-71), 3) := by decide +kernel
theorem dX11_study_88 : decode cX11_study 88 = .ok (.iload 4, 2) := by decide +kernel
theorem dX11_study_90 : decode cX11_study 90 = .ok (.ireturn, 1) := by decide +kernel
theorem dX11_stumps_0 : decode cX11_stumps 0 = .ok (.bipush (-5), 2) := by decide +kernel
theorem dX11_stumps_2 : decode cX11_stumps 2 = .ok (.istore_n 2, 1) := by decide +kernel
theorem dX11_stumps_3 : decode cX11_stumps 3 = .ok (.iconst 1, 1) := by decide +kernel
theorem dX11_stumps_4 : decode cX11_stumps 4 = .ok (.istore_n 3, 1) := by decide +kernel
theorem dX11_stumps_5 : decode cX11_stumps 5 = .ok (.iload_n 3, 1) := by decide +kernel
theorem dX11_stumps_6 : decode cX11_stumps 6 = .ok (.sipush 4096, 3) := by decide +kernel
theorem dX11_stumps_9 : decode cX11_stumps 9 = .ok (.if_icmp .ge 37, 3) := by decide +kernel
theorem dX11_stumps_12 : decode cX11_stumps 12 = .ok (.iload_n 2, 1) := by decide +kernel
theorem dX11_stumps_13 : decode cX11_stumps 13 = .ok (.bipush (-5), 2) := by decide +kernel
theorem dX11_stumps_15 : decode cX11_stumps 15 = .ok (.if_icmp .eq 14, 3) := by decide +kernel
theorem dX11_stumps_18 : decode cX11_stumps 18 = .ok (.iload_n 3, 1) := by decide +kernel
theorem dX11_stumps_19 : decode cX11_stumps 19 = .ok (.invokestatic 230, 3) := by decide +kernel
theorem dX11_stumps_22 : decode cX11_stumps 22 = .ok (.iload_n 2, 1) := by decide +kernel
theorem dX11_stumps_23 : decode cX11_stumps 23 = .ok (.invokestatic 230, 3) := by decide +kernel
theorem dX11_stumps_26 : decode cX11_stumps 26 = .ok (.if_icmp .ge 14, 3) := by decide +kernel
theorem dX11_stumps_29 : decode cX11_stumps 29 = .ok (.aload_n 0, 1) := by decide +kernel
theorem dX11_stumps_30 : decode cX11_stumps 30 = .ok (.iload_n 1, 1) := by decide +kernel
theorem dX11_stumps_31 : decode cX11_stumps 31 = .ok (.iload_n 3, 1) := by decide +kernel
theorem dX11_stumps_32 : decode cX11_stumps 32 = .ok (.invokevirtual 248, 3) := by decide +kernel
theorem dX11_stumps_35 : decode cX11_stumps 35 = .ok (.ifCond .ne 5, 3) := by decide +kernel
theorem dX11_stumps_38 : decode cX11_stumps 38 = .ok (.iload_n 3, 1) := by decide +kernel
theorem dX11_stumps_39 : decode cX11_stumps 39 = .ok (.istore_n 2, 1) := by decide +kernel
theorem dX11_stumps_40 : decode cX11_stumps 40 = .ok (.iinc 3 1, 3) := by decide +kernel
theorem dX11_stumps_43 : decode cX11_stumps 43 = .ok (.goto (-38), 3) := by decide +kernel
theorem dX11_stumps_46 : decode cX11_stumps 46 = .ok (.iload_n 2, 1) := by decide +kernel
theorem dX11_stumps_47 : decode cX11_stumps 47 = .ok (.ireturn, 1) := by decide +kernel
theorem dX11_hear_0 : decode cX11_hear 0 = .ok (.iload_n 1, 1) := by decide +kernel
theorem dX11_hear_1 : decode cX11_hear 1 = .ok (.iconst (-1), 1) := by decide +kernel
theorem dX11_hear_2 : decode cX11_hear 2 = .ok (.if_icmp .ne 10, 3) := by decide +kernel
theorem dX11_hear_5 : decode cX11_hear 5 = .ok (.aload_n 0, 1) := by decide +kernel
theorem dX11_hear_6 : decode cX11_hear 6 = .ok (.iconst 0, 1) := by decide +kernel
theorem dX11_hear_7 : decode cX11_hear 7 = .ok (.putfield 298, 3) := by decide +kernel
theorem dX11_hear_10 : decode cX11_hear 10 = .ok (.iconst 0, 1) := by decide +kernel
theorem dX11_hear_11 : decode cX11_hear 11 = .ok (.ireturn, 1) := by decide +kernel
theorem dX11_hear_12 : decode cX11_hear 12 = .ok (.aload_n 0, 1) := by decide +kernel
theorem dX11_hear_13 : decode cX11_hear 13 = .ok (.iload_n 1, 1) := by decide +kernel
theorem dX11_hear_14 : decode cX11_hear 14 = .ok (.invokevirtual 128, 3) := by decide +kernel
theorem dX11_hear_17 : decode cX11_hear 17 = .ok (.ifCond .eq 11, 3) := by decide +kernel
theorem dX11_hear_20 : decode cX11_hear 20 = .ok (.aload_n 0, 1) := by decide +kernel
theorem dX11_hear_21 : decode cX11_hear 21 = .ok (.iload_n 2, 1) := by decide +kernel
theorem dX11_hear_22 : decode cX11_hear 22 = .ok (.invokevirtual 131, 3) := by decide +kernel
theorem dX11_hear_25 : decode cX11_hear 25 = .ok (.ifCond .ne 5, 3) := by decide +kernel
theorem dX11_hear_28 : decode cX11_hear 28 = .ok (.iconst (-1), 1) := by decide +kernel
theorem dX11_hear_29 : decode cX11_hear 29 = .ok (.ireturn, 1) := by decide +kernel
theorem dX11_hear_30 : decode cX11_hear 30 = .ok (.aload_n 0, 1) := by decide +kernel
theorem dX11_hear_31 : decode cX11_hear 31 = .ok (.getfield 298, 3) := by decide +kernel
theorem dX11_hear_34 : decode cX11_hear 34 = .ok (.iconst 5, 1) := by decide +kernel
theorem dX11_hear_35 : decode cX11_hear 35 = .ok (.if_icmp .ne 6, 3) := by decide +kernel
theorem dX11_hear_38 : decode cX11_hear 38 = .ok (.bipush (-4), 2) := by decide +kernel
theorem dX11_hear_40 : decode cX11_hear 40 = .ok (.ireturn, 1) := by decide +kernel
theorem dX11_hear_41 : decode cX11_hear 41 = .ok (.aload_n 0, 1) := by decide +kernel
theorem dX11_hear_42 : decode cX11_hear 42 = .ok (.getfield 64, 3) := by decide +kernel
theorem dX11_hear_45 : decode cX11_hear 45 = .ok (.aload_n 0, 1) := by decide +kernel
theorem dX11_hear_46 : decode cX11_hear 46 = .ok (.getfield 298, 3) := by decide +kernel
theorem dX11_hear_49 : decode cX11_hear 49 = .ok (.iload_n 1, 1) := by decide +kernel
theorem dX11_hear_50 : decode cX11_hear 50 = .ok (.iastore, 1) := by decide +kernel
theorem dX11_hear_51 : decode cX11_hear 51 = .ok (.aload_n 0, 1) := by decide +kernel
theorem dX11_hear_52 : decode cX11_hear 52 = .ok (.getfield 67, 3) := by decide +kernel
theorem dX11_hear_55 : decode cX11_hear 55 = .ok (.aload_n 0, 1) := by decide +kernel
theorem dX11_hear_56 : decode cX11_hear 56 = .ok (.getfield 298, 3) := by decide +kernel
theorem dX11_hear_59 : decode cX11_hear 59 = .ok (.iload_n 2, 1) := by decide +kernel
theorem dX11_hear_60 : decode cX11_hear 60 = .ok (.iastore, 1) := by decide +kernel
theorem dX11_hear_61 : decode cX11_hear 61 = .ok (.aload_n 0, 1) := by decide +kernel
theorem dX11_hear_62 : decode cX11_hear 62 = .ok (.getfield 70, 3) := by decide +kernel
theorem dX11_hear_65 : decode cX11_hear 65 = .ok (.aload_n 0, 1) := by decide +kernel
theorem dX11_hear_66 : decode cX11_hear 66 = .ok (.dup, 1) := by decide +kernel
theorem dX11_hear_67 : decode cX11_hear 67 = .ok (.getfield 298, 3) := by decide +kernel
theorem dX11_hear_70 : decode cX11_hear 70 = .ok (.dup_x1, 1) := by decide +kernel
theorem dX11_hear_71 : decode cX11_hear 71 = .ok (.iconst 1, 1) := by decide +kernel
theorem dX11_hear_72 : decode cX11_hear 72 = .ok (.iadd, 1) := by decide +kernel
theorem dX11_hear_73 : decode cX11_hear 73 = .ok (.putfield 298, 3) := by decide +kernel
theorem dX11_hear_76 : decode cX11_hear 76 = .ok (.iload_n 3, 1) := by decide +kernel
theorem dX11_hear_77 : decode cX11_hear 77 = .ok (.ifCond .eq 7, 3) := by decide +kernel
theorem dX11_hear_80 : decode cX11_hear 80 = .ok (.iconst 1, 1) := by decide +kernel
theorem dX11_hear_81 : decode cX11_hear 81 = .ok (.goto 4, 3) := by decide +kernel
theorem dX11_hear_84 : decode cX11_hear 84 = .ok (.iconst 0, 1) := by decide +kernel
theorem dX11_hear_85 : decode cX11_hear 85 = .ok (.iastore, 1) := by decide +kernel
theorem dX11_hear_86 : decode cX11_hear 86 = .ok (.aload_n 0, 1) := by decide +kernel
theorem dX11_hear_87 : decode cX11_hear 87 = .ok (.getfield 298, 3) := by decide +kernel
theorem dX11_hear_90 : decode cX11_hear 90 = .ok (.ireturn, 1) := by decide +kernel
theorem dX11_isHeard_0 : decode cX11_isHeard 0 = .ok (.iconst 0, 1) := by decide +kernel
theorem dX11_isHeard_1 : decode cX11_isHeard 1 = .ok (.istore_n 2, 1) := by decide +kernel
theorem dX11_isHeard_2 : decode cX11_isHeard 2 = .ok (.iload_n 2, 1) := by decide +kernel
theorem dX11_isHeard_3 : decode cX11_isHeard 3 = .ok (.aload_n 0, 1) := by decide +kernel
theorem dX11_isHeard_4 : decode cX11_isHeard 4 = .ok (.getfield 298, 3) := by decide +kernel
theorem dX11_isHeard_7 : decode cX11_isHeard 7 = .ok (.if_icmp .ge 55, 3) := by decide +kernel
theorem dX11_isHeard_10 : decode cX11_isHeard 10 = .ok (.aload_n 0, 1) := by decide +kernel
theorem dX11_isHeard_11 : decode cX11_isHeard 11 = .ok (.getfield 64, 3) := by decide +kernel
theorem dX11_isHeard_14 : decode cX11_isHeard 14 = .ok (.iload_n 2, 1) := by decide +kernel
theorem dX11_isHeard_15 : decode cX11_isHeard 15 = .ok (.iaload, 1) := by decide +kernel
theorem dX11_isHeard_16 : decode cX11_isHeard 16 = .ok (.iload_n 1, 1) := by decide +kernel
theorem dX11_isHeard_17 : decode cX11_isHeard 17 = .ok (.if_icmp .ne 39, 3) := by decide +kernel
theorem dX11_isHeard_20 : decode cX11_isHeard 20 = .ok (.aload_n 0, 1) := by decide +kernel
theorem dX11_isHeard_21 : decode cX11_isHeard 21 = .ok (.iload_n 1, 1) := by decide +kernel
theorem dX11_isHeard_22 : decode cX11_isHeard 22 = .ok (.aload_n 0, 1) := by decide +kernel
theorem dX11_isHeard_23 : decode cX11_isHeard 23 = .ok (.getfield 27, 3) := by decide +kernel
theorem dX11_isHeard_26 : decode cX11_isHeard 26 = .ok (.aload_n 0, 1) := by decide +kernel
theorem dX11_isHeard_27 : decode cX11_isHeard 27 = .ok (.getfield 67, 3) := by decide +kernel
theorem dX11_isHeard_30 : decode cX11_isHeard 30 = .ok (.iload_n 2, 1) := by decide +kernel
theorem dX11_isHeard_31 : decode cX11_isHeard 31 = .ok (.iaload, 1) := by decide +kernel
theorem dX11_isHeard_32 : decode cX11_isHeard 32 = .ok (.iaload, 1) := by decide +kernel
theorem dX11_isHeard_33 : decode cX11_isHeard 33 = .ok (.invokevirtual 248, 3) := by decide +kernel
theorem dX11_isHeard_36 : decode cX11_isHeard 36 = .ok (.aload_n 0, 1) := by decide +kernel
theorem dX11_isHeard_37 : decode cX11_isHeard 37 = .ok (.getfield 70, 3) := by decide +kernel
theorem dX11_isHeard_40 : decode cX11_isHeard 40 = .ok (.iload_n 2, 1) := by decide +kernel
theorem dX11_isHeard_41 : decode cX11_isHeard 41 = .ok (.iaload, 1) := by decide +kernel
theorem dX11_isHeard_42 : decode cX11_isHeard 42 = .ok (.iconst 1, 1) := by decide +kernel
theorem dX11_isHeard_43 : decode cX11_isHeard 43 = .ok (.if_icmp .ne 7, 3) := by decide +kernel
theorem dX11_isHeard_46 : decode cX11_isHeard 46 = .ok (.iconst 1, 1) := by decide +kernel
theorem dX11_isHeard_47 : decode cX11_isHeard 47 = .ok (.goto 4, 3) := by decide +kernel
theorem dX11_isHeard_50 : decode cX11_isHeard 50 = .ok (.iconst 0, 1) := by decide +kernel
theorem dX11_isHeard_51 : decode cX11_isHeard 51 = .ok (.if_icmp .eq 5, 3) := by decide +kernel
theorem dX11_isHeard_54 : decode cX11_isHeard 54 = .ok (.iconst 0, 1) := by decide +kernel
theorem dX11_isHeard_55 : decode cX11_isHeard 55 = .ok (.ireturn, 1) := by decide +kernel
theorem dX11_isHeard_56 : decode cX11_isHeard 56 = .ok (.iinc 2 1, 3) := by decide +kernel
theorem dX11_isHeard_59 : decode cX11_isHeard 59 = .ok (.goto (-57), 3) := by decide +kernel
theorem dX11_isHeard_62 : decode cX11_isHeard 62 = .ok (.iconst 1, 1) := by decide +kernel
theorem dX11_isHeard_63 : decode cX11_isHeard 63 = .ok (.ireturn, 1) := by decide +kernel
theorem dX11_knew_0 : decode cX11_knew 0 = .ok (.aload_n 0, 1) := by decide +kernel
theorem dX11_knew_1 : decode cX11_knew 1 = .ok (.getfield 18, 3) := by decide +kernel
theorem dX11_knew_4 : decode cX11_knew 4 = .ok (.iload_n 1, 1) := by decide +kernel
theorem dX11_knew_5 : decode cX11_knew 5 = .ok (.iaload, 1) := by decide +kernel
theorem dX11_knew_6 : decode cX11_knew 6 = .ok (.istore_n 3, 1) := by decide +kernel
theorem dX11_knew_7 : decode cX11_knew 7 = .ok (.iconst 0, 1) := by decide +kernel
theorem dX11_knew_8 : decode cX11_knew 8 = .ok (.istore 4, 2) := by decide +kernel
theorem dX11_knew_10 : decode cX11_knew 10 = .ok (.bipush (-5), 2) := by decide +kernel
theorem dX11_knew_12 : decode cX11_knew 12 = .ok (.istore 5, 2) := by decide +kernel
theorem dX11_knew_14 : decode cX11_knew 14 = .ok (.sipush 4095, 3) := by decide +kernel
theorem dX11_knew_17 : decode cX11_knew 17 = .ok (.istore 6, 2) := by decide +kernel
theorem dX11_knew_19 : decode cX11_knew 19 = .ok (.iload 6, 2) := by decide +kernel
theorem dX11_knew_21 : decode cX11_knew 21 = .ok (.ifCond .lt 35, 3) := by decide +kernel
theorem dX11_knew_24 : decode cX11_knew 24 = .ok (.aload_n 0, 1) := by decide +kernel
theorem dX11_knew_25 : decode cX11_knew 25 = .ok (.getfield 18, 3) := by decide +kernel
theorem dX11_knew_28 : decode cX11_knew 28 = .ok (.iload_n 1, 1) := by decide +kernel
theorem dX11_knew_29 : decode cX11_knew 29 = .ok (.iload 6, 2) := by decide +kernel
theorem dX11_knew_31 : decode cX11_knew 31 = .ok (.iastore, 1) := by decide +kernel
theorem dX11_knew_32 : decode cX11_knew 32 = .ok (.aload_n 0, 1) := by decide +kernel
theorem dX11_knew_33 : decode cX11_knew 33 = .ok (.iload_n 1, 1) := by decide +kernel
theorem dX11_knew_34 : decode cX11_knew 34 = .ok (.invokevirtual 301, 3) := by decide +kernel
theorem dX11_knew_37 : decode cX11_knew 37 = .ok (.ifCond .ne 6, 3) := by decide +kernel
theorem dX11_knew_40 : decode cX11_knew 40 = .ok (.goto 10, 3) := by decide +kernel
theorem dX11_knew_43 : decode cX11_knew 43 = .ok (.iinc 4 1, 3) := by decide +kernel
theorem dX11_knew_46 : decode cX11_knew 46 = .ok (.iload 6, 2) := by decide +kernel
theorem dX11_knew_48 : decode cX11_knew 48 = .ok (.istore 5, 2) := by decide +kernel
theorem dX11_knew_50 : decode cX11_knew 50 = .ok (.iinc 6 (-1), 3) := by decide +kernel
theorem dX11_knew_53 : decode cX11_knew 53 = .ok (.goto (-34), 3) := by decide +kernel
theorem dX11_knew_56 : decode cX11_knew 56 = .ok (.aload_n 0, 1) := by decide +kernel
theorem dX11_knew_57 : decode cX11_knew 57 = .ok (.getfield 18, 3) := by decide +kernel
theorem dX11_knew_60 : decode cX11_knew 60 = .ok (.iload_n 1, 1) := by decide +kernel
theorem dX11_knew_61 : decode cX11_knew 61 = .ok (.iload_n 3, 1) := by decide +kernel
theorem dX11_knew_62 : decode cX11_knew 62 = .ok (.iastore, 1) := by decide +kernel
theorem dX11_knew_63 : decode cX11_knew 63 = .ok (.iload_n 2, 1) := by decide +kernel
theorem dX11_knew_64 : decode cX11_knew 64 = .ok (.ifCond .ne 8, 3) := by decide +kernel
theorem dX11_knew_67 : decode cX11_knew 67 = .ok (.iload 4, 2) := by decide +kernel
theorem dX11_knew_69 : decode cX11_knew 69 = .ok (.goto 5, 3) := by decide +kernel
theorem dX11_knew_72 : decode cX11_knew 72 = .ok (.iload 5, 2) := by decide +kernel
theorem dX11_knew_74 : decode cX11_knew 74 = .ok (.ireturn, 1) := by decide +kernel
theorem dX11_can_0 : decode cX11_can 0 = .ok (.aload_n 0, 1) := by decide +kernel
theorem dX11_can_1 : decode cX11_can 1 = .ok (.iload_n 1, 1) := by decide +kernel
theorem dX11_can_2 : decode cX11_can 2 = .ok (.invokevirtual 128, 3) := by decide +kernel
theorem dX11_can_5 : decode cX11_can 5 = .ok (.ifCond .eq 12, 3) := by decide +kernel
theorem dX11_can_8 : decode cX11_can 8 = .ok (.iload_n 2, 1) := by decide +kernel
theorem dX11_can_9 : decode cX11_can 9 = .ok (.iconst 0, 1) := by decide +kernel
theorem dX11_can_10 : decode cX11_can 10 = .ok (.iconst 1, 1) := by decide +kernel
theorem dX11_can_11 : decode cX11_can 11 = .ok (.invokestatic 117, 3) := by decide +kernel
theorem dX11_can_14 : decode cX11_can 14 = .ok (.ifCond .ne 5, 3) := by decide +kernel
theorem dX11_can_17 : decode cX11_can 17 = .ok (.iconst (-1), 1) := by decide +kernel
theorem dX11_can_18 : decode cX11_can 18 = .ok (.ireturn, 1) := by decide +kernel
theorem dX11_can_19 : decode cX11_can 19 = .ok (.aload_n 0, 1) := by decide +kernel
theorem dX11_can_20 : decode cX11_can 20 = .ok (.getfield 15, 3) := by decide +kernel
theorem dX11_can_23 : decode cX11_can 23 = .ok (.iload_n 1, 1) := by decide +kernel
theorem dX11_can_24 : decode cX11_can 24 = .ok (.iaload, 1) := by decide +kernel
theorem dX11_can_25 : decode cX11_can 25 = .ok (.istore_n 3, 1) := by decide +kernel
theorem dX11_can_26 : decode cX11_can 26 = .ok (.iconst 0, 1) := by decide +kernel
theorem dX11_can_27 : decode cX11_can 27 = .ok (.istore 4, 2) := by decide +kernel
theorem dX11_can_29 : decode cX11_can 29 = .ok (.bipush (-5), 2) := by decide +kernel
theorem dX11_can_31 : decode cX11_can 31 = .ok (.istore 5, 2) := by decide +kernel
theorem dX11_can_33 : decode cX11_can 33 = .ok (.bipush 9, 2) := by decide +kernel
theorem dX11_can_35 : decode cX11_can 35 = .ok (.istore 6, 2) := by decide +kernel
theorem dX11_can_37 : decode cX11_can 37 = .ok (.iload 6, 2) := by decide +kernel
theorem dX11_can_39 : decode cX11_can 39 = .ok (.ifCond .lt 35, 3) := by decide +kernel
theorem dX11_can_42 : decode cX11_can 42 = .ok (.aload_n 0, 1) := by decide +kernel
theorem dX11_can_43 : decode cX11_can 43 = .ok (.getfield 15, 3) := by decide +kernel
theorem dX11_can_46 : decode cX11_can 46 = .ok (.iload_n 1, 1) := by decide +kernel
theorem dX11_can_47 : decode cX11_can 47 = .ok (.iload 6, 2) := by decide +kernel
theorem dX11_can_49 : decode cX11_can 49 = .ok (.iastore, 1) := by decide +kernel
theorem dX11_can_50 : decode cX11_can 50 = .ok (.aload_n 0, 1) := by decide +kernel
theorem dX11_can_51 : decode cX11_can 51 = .ok (.iload_n 1, 1) := by decide +kernel
theorem dX11_can_52 : decode cX11_can 52 = .ok (.invokevirtual 301, 3) := by decide +kernel
theorem dX11_can_55 : decode cX11_can 55 = .ok (.ifCond .ne 6, 3) := by decide +kernel
theorem dX11_can_58 : decode cX11_can 58 = .ok (.goto 10, 3) := by decide +kernel
theorem dX11_can_61 : decode cX11_can 61 = .ok (.iinc 4 1, 3) := by decide +kernel
theorem dX11_can_64 : decode cX11_can 64 = .ok (.iload 6, 2) := by decide +kernel
theorem dX11_can_66 : decode cX11_can 66 = .ok (.istore 5, 2) := by decide +kernel
theorem dX11_can_68 : decode cX11_can 68 = .ok (.iinc 6 (-1), 3) := by decide +kernel
theorem dX11_can_71 : decode cX11_can 71 = .ok (.goto (-34), 3) := by decide +kernel
theorem dX11_can_74 : decode cX11_can 74 = .ok (.aload_n 0, 1) := by decide +kernel
theorem dX11_can_75 : decode cX11_can 75 = .ok (.getfield 15, 3) := by decide +kernel
theorem dX11_can_78 : decode cX11_can 78 = .ok (.iload_n 1, 1) := by decide +kernel
theorem dX11_can_79 : decode cX11_can 79 = .ok (.iload_n 3, 1) := by decide +kernel
theorem dX11_can_80 : decode cX11_can 80 = .ok (.iastore, 1) := by decide +kernel
theorem dX11_can_81 : decode cX11_can 81 = .ok (.iload_n 2, 1) := by decide +kernel
theorem dX11_can_82 : decode cX11_can 82 = .ok (.ifCond .ne 8, 3) := by decide +kernel
theorem dX11_can_85 : decode cX11_can 85 = .ok (.iload 4, 2) := by decide +kernel
theorem dX11_can_87 : decode cX11_can 87 = .ok (.goto 5, 3) := by decide +kernel
theorem dX11_can_90 : decode cX11_can 90 = .ok (.iload 5, 2) := by decide +kernel
theorem dX11_can_92 : decode cX11_can 92 = .ok (.ireturn, 1) := by decide +kernel
theorem dX11_part_0 : decode cX11_part 0 = .ok (.lload_n 0, 1) := by decide +kernel
theorem dX11_part_1 : decode cX11_part 1 = .ok (.lstore 5, 2) := by decide +kernel
theorem dX11_part_3 : decode cX11_part 3 = .ok (.lload_n 2, 1) := by decide +kernel
theorem dX11_part_4 : decode cX11_part 4 = .ok (.lstore 7, 2) := by decide +kernel
theorem dX11_part_6 : decode cX11_part 6 = .ok (.lload 7, 2) := by decide +kernel
theorem dX11_part_8 : decode cX11_part 8 = .ok (.lconst 0, 1) := by decide +kernel
theorem dX11_part_9 : decode cX11_part 9 = .ok (.lcmp, 1) := by decide +kernel
theorem dX11_part_10 : decode cX11_part 10 = .ok (.ifCond .eq 21, 3) := by decide +kernel
theorem dX11_part_13 : decode cX11_part 13 = .ok (.lload 5, 2) := by decide +kernel
theorem dX11_part_15 : decode cX11_part 15 = .ok (.lload 7, 2) := by decide +kernel
theorem dX11_part_17 : decode cX11_part 17 = .ok (.lrem, 1) := by decide +kernel
theorem dX11_part_18 : decode cX11_part 18 = .ok (.lstore 9, 2) := by decide +kernel
theorem dX11_part_20 : decode cX11_part 20 = .ok (.lload 7, 2) := by decide +kernel
theorem dX11_part_22 : decode cX11_part 22 = .ok (.lstore 5, 2) := by decide +kernel
theorem dX11_part_24 : decode cX11_part 24 = .ok (.lload 9, 2) := by decide +kernel
theorem dX11_part_26 : decode cX11_part 26 = .ok (.lstore 7, 2) := by decide +kernel
theorem dX11_part_28 : decode cX11_part 28 = .ok (.goto (-22), 3) := by decide +kernel
theorem dX11_part_31 : decode cX11_part 31 = .ok (.iload 4, 2) := by decide +kernel
theorem dX11_part_33 : decode cX11_part 33 = .ok (.ifCond .ne 10, 3) := by decide +kernel
theorem dX11_part_36 : decode cX11_part 36 = .ok (.lload_n 0, 1) := by decide +kernel
theorem dX11_part_37 : decode cX11_part 37 = .ok (.lload 5, 2) := by decide +kernel
theorem dX11_part_39 : decode cX11_part 39 = .ok (.ldiv, 1) := by decide +kernel
theorem dX11_part_40 : decode cX11_part 40 = .ok (.goto 7, 3) := by decide +kernel
theorem dX11_part_43 : decode cX11_part 43 = .ok (.lload_n 2, 1) := by decide +kernel
theorem dX11_part_44 : decode cX11_part 44 = .ok (.lload 5, 2) := by decide +kernel
theorem dX11_part_46 : decode cX11_part 46 = .ok (.ldiv, 1) := by decide +kernel
theorem dX11_part_47 : decode cX11_part 47 = .ok (.lreturn, 1) := by decide +kernel
theorem dX11_odds_0 : decode cX11_odds 0 = .ok (.aload_n 0, 1) := by decide +kernel
theorem dX11_odds_1 : decode cX11_odds 1 = .ok (.iload_n 1, 1) := by decide +kernel
theorem dX11_odds_2 : decode cX11_odds 2 = .ok (.invokevirtual 128, 3) := by decide +kernel
theorem dX11_odds_5 : decode cX11_odds 5 = .ok (.ifCond .eq 20, 3) := by decide +kernel
theorem dX11_odds_8 : decode cX11_odds 8 = .ok (.aload_n 0, 1) := by decide +kernel
theorem dX11_odds_9 : decode cX11_odds 9 = .ok (.iload_n 2, 1) := by decide +kernel
theorem dX11_odds_10 : decode cX11_odds 10 = .ok (.invokevirtual 131, 3) := by decide +kernel
theorem dX11_odds_13 : decode cX11_odds 13 = .ok (.ifCond .eq 12, 3) := by decide +kernel
theorem dX11_odds_16 : decode cX11_odds 16 = .ok (.iload_n 3, 1) := by decide +kernel
theorem dX11_odds_17 : decode cX11_odds 17 = .ok (.iconst 0, 1) := by decide +kernel
theorem dX11_odds_18 : decode cX11_odds 18 = .ok (.iconst 1, 1) := by decide +kernel
theorem dX11_odds_19 : decode cX11_odds 19 = .ok (.invokestatic 117, 3) := by decide +kernel
theorem dX11_odds_22 : decode cX11_odds 22 = .ok (.ifCond .ne 7, 3) := by decide +kernel
theorem dX11_odds_25 : decode cX11_odds 25 = .ok (.ldc2_w 304, 3) := by decide +kernel
theorem dX11_odds_28 : decode cX11_odds 28 = .ok (.lreturn, 1) := by decide +kernel
theorem dX11_odds_29 : decode cX11_odds 29 = .ok (.iconst 0, 1) := by decide +kernel
theorem dX11_odds_30 : decode cX11_odds 30 = .ok (.istore 4, 2) := by decide +kernel
theorem dX11_odds_32 : decode cX11_odds 32 = .ok (.iconst 0, 1) := by decide +kernel
theorem dX11_odds_33 : decode cX11_odds 33 = .ok (.istore 5, 2) := by decide +kernel
theorem dX11_odds_35 : decode cX11_odds 35 = .ok (.iload 5, 2) := by decide +kernel
theorem dX11_odds_37 : decode cX11_odds 37 = .ok (.bipush 12, 2) := by decide +kernel
theorem dX11_odds_39 : decode cX11_odds 39 = .ok (.if_icmp .ge 31, 3) := by decide +kernel
theorem dX11_odds_42 : decode cX11_odds 42 = .ok (.aload_n 0, 1) := by decide +kernel
theorem dX11_odds_43 : decode cX11_odds 43 = .ok (.iload_n 1, 1) := by decide +kernel
theorem dX11_odds_44 : decode cX11_odds 44 = .ok (.aload_n 0, 1) := by decide +kernel
theorem dX11_odds_45 : decode cX11_odds 45 = .ok (.getfield 27, 3) := by decide +kernel
theorem dX11_odds_48 : decode cX11_odds 48 = .ok (.iload_n 2, 1) := by decide +kernel
theorem dX11_odds_49 : decode cX11_odds 49 = .ok (.iaload, 1) := by decide +kernel
theorem dX11_odds_50 : decode cX11_odds 50 = .ok (.iconst 1, 1) := by decide +kernel
theorem dX11_odds_51 : decode cX11_odds 51 = .ok (.iload 5, 2) := by decide +kernel
theorem dX11_odds_53 : decode cX11_odds 53 = .ok (.ishl, 1) := by decide +kernel
theorem dX11_odds_54 : decode cX11_odds 54 = .ok (.ior, 1) := by decide +kernel
theorem dX11_odds_55 : decode cX11_odds 55 = .ok (.invokevirtual 248, 3) := by decide +kernel
theorem dX11_odds_58 : decode cX11_odds 58 = .ok (.ifCond .eq 6, 3) := by decide +kernel
theorem dX11_odds_61 : decode cX11_odds 61 = .ok (.iinc 4 1, 3) := by decide +kernel
theorem dX11_odds_64 : decode cX11_odds 64 = .ok (.iinc 5 1, 3) := by decide +kernel
theorem dX11_odds_67 : decode cX11_odds 67 = .ok (.goto (-32), 3) := by decide +kernel
theorem dX11_odds_70 : decode cX11_odds 70 = .ok (.iload 4, 2) := by decide +kernel
theorem dX11_odds_72 : decode cX11_odds 72 = .ok (.i2l, 1) := by decide +kernel
theorem dX11_odds_73 : decode cX11_odds 73 = .ok (.ldc2_w 306, 3) := by decide +kernel
theorem dX11_odds_76 : decode cX11_odds 76 = .ok (.iload_n 3, 1) := by decide +kernel
theorem dX11_odds_77 : decode cX11_odds 77 = .ok (.invokestatic 308, 3) := by decide +kernel
theorem dX11_odds_80 : decode cX11_odds 80 = .ok (.lreturn, 1) := by decide +kernel
theorem dX11_mean_0 : decode cX11_mean 0 = .ok (.iload_n 1, 1) := by decide +kernel
theorem dX11_mean_1 : decode cX11_mean 1 = .ok (.iconst 0, 1) := by decide +kernel
theorem dX11_mean_2 : decode cX11_mean 2 = .ok (.iconst 1, 1) := by decide +kernel
theorem dX11_mean_3 : decode cX11_mean 3 = .ok (.invokestatic 117, 3) := by decide +kernel
theorem dX11_mean_6 : decode cX11_mean 6 = .ok (.ifCond .eq 10, 3) := by decide +kernel
theorem dX11_mean_9 : decode cX11_mean 9 = .ok (.aload_n 0, 1) := by decide +kernel
theorem dX11_mean_10 : decode cX11_mean 10 = .ok (.getfield 114, 3) := by decide +kernel
theorem dX11_mean_13 : decode cX11_mean 13 = .ok (.ifCond .ne 7, 3) := by decide +kernel
theorem dX11_mean_16 : decode cX11_mean 16 = .ok (.ldc2_w 304, 3) := by decide +kernel
theorem dX11_mean_19 : decode cX11_mean 19 = .ok (.lreturn, 1) := by decide +kernel
theorem dX11_mean_20 : decode cX11_mean 20 = .ok (.iconst 0, 1) := by decide +kernel
theorem dX11_mean_21 : decode cX11_mean 21 = .ok (.istore_n 2, 1) := by decide +kernel
theorem dX11_mean_22 : decode cX11_mean 22 = .ok (.iconst 0, 1) := by decide +kernel
theorem dX11_mean_23 : decode cX11_mean 23 = .ok (.istore_n 3, 1) := by decide +kernel
theorem dX11_mean_24 : decode cX11_mean 24 = .ok (.iload_n 3, 1) := by decide +kernel
theorem dX11_mean_25 : decode cX11_mean 25 = .ok (.aload_n 0, 1) := by decide +kernel
theorem dX11_mean_26 : decode cX11_mean 26 = .ok (.getfield 114, 3) := by decide +kernel
theorem dX11_mean_29 : decode cX11_mean 29 = .ok (.if_icmp .ge 21, 3) := by decide +kernel
theorem dX11_mean_32 : decode cX11_mean 32 = .ok (.iload_n 2, 1) := by decide +kernel
theorem dX11_mean_33 : decode cX11_mean 33 = .ok (.aload_n 0, 1) := by decide +kernel
theorem dX11_mean_34 : decode cX11_mean 34 = .ok (.getfield 18, 3) := by decide +kernel
theorem dX11_mean_37 : decode cX11_mean 37 = .ok (.iload_n 3, 1) := by decide +kernel
theorem dX11_mean_38 : decode cX11_mean 38 = .ok (.iaload, 1) := by decide +kernel
theorem dX11_mean_39 : decode cX11_mean 39 = .ok (.invokestatic 230, 3) := by decide +kernel
theorem dX11_mean_42 : decode cX11_mean 42 = .ok (.iadd, 1) := by decide +kernel
theorem dX11_mean_43 : decode cX11_mean 43 = .ok (.istore_n 2, 1) := by decide +kernel
theorem dX11_mean_44 : decode cX11_mean 44 = .ok (.iinc 3 1, 3) := by decide +kernel
theorem dX11_mean_47 : decode cX11_mean 47 = .ok (.goto (-23), 3) := by decide +kernel
theorem dX11_mean_50 : decode cX11_mean 50 = .ok (.iload_n 2, 1) := by decide +kernel
theorem dX11_mean_51 : decode cX11_mean 51 = .ok (.i2l, 1) := by decide +kernel
theorem dX11_mean_52 : decode cX11_mean 52 = .ok (.aload_n 0, 1) := by decide +kernel
theorem dX11_mean_53 : decode cX11_mean 53 = .ok (.getfield 114, 3) := by decide +kernel
theorem dX11_mean_56 : decode cX11_mean 56 = .ok (.i2l, 1) := by decide +kernel
theorem dX11_mean_57 : decode cX11_mean 57 = .ok (.iload_n 1, 1) := by decide +kernel
theorem dX11_mean_58 : decode cX11_mean 58 = .ok (.invokestatic 308, 3) := by decide +kernel
theorem dX11_mean_61 : decode cX11_mean 61 = .ok (.lreturn, 1) := by decide +kernel
theorem dX11_plan_0 : decode cX11_plan 0 = .ok (.iload_n 1, 1) := by decide +kernel
theorem dX11_plan_1 : decode cX11_plan 1 = .ok (.iconst (-1), 1) := by decide +kernel
theorem dX11_plan_2 : decode cX11_plan 2 = .ok (.if_icmp .ne 10, 3) := by decide +kernel
theorem dX11_plan_5 : decode cX11_plan 5 = .ok (.aload_n 0, 1) := by decide +kernel
theorem dX11_plan_6 : decode cX11_plan 6 = .ok (.iconst 0, 1) := by decide +kernel
theorem dX11_plan_7 : decode cX11_plan 7 = .ok (.putfield 312, 3) := by decide +kernel
theorem dX11_plan_10 : decode cX11_plan 10 = .ok (.iconst 0, 1) := by decide +kernel
theorem dX11_plan_11 : decode cX11_plan 11 = .ok (.ireturn, 1) := by decide +kernel
theorem dX11_plan_12 : decode cX11_plan 12 = .ok (.iload_n 1, 1) := by decide +kernel
theorem dX11_plan_13 : decode cX11_plan 13 = .ok (.iconst 0, 1) := by decide +kernel
theorem dX11_plan_14 : decode cX11_plan 14 = .ok (.iconst 3, 1) := by decide +kernel
theorem dX11_plan_15 : decode cX11_plan 15 = .ok (.invokestatic 117, 3) := by decide +kernel
theorem dX11_plan_18 : decode cX11_plan 18 = .ok (.ifCond .eq 11, 3) := by decide +kernel
theorem dX11_plan_21 : decode cX11_plan 21 = .ok (.iload_n 1, 1) := by decide +kernel
theorem dX11_plan_22 : decode cX11_plan 22 = .ok (.ifCond .le 9, 3) := by decide +kernel
theorem dX11_plan_25 : decode cX11_plan 25 = .ok (.iload_n 2, 1) := by decide +kernel
theorem dX11_plan_26 : decode cX11_plan 26 = .ok (.ifCond .ge 5, 3) := by decide +kernel
theorem dX11_plan_29 : decode cX11_plan 29 = .ok (.iconst (-1), 1) := by decide +kernel
theorem dX11_plan_30 : decode cX11_plan 30 = .ok (.ireturn, 1) := by decide +kernel
theorem dX11_plan_31 : decode cX11_plan 31 = .ok (.iload_n 1, 1) := by decide +kernel
theorem dX11_plan_32 : decode cX11_plan 32 = .ok (.iconst 1, 1) := by decide +kernel
theorem dX11_plan_33 : decode cX11_plan 33 = .ok (.if_icmp .ne 25, 3) := by decide +kernel
theorem dX11_plan_36 : decode cX11_plan 36 = .ok (.aload_n 0, 1) := by decide +kernel
theorem dX11_plan_37 : decode cX11_plan 37 = .ok (.iload_n 2, 1) := by decide +kernel
theorem dX11_plan_38 : decode cX11_plan 38 = .ok (.bipush 10, 2) := by decide +kernel
theorem dX11_plan_40 : decode cX11_plan 40 = .ok (.idiv, 1) := by decide +kernel
theorem dX11_plan_41 : decode cX11_plan 41 = .ok (.invokevirtual 131, 3) := by decide +kernel
theorem dX11_plan_44 : decode cX11_plan 44 = .ok (.ifCond .eq 40, 3) := by decide +kernel
theorem dX11_plan_47 : decode cX11_plan 47 = .ok (.aload_n 0, 1) := by decide +kernel
theorem dX11_plan_48 : decode cX11_plan 48 = .ok (.iload_n 2, 1) := by decide +kernel
theorem dX11_plan_49 : decode cX11_plan 49 = .ok (.bipush 10, 2) := by decide +kernel
theorem dX11_plan_51 : decode cX11_plan 51 = .ok (.irem, 1) := by decide +kernel
theorem dX11_plan_52 : decode cX11_plan 52 = .ok (.invokevirtual 128, 3) := by decide +kernel
theorem dX11_plan_55 : decode cX11_plan 55 = .ok (.ifCond .eq 29, 3) := by decide +kernel
theorem dX11_plan_58 : decode cX11_plan 58 = .ok (.iload_n 1, 1) := by decide +kernel
theorem dX11_plan_59 : decode cX11_plan 59 = .ok (.iconst 2, 1) := by decide +kernel
theorem dX11_plan_60 : decode cX11_plan 60 = .ok (.if_icmp .ne 11, 3) := by decide +kernel
theorem dX11_plan_63 : decode cX11_plan 63 = .ok (.aload_n 0, 1) := by decide +kernel
theorem dX11_plan_64 : decode cX11_plan 64 = .ok (.iload_n 2, 1) := by decide +kernel
theorem dX11_plan_65 : decode cX11_plan 65 = .ok (.invokevirtual 128, 3) := by decide +kernel
theorem dX11_plan_68 : decode cX11_plan 68 = .ok (.ifCond .eq 16, 3) := by decide +kernel
theorem dX11_plan_71 : decode cX11_plan 71 = .ok (.iload_n 1, 1) := by decide +kernel
theorem dX11_plan_72 : decode cX11_plan 72 = .ok (.iconst 3, 1) := by decide +kernel
theorem dX11_plan_73 : decode cX11_plan 73 = .ok (.if_icmp .ne 13, 3) := by decide +kernel
theorem dX11_plan_76 : decode cX11_plan 76 = .ok (.aload_n 0, 1) := by decide +kernel
theorem dX11_plan_77 : decode cX11_plan 77 = .ok (.iload_n 2, 1) := by decide +kernel
theorem dX11_plan_78 : decode cX11_plan 78 = .ok (.invokevirtual 131, 3) := by decide +kernel
theorem dX11_plan_81 : decode cX11_plan 81 = .ok (.ifCond .ne 5, 3) := by decide +kernel
theorem dX11_plan_84 : decode cX11_plan 84 = .ok (.iconst (-1), 1) := by decide +kernel
theorem dX11_plan_85 : decode cX11_plan 85 = .ok (.ireturn, 1) := by decide +kernel
theorem dX11_plan_86 : decode cX11_plan 86 = .ok (.aload_n 0, 1) := by decide +kernel
theorem dX11_plan_87 : decode cX11_plan 87 = .ok (.getfield 312, 3) := by decide +kernel
theorem dX11_plan_90 : decode cX11_plan 90 = .ok (.bipush 10, 2) := by decide +kernel
theorem dX11_plan_92 : decode cX11_plan 92 = .ok (.if_icmp .ne 6, 3) := by decide +kernel
theorem dX11_plan_95 : decode cX11_plan 95 = .ok (.bipush (-4), 2) := by decide +kernel
theorem dX11_plan_97 : decode cX11_plan 97 = .ok (.ireturn, 1) := by decide +kernel
theorem dX11_plan_98 : decode cX11_plan 98 = .ok (.aload_n 0, 1) := by decide +kernel
theorem dX11_plan_99 : decode cX11_plan 99 = .ok (.getfield 73, 3) := by decide +kernel
theorem dX11_plan_102 : decode cX11_plan 102 = .ok (.aload_n 0, 1) := by decide +kernel
theorem dX11_plan_103 : decode cX11_plan 103 = .ok (.getfield 312, 3) := by decide +kernel
theorem dX11_plan_106 : decode cX11_plan 106 = .ok (.iload_n 1, 1) := by decide +kernel
theorem dX11_plan_107 : decode cX11_plan 107 = .ok (.iastore, 1) := by decide +kernel
theorem dX11_plan_108 : decode cX11_plan 108 = .ok (.aload_n 0, 1) := by decide +kernel
theorem dX11_plan_109 : decode cX11_plan 109 = .ok (.getfield 76, 3) := by decide +kernel
theorem dX11_plan_112 : decode cX11_plan 112 = .ok (.aload_n 0, 1) := by decide +kernel
theorem dX11_plan_113 : decode cX11_plan 113 = .ok (.dup, 1) := by decide +kernel
theorem dX11_plan_114 : decode cX11_plan 114 = .ok (.getfield 312, 3) := by decide +kernel
theorem dX11_plan_117 : decode cX11_plan 117 = .ok (.dup_x1, 1) := by decide +kernel
theorem dX11_plan_118 : decode cX11_plan 118 = .ok (.iconst 1, 1) := by decide +kernel
theorem dX11_plan_119 : decode cX11_plan 119 = .ok (.iadd, 1) := by decide +kernel
theorem dX11_plan_120 : decode cX11_plan 120 = .ok (.putfield 312, 3) := by decide +kernel
theorem dX11_plan_123 : decode cX11_plan 123 = .ok (.iload_n 1, 1) := by decide +kernel
theorem dX11_plan_124 : decode cX11_plan 124 = .ok (.ifCond .ne 7, 3) := by decide +kernel
theorem dX11_plan_127 : decode cX11_plan 127 = .ok (.iconst 0, 1) := by decide +kernel
theorem dX11_plan_128 : decode cX11_plan 128 = .ok (.goto 4, 3) := by decide +kernel
theorem dX11_plan_131 : decode cX11_plan 131 = .ok (.iload_n 2, 1) := by decide +kernel
theorem dX11_plan_132 : decode cX11_plan 132 = .ok (.iastore, 1) := by decide +kernel
theorem dX11_plan_133 : decode cX11_plan 133 = .ok (.aload_n 0, 1) := by decide +kernel
theorem dX11_plan_134 : decode cX11_plan 134 = .ok (.getfield 312, 3) := by decide +kernel
theorem dX11_plan_137 : decode cX11_plan 137 = .ok (.ireturn, 1) := by decide +kernel
theorem dX11_ends_0 : decode cX11_ends 0 = .ok (.iload_n 1, 1) := by decide +kernel
theorem dX11_ends_1 : decode cX11_ends 1 = .ok (.iconst 0, 1) := by decide +kernel
theorem dX11_ends_2 : decode cX11_ends 2 = .ok (.iconst 1, 1) := by decide +kernel
theorem dX11_ends_3 : decode cX11_ends 3 = .ok (.invokestatic 117, 3) := by decide +kernel
theorem dX11_ends_6 : decode cX11_ends 6 = .ok (.ifCond .ne 5, 3) := by decide +kernel
theorem dX11_ends_9 : decode cX11_ends 9 = .ok (.iconst (-1), 1) := by decide +kernel
theorem dX11_ends_10 : decode cX11_ends 10 = .ok (.ireturn, 1) := by decide +kernel
theorem dX11_ends_11 : decode cX11_ends 11 = .ok (.aload_n 0, 1) := by decide +kernel
theorem dX11_ends_12 : decode cX11_ends 12 = .ok (.aload_n 0, 1) := by decide +kernel
theorem dX11_ends_13 : decode cX11_ends 13 = .ok (.getfield 91, 3) := by decide +kernel
theorem dX11_ends_16 : decode cX11_ends 16 = .ok (.invokevirtual 287, 3) := by decide +kernel
theorem dX11_ends_19 : decode cX11_ends 19 = .ok (.iconst 0, 1) := by decide +kernel
theorem dX11_ends_20 : decode cX11_ends 20 = .ok (.istore_n 2, 1) := by decide +kernel
theorem dX11_ends_21 : decode cX11_ends 21 = .ok (.iload_n 2, 1) := by decide +kernel
theorem dX11_ends_22 : decode cX11_ends 22 = .ok (.aload_n 0, 1) := by decide +kernel
theorem dX11_ends_23 : decode cX11_ends 23 = .ok (.getfield 312, 3) := by decide +kernel
theorem dX11_ends_26 : decode cX11_ends 26 = .ok (.if_icmp .ge 96, 3) := by decide +kernel
theorem dX11_ends_29 : decode cX11_ends 29 = .ok (.aload_n 0, 1) := by decide +kernel
theorem dX11_ends_30 : decode cX11_ends 30 = .ok (.getfield 76, 3) := by decide +kernel
theorem dX11_ends_33 : decode cX11_ends 33 = .ok (.iload_n 2, 1) := by decide +kernel
theorem dX11_ends_34 : decode cX11_ends 34 = .ok (.iaload, 1) := by decide +kernel
theorem dX11_ends_35 : decode cX11_ends 35 = .ok (.istore_n 3, 1) := by decide +kernel
theorem dX11_ends_36 : decode cX11_ends 36 = .ok (.aload_n 0, 1) := by decide +kernel
theorem dX11_ends_37 : decode cX11_ends 37 = .ok (.getfield 73, 3) := by decide +kernel
theorem dX11_ends_40 : decode cX11_ends 40 = .ok (.iload_n 2, 1) := by decide +kernel
theorem dX11_ends_41 : decode cX11_ends 41 = .ok (.iaload, 1) := by decide +kernel
theorem dX11_ends_42 : decode cX11_ends 42 = .ok (.ifCond .ne 10, 3) := by decide +kernel
theorem dX11_ends_45 : decode cX11_ends 45 = .ok (.aload_n 0, 1) := by decide +kernel
theorem dX11_ends_46 : decode cX11_ends 46 = .ok (.invokevirtual 284, 3) := by decide +kernel
theorem dX11_ends_49 : decode cX11_ends 49 = .ok (.goto 67, 3) := by decide +kernel
theorem dX11_ends_52 : decode cX11_ends 52 = .ok (.aload_n 0, 1) := by decide +kernel
theorem dX11_ends_53 : decode cX11_ends 53 = .ok (.getfield 73, 3) := by decide +kernel
theorem dX11_ends_56 : decode cX11_ends 56 = .ok (.iload_n 2, 1) := by decide +kernel
theorem dX11_ends_57 : decode cX11_ends 57 = .ok (.iaload, 1) := by decide +kernel
theorem dX11_ends_58 : decode cX11_ends 58 = .ok (.iconst 2, 1) := by decide +kernel
theorem dX11_ends_59 : decode cX11_ends 59 = .ok (.if_icmp .ne 13, 3) := by decide +kernel
theorem dX11_ends_62 : decode cX11_ends 62 = .ok (.aload_n 0, 1) := by decide +kernel
theorem dX11_ends_63 : decode cX11_ends 63 = .ok (.getfield 21, 3) := by decide +kernel
theorem dX11_ends_66 : decode cX11_ends 66 = .ok (.iload_n 3, 1) := by decide +kernel
theorem dX11_ends_67 : decode cX11_ends 67 = .ok (.iconst 0, 1) := by decide +kernel
theorem dX11_ends_68 : decode cX11_ends 68 = .ok (.iastore, 1) := by decide +kernel
theorem dX11_ends_69 : decode cX11_ends 69 = .ok (.goto 47, 3) := by decide +kernel
theorem dX11_ends_72 : decode cX11_ends 72 = .ok (.aload_n 0, 1) := by decide +kernel
theorem dX11_ends_73 : decode cX11_ends 73 = .ok (.getfield 73, 3) := by decide +kernel
theorem dX11_ends_76 : decode cX11_ends 76 = .ok (.iload_n 2, 1) := by decide +kernel
theorem dX11_ends_77 : decode cX11_ends 77 = .ok (.iaload, 1) := by decide +kernel
theorem dX11_ends_78 : decode cX11_ends 78 = .ok (.iconst 3, 1) := by decide +kernel
theorem dX11_ends_79 : decode cX11_ends 79 = .ok (.if_icmp .ne 13, 3) := by decide +kernel
theorem dX11_ends_82 : decode cX11_ends 82 = .ok (.aload_n 0, 1) := by decide +kernel
theorem dX11_ends_83 : decode cX11_ends 83 = .ok (.getfield 33, 3) := by decide +kernel
theorem dX11_ends_86 : decode cX11_ends 86 = .ok (.iload_n 3, 1) := by decide +kernel
theorem dX11_ends_87 : decode cX11_ends 87 = .ok (.iconst 0, 1) := by decide +kernel
theorem dX11_ends_88 : decode cX11_ends 88 = .ok (.iastore, 1) := by decide +kernel
theorem dX11_ends_89 : decode cX11_ends 89 = .ok (.goto 27, 3) := by decide +kernel
theorem dX11_ends_92 : decode cX11_ends 92 = .ok (.aload_n 0, 1) := by decide +kernel
theorem dX11_ends_93 : decode cX11_ends 93 = .ok (.getfield 33, 3) := by decide +kernel
theorem dX11_ends_96 : decode cX11_ends 96 = .ok (.iload_n 3, 1) := by decide +kernel
theorem dX11_ends_97 : decode cX11_ends 97 = .ok (.bipush 10, 2) := by decide +kernel
theorem dX11_ends_99 : decode cX11_ends 99 = .ok (.idiv, 1) := by decide +kernel
theorem dX11_ends_100 : decode cX11_ends 100 = .ok (.iaload, 1) := by decide +kernel
theorem dX11_ends_101 : decode cX11_ends 101 = .ok (.ifCond .ne 15, 3) := by decide +kernel
theorem dX11_ends_104 : decode cX11_ends 104 = .ok (.aload_n 0, 1) := by decide +kernel
theorem dX11_ends_105 : decode cX11_ends 105 = .ok (.iload_n 3, 1) := by decide +kernel
theorem dX11_ends_106 : decode cX11_ends 106 = .ok (.bipush 10, 2) := by decide +kernel
theorem dX11_ends_108 : decode cX11_ends 108 = .ok (.idiv, 1) := by decide +kernel
theorem dX11_ends_109 : decode cX11_ends 109 = .ok (.iload_n 3, 1) := by decide +kernel
theorem dX11_ends_110 : decode cX11_ends 110 = .ok (.bipush 10, 2) := by decide +kernel
theorem dX11_ends_112 : decode cX11_ends 112 = .ok (.irem, 1) := by decide +kernel
theorem dX11_ends_113 : decode cX11_ends 113 = .ok (.invokevirtual 148, 3) := by decide +kernel
theorem dX11_ends_116 : decode cX11_ends 116 = .ok (.iinc 2 1, 3) := by decide +kernel
theorem dX11_ends_119 : decode cX11_ends 119 = .ok (.goto (-98), 3) := by decide +kernel
theorem dX11_ends_122 : decode cX11_ends 122 = .ok (.iload_n 1, 1) := by decide +kernel
theorem dX11_ends_123 : decode cX11_ends 123 = .ok (.ifCond .ne 10, 3) := by decide +kernel
theorem dX11_ends_126 : decode cX11_ends 126 = .ok (.aload_n 0, 1) := by decide +kernel
theorem dX11_ends_127 : decode cX11_ends 127 = .ok (.invokevirtual 269, 3) := by decide +kernel
theorem dX11_ends_130 : decode cX11_ends 130 = .ok (.goto 11, 3) := by decide +kernel
theorem dX11_ends_133 : decode cX11_ends 133 = .ok (.aload_n 0, 1) := by decide +kernel
theorem dX11_ends_134 : decode cX11_ends 134 = .ok (.iconst 2, 1) := by decide +kernel
theorem dX11_ends_135 : decode cX11_ends 135 = .ok (.invokevirtual 272, 3) := by decide +kernel
theorem dX11_ends_138 : decode cX11_ends 138 = .ok (.invokestatic 230, 3) := by decide +kernel
theorem dX11_ends_141 : decode cX11_ends 141 = .ok (.istore_n 2, 1) := by decide +kernel
theorem dX11_ends_142 : decode cX11_ends 142 = .ok (.aload_n 0, 1) := by decide +kernel
theorem dX11_ends_143 : decode cX11_ends 143 = .ok (.aload_n 0, 1) := by decide +kernel
theorem dX11_ends_144 : decode cX11_ends 144 = .ok (.getfield 91, 3) := by decide +kernel
theorem dX11_ends_147 : decode cX11_ends 147 = .ok (.invokevirtual 291, 3) := by decide +kernel
theorem dX11_ends_150 : decode cX11_ends 150 = .ok (.iload_n 2, 1) := by decide +kernel
theorem dX11_ends_151 : decode cX11_ends 151 = .ok (.ireturn, 1) := by decide +kernel
theorem dX11_book_0 : decode cX11_book 0 = .ok (.iload_n 1, 1) := by decide +kernel
theorem dX11_book_1 : decode cX11_book 1 = .ok (.iconst (-1), 1) := by decide +kernel
theorem dX11_book_2 : decode cX11_book 2 = .ok (.if_icmp .ne 10, 3) := by decide +kernel
theorem dX11_book_5 : decode cX11_book 5 = .ok (.aload_n 0, 1) := by decide +kernel
theorem dX11_book_6 : decode cX11_book 6 = .ok (.iconst 0, 1) := by decide +kernel
theorem dX11_book_7 : decode cX11_book 7 = .ok (.putfield 315, 3) := by decide +kernel
theorem dX11_book_10 : decode cX11_book 10 = .ok (.iconst 0, 1) := by decide +kernel
theorem dX11_book_11 : decode cX11_book 11 = .ok (.ireturn, 1) := by decide +kernel
theorem dX11_book_12 : decode cX11_book 12 = .ok (.aload_n 0, 1) := by decide +kernel
theorem dX11_book_13 : decode cX11_book 13 = .ok (.iload_n 1, 1) := by decide +kernel
theorem dX11_book_14 : decode cX11_book 14 = .ok (.invokevirtual 131, 3) := by decide +kernel
theorem dX11_book_17 : decode cX11_book 17 = .ok (.ifCond .ne 5, 3) := by decide +kernel
theorem dX11_book_20 : decode cX11_book 20 = .ok (.iconst (-1), 1) := by decide +kernel
theorem dX11_book_21 : decode cX11_book 21 = .ok (.ireturn, 1) := by decide +kernel
theorem dX11_book_22 : decode cX11_book 22 = .ok (.iload_n 2, 1) := by decide +kernel
theorem dX11_book_23 : decode cX11_book 23 = .ok (.iconst 0, 1) := by decide +kernel
theorem dX11_book_24 : decode cX11_book 24 = .ok (.bipush 99, 2) := by decide +kernel
theorem dX11_book_26 : decode cX11_book 26 = .ok (.invokestatic 117, 3) := by decide +kernel
theorem dX11_book_29 : decode cX11_book 29 = .ok (.ifCond .ne 6, 3) := by decide +kernel
theorem dX11_book_32 : decode cX11_book 32 = .ok (.bipush (-2), 2) := by decide +kernel
theorem dX11_book_34 : decode cX11_book 34 = .ok (.ireturn, 1) := by decide +kernel
theorem dX11_book_35 : decode cX11_book 35 = .ok (.aload_n 0, 1) := by decide +kernel
theorem dX11_book_36 : decode cX11_book 36 = .ok (.getfield 315, 3) := by decide +kernel
theorem dX11_book_39 : decode cX11_book 39 = .ok (.bipush 8, 2) := by decide +kernel
theorem dX11_book_41 : decode cX11_book 41 = .ok (.if_icmp .ne 6, 3) := by decide +kernel
theorem dX11_book_44 : decode cX11_book 44 = .ok (.bipush (-4), 2) := by decide +kernel
theorem dX11_book_46 : decode cX11_book 46 = .ok (.ireturn, 1) := by decide +kernel
theorem dX11_book_47 : decode cX11_book 47 = .ok (.aload_n 0, 1) := by decide +kernel
theorem dX11_book_48 : decode cX11_book 48 = .ok (.getfield 79, 3) := by decide +kernel
theorem dX11_book_51 : decode cX11_book 51 = .ok (.aload_n 0, 1) := by decide +kernel
theorem dX11_book_52 : decode cX11_book 52 = .ok (.getfield 315, 3) := by decide +kernel
theorem dX11_book_55 : decode cX11_book 55 = .ok (.iload_n 1, 1) := by decide +kernel
theorem dX11_book_56 : decode cX11_book 56 = .ok (.iastore, 1) := by decide +kernel
theorem dX11_book_57 : decode cX11_book 57 = .ok (.aload_n 0, 1) := by decide +kernel
theorem dX11_book_58 : decode cX11_book 58 = .ok (.getfield 82, 3) := by decide +kernel
theorem dX11_book_61 : decode cX11_book 61 = .ok (.aload_n 0, 1) := by decide +kernel
theorem dX11_book_62 : decode cX11_book 62 = .ok (.dup, 1) := by decide +kernel
theorem dX11_book_63 : decode cX11_book 63 = .ok (.getfield 315, 3) := by decide +kernel
theorem dX11_book_66 : decode cX11_book 66 = .ok (.dup_x1, 1) := by decide +kernel
theorem dX11_book_67 : decode cX11_book 67 = .ok (.iconst 1, 1) := by decide +kernel
theorem dX11_book_68 : decode cX11_book 68 = .ok (.iadd, 1) := by decide +kernel
theorem dX11_book_69 : decode cX11_book 69 = .ok (.putfield 315, 3) := by decide +kernel
theorem dX11_book_72 : decode cX11_book 72 = .ok (.iload_n 2, 1) := by decide +kernel
theorem dX11_book_73 : decode cX11_book 73 = .ok (.iastore, 1) := by decide +kernel
theorem dX11_book_74 : decode cX11_book 74 = .ok (.aload_n 0, 1) := by decide +kernel
theorem dX11_book_75 : decode cX11_book 75 = .ok (.getfield 315, 3) := by decide +kernel
theorem dX11_book_78 : decode cX11_book 78 = .ok (.ireturn, 1) := by decide +kernel
theorem dX11_looked_0 : decode cX11_looked 0 = .ok (.iconst 0, 1) := by decide +kernel
theorem dX11_looked_1 : decode cX11_looked 1 = .ok (.istore_n 1, 1) := by decide +kernel
theorem dX11_looked_2 : decode cX11_looked 2 = .ok (.iload_n 1, 1) := by decide +kernel
theorem dX11_looked_3 : decode cX11_looked 3 = .ok (.aload_n 0, 1) := by decide +kernel
theorem dX11_looked_4 : decode cX11_looked 4 = .ok (.getfield 315, 3) := by decide +kernel
theorem dX11_looked_7 : decode cX11_looked 7 = .ok (.if_icmp .ge 31, 3) := by decide +kernel
theorem dX11_looked_10 : decode cX11_looked 10 = .ok (.aload_n 0, 1) := by decide +kernel
theorem dX11_looked_11 : decode cX11_looked 11 = .ok (.getfield 30, 3) := by decide +kernel
theorem dX11_looked_14 : decode cX11_looked 14 = .ok (.aload_n 0, 1) := by decide +kernel
theorem dX11_looked_15 : decode cX11_looked 15 = .ok (.getfield 79, 3) := by decide +kernel
theorem dX11_looked_18 : decode cX11_looked 18 = .ok (.iload_n 1, 1) := by decide +kernel
theorem dX11_looked_19 : decode cX11_looked 19 = .ok (.iaload, 1) := by decide +kernel
theorem dX11_looked_20 : decode cX11_looked 20 = .ok (.iaload, 1) := by decide +kernel
theorem dX11_looked_21 : decode cX11_looked 21 = .ok (.aload_n 0, 1) := by decide +kernel
theorem dX11_looked_22 : decode cX11_looked 22 = .ok (.getfield 82, 3) := by decide +kernel
theorem dX11_looked_25 : decode cX11_looked 25 = .ok (.iload_n 1, 1) := by decide +kernel
theorem dX11_looked_26 : decode cX11_looked 26 = .ok (.iaload, 1) := by decide +kernel
theorem dX11_looked_27 : decode cX11_looked 27 = .ok (.if_icmp .eq 5, 3) := by decide +kernel
theorem dX11_looked_30 : decode cX11_looked 30 = .ok (.iload_n 1, 1) := by decide +kernel
theorem dX11_looked_31 : decode cX11_looked 31 = .ok (.ireturn, 1) := by decide +kernel
theorem dX11_looked_32 : decode cX11_looked 32 = .ok (.iinc 1 1, 3) := by decide +kernel
theorem dX11_looked_35 : decode cX11_looked 35 = .ok (.goto (-33), 3) := by decide +kernel
theorem dX11_looked_38 : decode cX11_looked 38 = .ok (.bipush (-5), 2) := by decide +kernel
theorem dX11_looked_40 : decode cX11_looked 40 = .ok (.ireturn, 1) := by decide +kernel
theorem dX11_judge_0 : decode cX11_judge 0 = .ok (.iload_n 1, 1) := by decide +kernel
theorem dX11_judge_1 : decode cX11_judge 1 = .ok (.iconst 0, 1) := by decide +kernel
theorem dX11_judge_2 : decode cX11_judge 2 = .ok (.iconst 5, 1) := by decide +kernel
theorem dX11_judge_3 : decode cX11_judge 3 = .ok (.invokestatic 117, 3) := by decide +kernel
theorem dX11_judge_6 : decode cX11_judge 6 = .ok (.ifCond .ne 5, 3) := by decide +kernel
theorem dX11_judge_9 : decode cX11_judge 9 = .ok (.iconst (-1), 1) := by decide +kernel
theorem dX11_judge_10 : decode cX11_judge 10 = .ok (.ireturn, 1) := by decide +kernel
theorem dX11_judge_11 : decode cX11_judge 11 = .ok (.aload_n 0, 1) := by decide +kernel
theorem dX11_judge_12 : decode cX11_judge 12 = .ok (.getfield 100, 3) := by decide +kernel
theorem dX11_judge_15 : decode cX11_judge 15 = .ok (.iload_n 1, 1) := by decide +kernel
theorem dX11_judge_16 : decode cX11_judge 16 = .ok (.iaload, 1) := by decide +kernel
theorem dX11_judge_17 : decode cX11_judge 17 = .ok (.iconst (-1), 1) := by decide +kernel
theorem dX11_judge_18 : decode cX11_judge 18 = .ok (.if_icmp .eq 16, 3) := by decide +kernel
theorem dX11_judge_21 : decode cX11_judge 21 = .ok (.aload_n 0, 1) := by decide +kernel
theorem dX11_judge_22 : decode cX11_judge 22 = .ok (.getfield 100, 3) := by decide +kernel
theorem dX11_judge_25 : decode cX11_judge 25 = .ok (.iload_n 1, 1) := by decide +kernel
theorem dX11_judge_26 : decode cX11_judge 26 = .ok (.iaload, 1) := by decide +kernel
theorem dX11_judge_27 : decode cX11_judge 27 = .ok (.iconst 1, 1) := by decide +kernel
theorem dX11_judge_28 : decode cX11_judge 28 = .ok (.if_icmp .eq 6, 3) := by decide +kernel
theorem dX11_judge_31 : decode cX11_judge 31 = .ok (.bipush (-12), 2) := by decide +kernel
theorem dX11_judge_33 : decode cX11_judge 33 = .ok (.ireturn, 1) := by decide +kernel
theorem dX11_judge_34 : decode cX11_judge 34 = .ok (.iconst 0, 1) := by decide +kernel
theorem dX11_judge_35 : decode cX11_judge 35 = .ok (.istore_n 3, 1) := by decide +kernel
theorem dX11_judge_36 : decode cX11_judge 36 = .ok (.iload_n 3, 1) := by decide +kernel
theorem dX11_judge_37 : decode cX11_judge 37 = .ok (.aload_n 0, 1) := by decide +kernel
theorem dX11_judge_38 : decode cX11_judge 38 = .ok (.getfield 114, 3) := by decide +kernel
theorem dX11_judge_41 : decode cX11_judge 41 = .ok (.if_icmp .ge 70, 3) := by decide +kernel
theorem dX11_judge_44 : decode cX11_judge 44 = .ok (.aload_n 0, 1) := by decide +kernel
theorem dX11_judge_45 : decode cX11_judge 45 = .ok (.getfield 100, 3) := by decide +kernel
theorem dX11_judge_48 : decode cX11_judge 48 = .ok (.iload_n 1, 1) := by decide +kernel
theorem dX11_judge_49 : decode cX11_judge 49 = .ok (.iaload, 1) := by decide +kernel
theorem dX11_judge_50 : decode cX11_judge 50 = .ok (.iconst (-1), 1) := by decide +kernel
theorem dX11_judge_51 : decode cX11_judge 51 = .ok (.if_icmp .eq 23, 3) := by decide +kernel
theorem dX11_judge_54 : decode cX11_judge 54 = .ok (.iload_n 2, 1) := by decide +kernel
theorem dX11_judge_55 : decode cX11_judge 55 = .ok (.ifCond .lt 19, 3) := by decide +kernel
theorem dX11_judge_58 : decode cX11_judge 58 = .ok (.iload_n 2, 1) := by decide +kernel
theorem dX11_judge_59 : decode cX11_judge 59 = .ok (.i2l, 1) := by decide +kernel
theorem dX11_judge_60 : decode cX11_judge 60 = .ok (.iload_n 3, 1) := by decide +kernel
theorem dX11_judge_61 : decode cX11_judge 61 = .ok (.i2l, 1) := by decide +kernel
theorem dX11_judge_62 : decode cX11_judge 62 = .ok (.ladd, 1) := by decide +kernel
theorem dX11_judge_63 : decode cX11_judge 63 = .ok (.aload_n 0, 1) := by decide +kernel
theorem dX11_judge_64 : decode cX11_judge 64 = .ok (.getfield 103, 3) := by decide +kernel
theorem dX11_judge_67 : decode cX11_judge 67 = .ok (.iload_n 1, 1) := by decide +kernel
theorem dX11_judge_68 : decode cX11_judge 68 = .ok (.iaload, 1) := by decide +kernel
theorem dX11_judge_69 : decode cX11_judge 69 = .ok (.i2l, 1) := by decide +kernel
theorem dX11_judge_70 : decode cX11_judge 70 = .ok (.lcmp, 1) := by decide +kernel
theorem dX11_judge_71 : decode cX11_judge 71 = .ok (.ifCond .lt 8, 3) := by decide +kernel
theorem dX11_judge_74 : decode cX11_judge 74 = .ok (.bipush 100, 2) := by decide +kernel
theorem dX11_judge_76 : decode cX11_judge 76 = .ok (.iload_n 3, 1) := by decide +kernel
theorem dX11_judge_77 : decode cX11_judge 77 = .ok (.iadd, 1) := by decide +kernel
theorem dX11_judge_78 : decode cX11_judge 78 = .ok (.ireturn, 1) := by decide +kernel
theorem dX11_judge_79 : decode cX11_judge 79 = .ok (.aload_n 0, 1) := by decide +kernel
theorem dX11_judge_80 : decode cX11_judge 80 = .ok (.getfield 106, 3) := by decide +kernel
theorem dX11_judge_83 : decode cX11_judge 83 = .ok (.bipush 60, 2) := by decide +kernel
theorem dX11_judge_85 : decode cX11_judge 85 = .ok (.iload_n 1, 1) := by decide +kernel
theorem dX11_judge_86 : decode cX11_judge 86 = .ok (.imul, 1) := by decide +kernel
theorem dX11_judge_87 : decode cX11_judge 87 = .ok (.iload_n 2, 1) := by decide +kernel
theorem dX11_judge_88 : decode cX11_judge 88 = .ok (.iadd, 1) := by decide +kernel
theorem dX11_judge_89 : decode cX11_judge 89 = .ok (.iload_n 3, 1) := by decide +kernel
theorem dX11_judge_90 : decode cX11_judge 90 = .ok (.iadd, 1) := by decide +kernel
theorem dX11_judge_91 : decode cX11_judge 91 = .ok (.laload, 1) := by decide +kernel
theorem dX11_judge_92 : decode cX11_judge 92 = .ok (.aload_n 0, 1) := by decide +kernel
theorem dX11_judge_93 : decode cX11_judge 93 = .ok (.getfield 18, 3) := by decide +kernel
theorem dX11_judge_96 : decode cX11_judge 96 = .ok (.iload_n 3, 1) := by decide +kernel
theorem dX11_judge_97 : decode cX11_judge 97 = .ok (.iaload, 1) := by decide +kernel
theorem dX11_judge_98 : decode cX11_judge 98 = .ok (.i2l, 1) := by decide +kernel
theorem dX11_judge_99 : decode cX11_judge 99 = .ok (.lcmp, 1) := by decide +kernel
theorem dX11_judge_100 : decode cX11_judge 100 = .ok (.ifCond .eq 5, 3) := by decide +kernel
theorem dX11_judge_103 : decode cX11_judge 103 = .ok (.iload_n 3, 1) := by decide +kernel
theorem dX11_judge_104 : decode cX11_judge 104 = .ok (.ireturn, 1) := by decide +kernel
theorem dX11_judge_105 : decode cX11_judge 105 = .ok (.iinc 3 1, 3) := by decide +kernel
theorem dX11_judge_108 : decode cX11_judge 108 = .ok (.goto (-72), 3) := by decide +kernel
theorem dX11_judge_111 : decode cX11_judge 111 = .ok (.bipush (-5), 2) := by decide +kernel
theorem dX11_judge_113 : decode cX11_judge 113 = .ok (.ireturn, 1) := by decide +kernel
theorem dX11_keep_0 : decode cX11_keep 0 = .ok (.iconst 0, 1) := by decide +kernel
theorem dX11_keep_1 : decode cX11_keep 1 = .ok (.istore_n 2, 1) := by decide +kernel
theorem dX11_keep_2 : decode cX11_keep 2 = .ok (.iload_n 2, 1) := by decide +kernel
theorem dX11_keep_3 : decode cX11_keep 3 = .ok (.bipush 6, 2) := by decide +kernel
theorem dX11_keep_5 : decode cX11_keep 5 = .ok (.if_icmp .ge 102, 3) := by decide +kernel
theorem dX11_keep_8 : decode cX11_keep 8 = .ok (.aload_n 1, 1) := by decide +kernel
theorem dX11_keep_9 : decode cX11_keep 9 = .ok (.iload_n 2, 1) := by decide +kernel
theorem dX11_keep_10 : decode cX11_keep 10 = .ok (.aload_n 0, 1) := by decide +kernel
theorem dX11_keep_11 : decode cX11_keep 11 = .ok (.getfield 9, 3) := by decide +kernel
theorem dX11_keep_14 : decode cX11_keep 14 = .ok (.iload_n 2, 1) := by decide +kernel
theorem dX11_keep_15 : decode cX11_keep 15 = .ok (.iaload, 1) := by decide +kernel
theorem dX11_keep_16 : decode cX11_keep 16 = .ok (.iastore, 1) := by decide +kernel
theorem dX11_keep_17 : decode cX11_keep 17 = .ok (.aload_n 1, 1) := by decide +kernel
theorem dX11_keep_18 : decode cX11_keep 18 = .ok (.bipush 6, 2) := by decide +kernel
theorem dX11_keep_20 : decode cX11_keep 20 = .ok (.iload_n 2, 1) := by decide +kernel
theorem dX11_keep_21 : decode cX11_keep 21 = .ok (.iadd, 1) := by decide +kernel
theorem dX11_keep_22 : decode cX11_keep 22 = .ok (.aload_n 0, 1) := by decide +kernel
theorem dX11_keep_23 : decode cX11_keep 23 = .ok (.getfield 15, 3) := by decide +kernel
theorem dX11_keep_26 : decode cX11_keep 26 = .ok (.iload_n 2, 1) := by decide +kernel
theorem dX11_keep_27 : decode cX11_keep 27 = .ok (.iaload, 1) := by decide +kernel
theorem dX11_keep_28 : decode cX11_keep 28 = .ok (.iastore, 1) := by decide +kernel
theorem dX11_keep_29 : decode cX11_keep 29 = .ok (.aload_n 1, 1) := by decide +kernel
theorem dX11_keep_30 : decode cX11_keep 30 = .ok (.bipush 12, 2) := by decide +kernel
theorem dX11_keep_32 : decode cX11_keep 32 = .ok (.iload_n 2, 1) := by decide +kernel
theorem dX11_keep_33 : decode cX11_keep 33 = .ok (.iadd, 1) := by decide +kernel
theorem dX11_keep_34 : decode cX11_keep 34 = .ok (.aload_n 0, 1) := by decide +kernel
theorem dX11_keep_35 : decode cX11_keep 35 = .ok (.getfield 18, 3) := by decide +kernel
theorem dX11_keep_38 : decode cX11_keep 38 = .ok (.iload_n 2, 1) := by decide +kernel
theorem dX11_keep_39 : decode cX11_keep 39 = .ok (.iaload, 1) := by decide +kernel
theorem dX11_keep_40 : decode cX11_keep 40 = .ok (.iastore, 1) := by decide +kernel
theorem dX11_keep_41 : decode cX11_keep 41 = .ok (.aload_n 1, 1) := by decide +kernel
theorem dX11_keep_42 : decode cX11_keep 42 = .ok (.bipush 18, 2) := by decide +kernel
theorem dX11_keep_44 : decode cX11_keep 44 = .ok (.iload_n 2, 1) := by decide +kernel
theorem dX11_keep_45 : decode cX11_keep 45 = .ok (.iadd, 1) := by decide +kernel
theorem dX11_keep_46 : decode cX11_keep 46 = .ok (.aload_n 0, 1) := by decide +kernel
theorem dX11_keep_47 : decode cX11_keep 47 = .ok (.getfield 21, 3) := by decide +kernel
theorem dX11_keep_50 : decode cX11_keep 50 = .ok (.iload_n 2, 1) := by decide +kernel
theorem dX11_keep_51 : decode cX11_keep 51 = .ok (.iaload, 1) := by decide +kernel
theorem dX11_keep_52 : decode cX11_keep 52 = .ok (.iastore, 1) := by decide +kernel
theorem dX11_keep_53 : decode cX11_keep 53 = .ok (.aload_n 1, 1) := by decide +kernel
theorem dX11_keep_54 : decode cX11_keep 54 = .ok (.bipush 24, 2) := by decide +kernel
theorem dX11_keep_56 : decode cX11_keep 56 = .ok (.iload_n 2, 1) := by decide +kernel
theorem dX11_keep_57 : decode cX11_keep 57 = .ok (.iadd, 1) := by decide +kernel
theorem dX11_keep_58 : decode cX11_keep 58 = .ok (.aload_n 0, 1) := by decide +kernel
theorem dX11_keep_59 : decode cX11_keep 59 = .ok (.getfield 27, 3) := by decide +kernel
theorem dX11_keep_62 : decode cX11_keep 62 = .ok (.iload_n 2, 1) := by decide +kernel
theorem dX11_keep_63 : decode cX11_keep 63 = .ok (.iaload, 1) := by decide +kernel
theorem dX11_keep_64 : decode cX11_keep 64 = .ok (.iastore, 1) := by decide +kernel
theorem dX11_keep_65 : decode cX11_keep 65 = .ok (.aload_n 1, 1) := by decide +kernel
theorem dX11_keep_66 : decode cX11_keep 66 = .ok (.bipush 30, 2) := by decide +kernel
theorem dX11_keep_68 : decode cX11_keep 68 = .ok (.iload_n 2, 1) := by decide +kernel
theorem dX11_keep_69 : decode cX11_keep 69 = .ok (.iadd, 1) := by decide +kernel
theorem dX11_keep_70 : decode cX11_keep 70 = .ok (.aload_n 0, 1) := by decide +kernel
theorem dX11_keep_71 : decode cX11_keep 71 = .ok (.getfield 30, 3) := by decide +kernel
theorem dX11_keep_74 : decode cX11_keep 74 = .ok (.iload_n 2, 1) := by decide +kernel
theorem dX11_keep_75 : decode cX11_keep 75 = .ok (.iaload, 1) := by decide +kernel
theorem dX11_keep_76 : decode cX11_keep 76 = .ok (.iastore, 1) := by decide +kernel
theorem dX11_keep_77 : decode cX11_keep 77 = .ok (.aload_n 1, 1) := by decide +kernel
theorem dX11_keep_78 : decode cX11_keep 78 = .ok (.bipush 36, 2) := by decide +kernel
theorem dX11_keep_80 : decode cX11_keep 80 = .ok (.iload_n 2, 1) := by decide +kernel
theorem dX11_keep_81 : decode cX11_keep 81 = .ok (.iadd, 1) := by decide +kernel
theorem dX11_keep_82 : decode cX11_keep 82 = .ok (.aload_n 0, 1) := by decide +kernel
theorem dX11_keep_83 : decode cX11_keep 83 = .ok (.getfield 33, 3) := by decide +kernel
theorem dX11_keep_86 : decode cX11_keep 86 = .ok (.iload_n 2, 1) := by decide +kernel
theorem dX11_keep_87 : decode cX11_keep 87 = .ok (.iaload, 1) := by decide +kernel
theorem dX11_keep_88 : decode cX11_keep 88 = .ok (.iastore, 1) := by decide +kernel
theorem dX11_keep_89 : decode cX11_keep 89 = .ok (.aload_n 1, 1) := by decide +kernel
theorem dX11_keep_90 : decode cX11_keep 90 = .ok (.bipush 42, 2) := by decide +kernel
theorem dX11_keep_92 : decode cX11_keep 92 = .ok (.iload_n 2, 1) := by decide +kernel
theorem dX11_keep_93 : decode cX11_keep 93 = .ok (.iadd, 1) := by decide +kernel
theorem dX11_keep_94 : decode cX11_keep 94 = .ok (.aload_n 0, 1) := by decide +kernel
theorem dX11_keep_95 : decode cX11_keep 95 = .ok (.getfield 36, 3) := by decide +kernel
theorem dX11_keep_98 : decode cX11_keep 98 = .ok (.iload_n 2, 1) := by decide +kernel
theorem dX11_keep_99 : decode cX11_keep 99 = .ok (.iaload, 1) := by decide +kernel
theorem dX11_keep_100 : decode cX11_keep 100 = .ok (.iastore, 1) := by decide +kernel
theorem dX11_keep_101 : decode cX11_keep 101 = .ok (.iinc 2 1, 3) := by decide +kernel
theorem dX11_keep_104 : decode cX11_keep 104 = .ok (.goto (-102), 3) := by decide +kernel
theorem dX11_keep_107 : decode cX11_keep 107 = .ok (.iconst 0, 1) := by decide +kernel
theorem dX11_keep_108 : decode cX11_keep 108 = .ok (.istore_n 2, 1) := by decide +kernel
theorem dX11_keep_109 : decode cX11_keep 109 = .ok (.iload_n 2, 1) := by decide +kernel
theorem dX11_keep_110 : decode cX11_keep 110 = .ok (.bipush 24, 2) := by decide +kernel
theorem dX11_keep_112 : decode cX11_keep 112 = .ok (.if_icmp .ge 21, 3) := by decide +kernel
theorem dX11_keep_115 : decode cX11_keep 115 = .ok (.aload_n 1, 1) := by decide +kernel
theorem dX11_keep_116 : decode cX11_keep 116 = .ok (.bipush 48, 2) := by decide +kernel
theorem dX11_keep_118 : decode cX11_keep 118 = .ok (.iload_n 2, 1) := by decide +kernel
theorem dX11_keep_119 : decode cX11_keep 119 = .ok (.iadd, 1) := by decide +kernel
theorem dX11_keep_120 : decode cX11_keep 120 = .ok (.aload_n 0, 1) := by decide +kernel
theorem dX11_keep_121 : decode cX11_keep 121 = .ok (.getfield 24, 3) := by decide +kernel
theorem dX11_keep_124 : decode cX11_keep 124 = .ok (.iload_n 2, 1) := by decide +kernel
theorem dX11_keep_125 : decode cX11_keep 125 = .ok (.iaload, 1) := by decide +kernel
theorem dX11_keep_126 : decode cX11_keep 126 = .ok (.iastore, 1) := by decide +kernel
theorem dX11_keep_127 : decode cX11_keep 127 = .ok (.iinc 2 1, 3) := by decide +kernel
theorem dX11_keep_130 : decode cX11_keep 130 = .ok (.goto (-21), 3) := by decide +kernel
theorem dX11_keep_133 : decode cX11_keep 133 = .ok (.iconst 0, 1) := by decide +kernel
theorem dX11_keep_134 : decode cX11_keep 134 = .ok (.istore_n 2, 1) := by decide +kernel
theorem dX11_keep_135 : decode cX11_keep 135 = .ok (.iload_n 2, 1) := by decide +kernel
theorem dX11_keep_136 : decode cX11_keep 136 = .ok (.iconst 5, 1) := by decide +kernel
theorem dX11_keep_137 : decode cX11_keep 137 = .ok (.if_icmp .ge 45, 3) := by decide +kernel
theorem dX11_keep_140 : decode cX11_keep 140 = .ok (.aload_n 1, 1) := by decide +kernel
theorem dX11_keep_141 : decode cX11_keep 141 = .ok (.bipush 72, 2) := by decide +kernel
theorem dX11_keep_143 : decode cX11_keep 143 = .ok (.iload_n 2, 1) := by decide +kernel
theorem dX11_keep_144 : decode cX11_keep 144 = .ok (.iadd, 1) := by decide +kernel
theorem dX11_keep_145 : decode cX11_keep 145 = .ok (.aload_n 0, 1) := by decide +kernel
theorem dX11_keep_146 : decode cX11_keep 146 = .ok (.getfield 64, 3) := by decide +kernel
theorem dX11_keep_149 : decode cX11_keep 149 = .ok (.iload_n 2, 1) := by decide +kernel
theorem dX11_keep_150 : decode cX11_keep 150 = .ok (.iaload, 1) := by decide +kernel
theorem dX11_keep_151 : decode cX11_keep 151 = .ok (.iastore, 1) := by decide +kernel
theorem dX11_keep_152 : decode cX11_keep 152 = .ok (.aload_n 1, 1) := by decide +kernel
theorem dX11_keep_153 : decode cX11_keep 153 = .ok (.bipush 77, 2) := by decide +kernel
theorem dX11_keep_155 : decode cX11_keep 155 = .ok (.iload_n 2, 1) := by decide +kernel
theorem dX11_keep_156 : decode cX11_keep 156 = .ok (.iadd, 1) := by decide +kernel
theorem dX11_keep_157 : decode cX11_keep 157 = .ok (.aload_n 0, 1) := by decide +kernel
theorem dX11_keep_158 : decode cX11_keep 158 = .ok (.getfield 67, 3) := by decide +kernel
theorem dX11_keep_161 : decode cX11_keep 161 = .ok (.iload_n 2, 1) := by decide +kernel
theorem dX11_keep_162 : decode cX11_keep 162 = .ok (.iaload, 1) := by decide +kernel
theorem dX11_keep_163 : decode cX11_keep 163 = .ok (.iastore, 1) := by decide +kernel
theorem dX11_keep_164 : decode cX11_keep 164 = .ok (.aload_n 1, 1) := by decide +kernel
theorem dX11_keep_165 : decode cX11_keep 165 = .ok (.bipush 82, 2) := by decide +kernel
theorem dX11_keep_167 : decode cX11_keep 167 = .ok (.iload_n 2, 1) := by decide +kernel
theorem dX11_keep_168 : decode cX11_keep 168 = .ok (.iadd, 1) := by decide +kernel
theorem dX11_keep_169 : decode cX11_keep 169 = .ok (.aload_n 0, 1) := by decide +kernel
theorem dX11_keep_170 : decode cX11_keep 170 = .ok (.getfield 70, 3) := by decide +kernel
theorem dX11_keep_173 : decode cX11_keep 173 = .ok (.iload_n 2, 1) := by decide +kernel
theorem dX11_keep_174 : decode cX11_keep 174 = .ok (.iaload, 1) := by decide +kernel
theorem dX11_keep_175 : decode cX11_keep 175 = .ok (.iastore, 1) := by decide +kernel
theorem dX11_keep_176 : decode cX11_keep 176 = .ok (.iinc 2 1, 3) := by decide +kernel
theorem dX11_keep_179 : decode cX11_keep 179 = .ok (.goto (-44), 3) := by decide +kernel
theorem dX11_keep_182 : decode cX11_keep 182 = .ok (.iconst 0, 1) := by decide +kernel
theorem dX11_keep_183 : decode cX11_keep 183 = .ok (.istore_n 2, 1) := by decide +kernel
theorem dX11_keep_184 : decode cX11_keep 184 = .ok (.iload_n 2, 1) := by decide +kernel
theorem dX11_keep_185 : decode cX11_keep 185 = .ok (.bipush 10, 2) := by decide +kernel
theorem dX11_keep_187 : decode cX11_keep 187 = .ok (.if_icmp .ge 33, 3) := by decide +kernel
theorem dX11_keep_190 : decode cX11_keep 190 = .ok (.aload_n 1, 1) := by decide +kernel
theorem dX11_keep_191 : decode cX11_keep 191 = .ok (.bipush 87, 2) := by decide +kernel
theorem dX11_keep_193 : decode cX11_keep 193 = .ok (.iload_n 2, 1) := by decide +kernel
theorem dX11_keep_194 : decode cX11_keep 194 = .ok (.iadd, 1) := by decide +kernel
theorem dX11_keep_195 : decode cX11_keep 195 = .ok (.aload_n 0, 1) := by decide +kernel
theorem dX11_keep_196 : decode cX11_keep 196 = .ok (.getfield 73, 3) := by decide +kernel
theorem dX11_keep_199 : decode cX11_keep 199 = .ok (.iload_n 2, 1) := by decide +kernel
theorem dX11_keep_200 : decode cX11_keep 200 = .ok (.iaload, 1) := by decide +kernel
theorem dX11_keep_201 : decode cX11_keep 201 = .ok (.iastore, 1) := by decide +kernel
theorem dX11_keep_202 : decode cX11_keep 202 = .ok (.aload_n 1, 1) := by decide +kernel
theorem dX11_keep_203 : decode cX11_keep 203 = .ok (.bipush 97, 2) := by decide +kernel
theorem dX11_keep_205 : decode cX11_keep 205 = .ok (.iload_n 2, 1) := by decide +kernel
theorem dX11_keep_206 : decode cX11_keep 206 = .ok (.iadd, 1) := by decide +kernel
theorem dX11_keep_207 : decode cX11_keep 207 = .ok (.aload_n 0, 1) := by decide +kernel
theorem dX11_keep_208 : decode cX11_keep 208 = .ok (.getfield 76, 3) := by decide +kernel
theorem dX11_keep_211 : decode cX11_keep 211 = .ok (.iload_n 2, 1) := by decide +kernel
theorem dX11_keep_212 : decode cX11_keep 212 = .ok (.iaload, 1) := by decide +kernel
theorem dX11_keep_213 : decode cX11_keep 213 = .ok (.iastore, 1) := by decide +kernel
theorem dX11_keep_214 : decode cX11_keep 214 = .ok (.iinc 2 1, 3) := by decide +kernel
theorem dX11_keep_217 : decode cX11_keep 217 = .ok (.goto (-33), 3) := by decide +kernel
theorem dX11_keep_220 : decode cX11_keep 220 = .ok (.iconst 0, 1) := by decide +kernel
theorem dX11_keep_221 : decode cX11_keep 221 = .ok (.istore_n 2, 1) := by decide +kernel
theorem dX11_keep_222 : decode cX11_keep 222 = .ok (.iload_n 2, 1) := by decide +kernel
theorem dX11_keep_223 : decode cX11_keep 223 = .ok (.bipush 8, 2) := by decide +kernel
theorem dX11_keep_225 : decode cX11_keep 225 = .ok (.if_icmp .ge 33, 3) := by decide +kernel
theorem dX11_keep_228 : decode cX11_keep 228 = .ok (.aload_n 1, 1) := by decide +kernel
theorem dX11_keep_229 : decode cX11_keep 229 = .ok (.bipush 107, 2) := by decide +kernel
theorem dX11_keep_231 : decode cX11_keep 231 = .ok (.iload_n 2, 1) := by decide +kernel
theorem dX11_keep_232 : decode cX11_keep 232 = .ok (.iadd, 1) := by decide +kernel
theorem dX11_keep_233 : decode cX11_keep 233 = .ok (.aload_n 0, 1) := by decide +kernel
theorem dX11_keep_234 : decode cX11_keep 234 = .ok (.getfield 79, 3) := by decide +kernel
theorem dX11_keep_237 : decode cX11_keep 237 = .ok (.iload_n 2, 1) := by decide +kernel
theorem dX11_keep_238 : decode cX11_keep 238 = .ok (.iaload, 1) := by decide +kernel
theorem dX11_keep_239 : decode cX11_keep 239 = .ok (.iastore, 1) := by decide +kernel
theorem dX11_keep_240 : decode cX11_keep 240 = .ok (.aload_n 1, 1) := by decide +kernel
theorem dX11_keep_241 : decode cX11_keep 241 = .ok (.bipush 115, 2) := by decide +kernel
theorem dX11_keep_243 : decode cX11_keep 243 = .ok (.iload_n 2, 1) := by decide +kernel
theorem dX11_keep_244 : decode cX11_keep 244 = .ok (.iadd, 1) := by decide +kernel
theorem dX11_keep_245 : decode cX11_keep 245 = .ok (.aload_n 0, 1) := by decide +kernel
theorem dX11_keep_246 : decode cX11_keep 246 = .ok (.getfield 82, 3) := by decide +kernel
theorem dX11_keep_249 : decode cX11_keep 249 = .ok (.iload_n 2, 1) := by decide +kernel
theorem dX11_keep_250 : decode cX11_keep 250 = .ok (.iaload, 1) := by decide +kernel
theorem dX11_keep_251 : decode cX11_keep 251 = .ok (.iastore, 1) := by decide +kernel
theorem dX11_keep_252 : decode cX11_keep 252 = .ok (.iinc 2 1, 3) := by decide +kernel
theorem dX11_keep_255 : decode cX11_keep 255 = .ok (.goto (-33), 3) := by decide +kernel
theorem dX11_keep_258 : decode cX11_keep 258 = .ok (.aload_n 1, 1) := by decide +kernel
theorem dX11_keep_259 : decode cX11_keep 259 = .ok (.bipush 123, 2) := by decide +kernel
theorem dX11_keep_261 : decode cX11_keep 261 = .ok (.aload_n 0, 1) := by decide +kernel
theorem dX11_keep_262 : decode cX11_keep 262 = .ok (.getfield 114, 3) := by decide +kernel
theorem dX11_keep_265 : decode cX11_keep 265 = .ok (.iastore, 1) := by decide +kernel
theorem dX11_keep_266 : decode cX11_keep 266 = .ok (.aload_n 1, 1) := by decide +kernel
theorem dX11_keep_267 : decode cX11_keep 267 = .ok (.bipush 124, 2) := by decide +kernel
theorem dX11_keep_269 : decode cX11_keep 269 = .ok (.aload_n 0, 1) := by decide +kernel
theorem dX11_keep_270 : decode cX11_keep 270 = .ok (.getfield 121, 3) := by decide +kernel
theorem dX11_keep_273 : decode cX11_keep 273 = .ok (.iastore, 1) := by decide +kernel
theorem dX11_keep_274 : decode cX11_keep 274 = .ok (.aload_n 1, 1) := by decide +kernel
theorem dX11_keep_275 : decode cX11_keep 275 = .ok (.bipush 125, 2) := by decide +kernel
theorem dX11_keep_277 : decode cX11_keep 277 = .ok (.aload_n 0, 1) := by decide +kernel
theorem dX11_keep_278 : decode cX11_keep 278 = .ok (.getfield 235, 3) := by decide +kernel
theorem dX11_keep_281 : decode cX11_keep 281 = .ok (.iastore, 1) := by decide +kernel
theorem dX11_keep_282 : decode cX11_keep 282 = .ok (.aload_n 1, 1) := by decide +kernel
theorem dX11_keep_283 : decode cX11_keep 283 = .ok (.bipush 126, 2) := by decide +kernel
theorem dX11_keep_285 : decode cX11_keep 285 = .ok (.aload_n 0, 1) := by decide +kernel
theorem dX11_keep_286 : decode cX11_keep 286 = .ok (.getfield 298, 3) := by decide +kernel
theorem dX11_keep_289 : decode cX11_keep 289 = .ok (.iastore, 1) := by decide +kernel
theorem dX11_keep_290 : decode cX11_keep 290 = .ok (.aload_n 1, 1) := by decide +kernel
theorem dX11_keep_291 : decode cX11_keep 291 = .ok (.bipush 127, 2) := by decide +kernel
theorem dX11_keep_293 : decode cX11_keep 293 = .ok (.aload_n 0, 1) := by decide +kernel
theorem dX11_keep_294 : decode cX11_keep 294 = .ok (.getfield 312, 3) := by decide +kernel
theorem dX11_keep_297 : decode cX11_keep 297 = .ok (.iastore, 1) := by decide +kernel
theorem dX11_keep_298 : decode cX11_keep 298 = .ok (.aload_n 1, 1) := by decide +kernel
theorem dX11_keep_299 : decode cX11_keep 299 = .ok (.sipush 128, 3) := by decide +kernel
theorem dX11_keep_302 : decode cX11_keep 302 = .ok (.aload_n 0, 1) := by decide +kernel
theorem dX11_keep_303 : decode cX11_keep 303 = .ok (.getfield 315, 3) := by decide +kernel
theorem dX11_keep_306 : decode cX11_keep 306 = .ok (.iastore, 1) := by decide +kernel
theorem dX11_keep_307 : decode cX11_keep 307 = .ok (.aload_n 1, 1) := by decide +kernel
theorem dX11_keep_308 : decode cX11_keep 308 = .ok (.sipush 129, 3) := by decide +kernel
theorem dX11_keep_311 : decode cX11_keep 311 = .ok (.aload_n 0, 1) := by decide +kernel
theorem dX11_keep_312 : decode cX11_keep 312 = .ok (.getfield 110, 3) := by decide +kernel
theorem dX11_keep_315 : decode cX11_keep 315 = .ok (.iastore, 1) := by decide +kernel
theorem dX11_keep_316 : decode cX11_keep 316 = .ok (.return_, 1) := by decide +kernel
theorem dX11_again_0 : decode cX11_again 0 = .ok (.iconst 0, 1) := by decide +kernel
theorem dX11_again_1 : decode cX11_again 1 = .ok (.istore_n 2, 1) := by decide +kernel
theorem dX11_again_2 : decode cX11_again 2 = .ok (.iload_n 2, 1) := by decide +kernel
theorem dX11_again_3 : decode cX11_again 3 = .ok (.bipush 6, 2) := by decide +kernel
theorem dX11_again_5 : decode cX11_again 5 = .ok (.if_icmp .ge 102, 3) := by decide +kernel
theorem dX11_again_8 : decode cX11_again 8 = .ok (.aload_n 0, 1) := by decide +kernel
theorem dX11_again_9 : decode cX11_again 9 = .ok (.getfield 9, 3) := by decide +kernel
theorem dX11_again_12 : decode cX11_again 12 = .ok (.iload_n 2, 1) := by decide +kernel
theorem dX11_again_13 : decode cX11_again 13 = .ok (.aload_n 1, 1) := by decide +kernel
theorem dX11_again_14 : decode cX11_again 14 = .ok (.iload_n 2, 1) := by decide +kernel
theorem dX11_again_15 : decode cX11_again 15 = .ok (.iaload, 1) := by decide +kernel
theorem dX11_again_16 : decode cX11_again 16 = .ok (.iastore, 1) := by decide +kernel
theorem dX11_again_17 : decode cX11_again 17 = .ok (.aload_n 0, 1) := by decide +kernel
theorem dX11_again_18 : decode cX11_again 18 = .ok (.getfield 15, 3) := by decide +kernel
theorem dX11_again_21 : decode cX11_again 21 = .ok (.iload_n 2, 1) := by decide +kernel
theorem dX11_again_22 : decode cX11_again 22 = .ok (.aload_n 1, 1) := by decide +kernel
theorem dX11_again_23 : decode cX11_again 23 = .ok (.bipush 6, 2) := by decide +kernel
theorem dX11_again_25 : decode cX11_again 25 = .ok (.iload_n 2, 1) := by decide +kernel
theorem dX11_again_26 : decode cX11_again 26 = .ok (.iadd, 1) := by decide +kernel
theorem dX11_again_27 : decode cX11_again 27 = .ok (.iaload, 1) := by decide +kernel
theorem dX11_again_28 : decode cX11_again 28 = .ok (.iastore, 1) := by decide +kernel
theorem dX11_again_29 : decode cX11_again 29 = .ok (.aload_n 0, 1) := by decide +kernel
theorem dX11_again_30 : decode cX11_again 30 = .ok (.getfield 18, 3) := by decide +kernel
theorem dX11_again_33 : decode cX11_again 33 = .ok (.iload_n 2, 1) := by decide +kernel
theorem dX11_again_34 : decode cX11_again 34 = .ok (.aload_n 1, 1) := by decide +kernel
theorem dX11_again_35 : decode cX11_again 35 = .ok (.bipush 12, 2) := by decide +kernel
theorem dX11_again_37 : decode cX11_again 37 = .ok (.iload_n 2, 1) := by decide +kernel
theorem dX11_again_38 : decode cX11_again 38 = .ok (.iadd, 1) := by decide +kernel
theorem dX11_again_39 : decode cX11_again 39 = .ok (.iaload, 1) := by decide +kernel
theorem dX11_again_40 : decode cX11_again 40 = .ok (.iastore, 1) := by decide +kernel
theorem dX11_again_41 : decode cX11_again 41 = .ok (.aload_n 0, 1) := by decide +kernel
theorem dX11_again_42 : decode cX11_again 42 = .ok (.getfield 21, 3) := by decide +kernel
theorem dX11_again_45 : decode cX11_again 45 = .ok (.iload_n 2, 1) := by decide +kernel
theorem dX11_again_46 : decode cX11_again 46 = .ok (.aload_n 1, 1) := by decide +kernel
theorem dX11_again_47 : decode cX11_again 47 = .ok (.bipush 18, 2) := by decide +kernel
theorem dX11_again_49 : decode cX11_again 49 = .ok (.iload_n 2, 1) := by decide +kernel
theorem dX11_again_50 : decode cX11_again 50 = .ok (.iadd, 1) := by decide +kernel
theorem dX11_again_51 : decode cX11_again 51 = .ok (.iaload, 1) := by decide +kernel
theorem dX11_again_52 : decode cX11_again 52 = .ok (.iastore, 1) := by decide +kernel
theorem dX11_again_53 : decode cX11_again 53 = .ok (.aload_n 0, 1) := by decide +kernel
theorem dX11_again_54 : decode cX11_again 54 = .ok (.getfield 27, 3) := by decide +kernel
theorem dX11_again_57 : decode cX11_again 57 = .ok (.iload_n 2, 1) := by decide +kernel
theorem dX11_again_58 : decode cX11_again 58 = .ok (.aload_n 1, 1) := by decide +kernel
theorem dX11_again_59 : decode cX11_again 59 = .ok (.bipush 24, 2) := by decide +kernel
theorem dX11_again_61 : decode cX11_again 61 = .ok (.iload_n 2, 1) := by decide +kernel
theorem dX11_again_62 : decode cX11_again 62 = .ok (.iadd, 1) := by decide +kernel
theorem dX11_again_63 : decode cX11_again 63 = .ok (.iaload, 1) := by decide +kernel
theorem dX11_again_64 : decode cX11_again 64 = .ok (.iastore, 1) := by decide +kernel
theorem dX11_again_65 : decode cX11_again 65 = .ok (.aload_n 0, 1) := by decide +kernel
theorem dX11_again_66 : decode cX11_again 66 = .ok (.getfield 30, 3) := by decide +kernel
theorem dX11_again_69 : decode cX11_again 69 = .ok (.iload_n 2, 1) := by decide +kernel
theorem dX11_again_70 : decode cX11_again 70 = .ok (.aload_n 1, 1) := by decide +kernel
theorem dX11_again_71 : decode cX11_again 71 = .ok (.bipush 30, 2) := by decide +kernel
theorem dX11_again_73 : decode cX11_again 73 = .ok (.iload_n 2, 1) := by decide +kernel
theorem dX11_again_74 : decode cX11_again 74 = .ok (.iadd, 1) := by decide +kernel
theorem dX11_again_75 : decode cX11_again 75 = .ok (.iaload, 1) := by decide +kernel
theorem dX11_again_76 : decode cX11_again 76 = .ok (.iastore, 1) := by decide +kernel
theorem dX11_again_77 : decode cX11_again 77 = .ok (.aload_n 0, 1) := by decide +kernel
theorem dX11_again_78 : decode cX11_again 78 = .ok (.getfield 33, 3) := by decide +kernel
theorem dX11_again_81 : decode cX11_again 81 = .ok (.iload_n 2, 1) := by decide +kernel
theorem dX11_again_82 : decode cX11_again 82 = .ok (.aload_n 1, 1) := by decide +kernel
theorem dX11_again_83 : decode cX11_again 83 = .ok (.bipush 36, 2) := by decide +kernel
theorem dX11_again_85 : decode cX11_again 85 = .ok (.iload_n 2, 1) := by decide +kernel
theorem dX11_again_86 : decode cX11_again 86 = .ok (.iadd, 1) := by decide +kernel
theorem dX11_again_87 : decode cX11_again 87 = .ok (.iaload, 1) := by decide +kernel
theorem dX11_again_88 : decode cX11_again 88 = .ok (.iastore, 1) := by decide +kernel
theorem dX11_again_89 : decode cX11_again 89 = .ok (.aload_n 0, 1) := by decide +kernel
theorem dX11_again_90 : decode cX11_again 90 = .ok (.getfield 36, 3) := by decide +kernel
theorem dX11_again_93 : decode cX11_again 93 = .ok (.iload_n 2, 1) := by decide +kernel
theorem dX11_again_94 : decode cX11_again 94 = .ok (.aload_n 1, 1) := by decide +kernel
theorem dX11_again_95 : decode cX11_again 95 = .ok (.bipush 42, 2) := by decide +kernel
theorem dX11_again_97 : decode cX11_again 97 = .ok (.iload_n 2, 1) := by decide +kernel
theorem dX11_again_98 : decode cX11_again 98 = .ok (.iadd, 1) := by decide +kernel
theorem dX11_again_99 : decode cX11_again 99 = .ok (.iaload, 1) := by decide +kernel
theorem dX11_again_100 : decode cX11_again 100 = .ok (.iastore, 1) := by decide +kernel
theorem dX11_again_101 : decode cX11_again 101 = .ok (.iinc 2 1, 3) := by decide +kernel
theorem dX11_again_104 : decode cX11_again 104 = .ok (.goto (-102), 3) := by decide +kernel
theorem dX11_again_107 : decode cX11_again 107 = .ok (.iconst 0, 1) := by decide +kernel
theorem dX11_again_108 : decode cX11_again 108 = .ok (.istore_n 2, 1) := by decide +kernel
theorem dX11_again_109 : decode cX11_again 109 = .ok (.iload_n 2, 1) := by decide +kernel
theorem dX11_again_110 : decode cX11_again 110 = .ok (.bipush 24, 2) := by decide +kernel
theorem dX11_again_112 : decode cX11_again 112 = .ok (.if_icmp .ge 21, 3) := by decide +kernel
theorem dX11_again_115 : decode cX11_again 115 = .ok (.aload_n 0, 1) := by decide +kernel
theorem dX11_again_116 : decode cX11_again 116 = .ok (.getfield 24, 3) := by decide +kernel
theorem dX11_again_119 : decode cX11_again 119 = .ok (.iload_n 2, 1) := by decide +kernel
theorem dX11_again_120 : decode cX11_again 120 = .ok (.aload_n 1, 1) := by decide +kernel
theorem dX11_again_121 : decode cX11_again 121 = .ok (.bipush 48, 2) := by decide +kernel
theorem dX11_again_123 : decode cX11_again 123 = .ok (.iload_n 2, 1) := by decide +kernel
theorem dX11_again_124 : decode cX11_again 124 = .ok (.iadd, 1) := by decide +kernel
theorem dX11_again_125 : decode cX11_again 125 = .ok (.iaload, 1) := by decide +kernel
theorem dX11_again_126 : decode cX11_again 126 = .ok (.iastore, 1) := by decide +kernel
theorem dX11_again_127 : decode cX11_again 127 = .ok (.iinc 2 1, 3) := by decide +kernel
theorem dX11_again_130 : decode cX11_again 130 = .ok (.goto (-21), 3) := by decide +kernel
theorem dX11_again_133 : decode cX11_again 133 = .ok (.iconst 0, 1) := by decide +kernel
theorem dX11_again_134 : decode cX11_again 134 = .ok (.istore_n 2, 1) := by decide +kernel
theorem dX11_again_135 : decode cX11_again 135 = .ok (.iload_n 2, 1) := by decide +kernel
theorem dX11_again_136 : decode cX11_again 136 = .ok (.iconst 5, 1) := by decide +kernel
theorem dX11_again_137 : decode cX11_again 137 = .ok (.if_icmp .ge 45, 3) := by decide +kernel
theorem dX11_again_140 : decode cX11_again 140 = .ok (.aload_n 0, 1) := by decide +kernel
theorem dX11_again_141 : decode cX11_again 141 = .ok (.getfield 64, 3) := by decide +kernel
theorem dX11_again_144 : decode cX11_again 144 = .ok (.iload_n 2, 1) := by decide +kernel
theorem dX11_again_145 : decode cX11_again 145 = .ok (.aload_n 1, 1) := by decide +kernel
theorem dX11_again_146 : decode cX11_again 146 = .ok (.bipush 72, 2) := by decide +kernel
theorem dX11_again_148 : decode cX11_again 148 = .ok (.iload_n 2, 1) := by decide +kernel
theorem dX11_again_149 : decode cX11_again 149 = .ok (.iadd, 1) := by decide +kernel
theorem dX11_again_150 : decode cX11_again 150 = .ok (.iaload, 1) := by decide +kernel
theorem dX11_again_151 : decode cX11_again 151 = .ok (.iastore, 1) := by decide +kernel
theorem dX11_again_152 : decode cX11_again 152 = .ok (.aload_n 0, 1) := by decide +kernel
theorem dX11_again_153 : decode cX11_again 153 = .ok (.getfield 67, 3) := by decide +kernel
theorem dX11_again_156 : decode cX11_again 156 = .ok (.iload_n 2, 1) := by decide +kernel
theorem dX11_again_157 : decode cX11_again 157 = .ok (.aload_n 1, 1) := by decide +kernel
theorem dX11_again_158 : decode cX11_again 158 = .ok (.bipush 77, 2) := by decide +kernel
theorem dX11_again_160 : decode cX11_again 160 = .ok (.iload_n 2, 1) := by decide +kernel
theorem dX11_again_161 : decode cX11_again 161 = .ok (.iadd, 1) := by decide +kernel
theorem dX11_again_162 : decode cX11_again 162 = .ok (.iaload, 1) := by decide +kernel
theorem dX11_again_163 : decode cX11_again 163 = .ok (.iastore, 1) := by decide +kernel
theorem dX11_again_164 : decode cX11_again 164 = .ok (.aload_n 0, 1) := by decide +kernel
theorem dX11_again_165 : decode cX11_again 165 = .ok (.getfield 70, 3) := by decide +kernel
theorem dX11_again_168 : decode cX11_again 168 = .ok (.iload_n 2, 1) := by decide +kernel
theorem dX11_again_169 : decode cX11_again 169 = .ok (.aload_n 1, 1) := by decide +kernel
theorem dX11_again_170 : decode cX11_again 170 = .ok (.bipush 82, 2) := by decide +kernel
theorem dX11_again_172 : decode cX11_again 172 = .ok (.iload_n 2, 1) := by decide +kernel
theorem dX11_again_173 : decode cX11_again 173 = .ok (.iadd, 1) := by decide +kernel
theorem dX11_again_174 : decode cX11_again 174 = .ok (.iaload, 1) := by decide +kernel
theorem dX11_again_175 : decode cX11_again 175 = .ok (.iastore, 1) := by decide +kernel
theorem dX11_again_176 : decode cX11_again 176 = .ok (.iinc 2 1, 3) := by decide +kernel
theorem dX11_again_179 : decode cX11_again 179 = .ok (.goto (-44), 3) := by decide +kernel
theorem dX11_again_182 : decode cX11_again 182 = .ok (.iconst 0, 1) := by decide +kernel
theorem dX11_again_183 : decode cX11_again 183 = .ok (.istore_n 2, 1) := by decide +kernel
theorem dX11_again_184 : decode cX11_again 184 = .ok (.iload_n 2, 1) := by decide +kernel
theorem dX11_again_185 : decode cX11_again 185 = .ok (.bipush 10, 2) := by decide +kernel
theorem dX11_again_187 : decode cX11_again 187 = .ok (.if_icmp .ge 33, 3) := by decide +kernel
theorem dX11_again_190 : decode cX11_again 190 = .ok (.aload_n 0, 1) := by decide +kernel
theorem dX11_again_191 : decode cX11_again 191 = .ok (.getfield 73, 3) := by decide +kernel
theorem dX11_again_194 : decode cX11_again 194 = .ok (.iload_n 2, 1) := by decide +kernel
theorem dX11_again_195 : decode cX11_again 195 = .ok (.aload_n 1, 1) := by decide +kernel
theorem dX11_again_196 : decode cX11_again 196 = .ok (.bipush 87, 2) := by decide +kernel
theorem dX11_again_198 : decode cX11_again 198 = .ok (.iload_n 2, 1) := by decide +kernel
theorem dX11_again_199 : decode cX11_again 199 = .ok (.iadd, 1) := by decide +kernel
theorem dX11_again_200 : decode cX11_again 200 = .ok (.iaload, 1) := by decide +kernel
theorem dX11_again_201 : decode cX11_again 201 = .ok (.iastore, 1) := by decide +kernel
theorem dX11_again_202 : decode cX11_again 202 = .ok (.aload_n 0, 1) := by decide +kernel
theorem dX11_again_203 : decode cX11_again 203 = .ok (.getfield 76, 3) := by decide +kernel
theorem dX11_again_206 : decode cX11_again 206 = .ok (.iload_n 2, 1) := by decide +kernel
theorem dX11_again_207 : decode cX11_again 207 = .ok (.aload_n 1, 1) := by decide +kernel
theorem dX11_again_208 : decode cX11_again 208 = .ok (.bipush 97, 2) := by decide +kernel
theorem dX11_again_210 : decode cX11_again 210 = .ok (.iload_n 2, 1) := by decide +kernel
theorem dX11_again_211 : decode cX11_again 211 = .ok (.iadd, 1) := by decide +kernel
theorem dX11_again_212 : decode cX11_again 212 = .ok (.iaload, 1) := by decide +kernel
theorem dX11_again_213 : decode cX11_again 213 = .ok (.iastore, 1) := by decide +kernel
theorem dX11_again_214 : decode cX11_again 214 = .ok (.iinc 2 1, 3) := by decide +kernel
theorem dX11_again_217 : decode cX11_again 217 = .ok (.goto (-33), 3) := by decide +kernel
theorem dX11_again_220 : decode cX11_again 220 = .ok (.iconst 0, 1) := by decide +kernel
theorem dX11_again_221 : decode cX11_again 221 = .ok (.istore_n 2, 1) := by decide +kernel
theorem dX11_again_222 : decode cX11_again 222 = .ok (.iload_n 2, 1) := by decide +kernel
theorem dX11_again_223 : decode cX11_again 223 = .ok (.bipush 8, 2) := by decide +kernel
theorem dX11_again_225 : decode cX11_again 225 = .ok (.if_icmp .ge 33, 3) := by decide +kernel
theorem dX11_again_228 : decode cX11_again 228 = .ok (.aload_n 0, 1) := by decide +kernel
theorem dX11_again_229 : decode cX11_again 229 = .ok (.getfield 79, 3) := by decide +kernel
theorem dX11_again_232 : decode cX11_again 232 = .ok (.iload_n 2, 1) := by decide +kernel
theorem dX11_again_233 : decode cX11_again 233 = .ok (.aload_n 1, 1) := by decide +kernel
theorem dX11_again_234 : decode cX11_again 234 = .ok (.bipush 107, 2) := by decide +kernel
theorem dX11_again_236 : decode cX11_again 236 = .ok (.iload_n 2, 1) := by decide +kernel
theorem dX11_again_237 : decode cX11_again 237 = .ok (.iadd, 1) := by decide +kernel
theorem dX11_again_238 : decode cX11_again 238 = .ok (.iaload, 1) := by decide +kernel
theorem dX11_again_239 : decode cX11_again 239 = .ok (.iastore, 1) := by decide +kernel
theorem dX11_again_240 : decode cX11_again 240 = .ok (.aload_n 0, 1) := by decide +kernel
theorem dX11_again_241 : decode cX11_again 241 = .ok (.getfield 82, 3) := by decide +kernel
theorem dX11_again_244 : decode cX11_again 244 = .ok (.iload_n 2, 1) := by decide +kernel
theorem dX11_again_245 : decode cX11_again 245 = .ok (.aload_n 1, 1) := by decide +kernel
theorem dX11_again_246 : decode cX11_again 246 = .ok (.bipush 115, 2) := by decide +kernel
theorem dX11_again_248 : decode cX11_again 248 = .ok (.iload_n 2, 1) := by decide +kernel
theorem dX11_again_249 : decode cX11_again 249 = .ok (.iadd, 1) := by decide +kernel
theorem dX11_again_250 : decode cX11_again 250 = .ok (.iaload, 1) := by decide +kernel
theorem dX11_again_251 : decode cX11_again 251 = .ok (.iastore, 1) := by decide +kernel
theorem dX11_again_252 : decode cX11_again 252 = .ok (.iinc 2 1, 3) := by decide +kernel
theorem dX11_again_255 : decode cX11_again 255 = .ok (.goto (-33), 3) := by decide +kernel
theorem dX11_again_258 : decode cX11_again 258 = .ok (.aload_n 0, 1) := by decide +kernel
theorem dX11_again_259 : decode cX11_again 259 = .ok (.aload_n 1, 1) := by decide +kernel
theorem dX11_again_260 : decode cX11_again 260 = .ok (.bipush 123, 2) := by decide +kernel
theorem dX11_again_262 : decode cX11_again 262 = .ok (.iaload, 1) := by decide +kernel
theorem dX11_again_263 : decode cX11_again 263 = .ok (.putfield 114, 3) := by decide +kernel
theorem dX11_again_266 : decode cX11_again 266 = .ok (.aload_n 0, 1) := by decide +kernel
theorem dX11_again_267 : decode cX11_again 267 = .ok (.aload_n 1, 1) := by decide +kernel
theorem dX11_again_268 : decode cX11_again 268 = .ok (.bipush 124, 2) := by decide +kernel
theorem dX11_again_270 : decode cX11_again 270 = .ok (.iaload, 1) := by decide +kernel
theorem dX11_again_271 : decode cX11_again 271 = .ok (.putfield 121, 3) := by decide +kernel
theorem dX11_again_274 : decode cX11_again 274 = .ok (.aload_n 0, 1) := by decide +kernel
theorem dX11_again_275 : decode cX11_again 275 = .ok (.aload_n 1, 1) := by decide +kernel
theorem dX11_again_276 : decode cX11_again 276 = .ok (.bipush 125, 2) := by decide +kernel
theorem dX11_again_278 : decode cX11_again 278 = .ok (.iaload, 1) := by decide +kernel
theorem dX11_again_279 : decode cX11_again 279 = .ok (.putfield 235, 3) := by decide +kernel
theorem dX11_again_282 : decode cX11_again 282 = .ok (.aload_n 0, 1) := by decide +kernel
theorem dX11_again_283 : decode cX11_again 283 = .ok (.aload_n 1, 1) := by decide +kernel
theorem dX11_again_284 : decode cX11_again 284 = .ok (.bipush 126, 2) := by decide +kernel
theorem dX11_again_286 : decode cX11_again 286 = .ok (.iaload, 1) := by decide +kernel
theorem dX11_again_287 : decode cX11_again 287 = .ok (.putfield 298, 3) := by decide +kernel
theorem dX11_again_290 : decode cX11_again 290 = .ok (.aload_n 0, 1) := by decide +kernel
theorem dX11_again_291 : decode cX11_again 291 = .ok (.aload_n 1, 1) := by decide +kernel
theorem dX11_again_292 : decode cX11_again 292 = .ok (.bipush 127, 2) := by decide +kernel
theorem dX11_again_294 : decode cX11_again 294 = .ok (.iaload, 1) := by decide +kernel
theorem dX11_again_295 : decode cX11_again 295 = .ok (.putfield 312, 3) := by decide +kernel
theorem dX11_again_298 : decode cX11_again 298 = .ok (.aload_n 0, 1) := by decide +kernel
theorem dX11_again_299 : decode cX11_again 299 = .ok (.aload_n 1, 1) := by decide +kernel
theorem dX11_again_300 : decode cX11_again 300 = .ok (.sipush 128, 3) := by decide +kernel
theorem dX11_again_303 : decode cX11_again 303 = .ok (.iaload, 1) := by decide +kernel
theorem dX11_again_304 : decode cX11_again 304 = .ok (.putfield 315, 3) := by decide +kernel
theorem dX11_again_307 : decode cX11_again 307 = .ok (.aload_n 0, 1) := by decide +kernel
theorem dX11_again_308 : decode cX11_again 308 = .ok (.aload_n 1, 1) := by decide +kernel
theorem dX11_again_309 : decode cX11_again 309 = .ok (.sipush 129, 3) := by decide +kernel
theorem dX11_again_312 : decode cX11_again 312 = .ok (.iaload, 1) := by decide +kernel
theorem dX11_again_313 : decode cX11_again 313 = .ok (.putfield 110, 3) := by decide +kernel
theorem dX11_again_316 : decode cX11_again 316 = .ok (.return_, 1) := by decide +kernel
theorem dX11_image_0 : decode cX11_image 0 = .ok (.aload_n 0, 1) := by decide +kernel
theorem dX11_image_1 : decode cX11_image 1 = .ok (.iconst 1, 1) := by decide +kernel
theorem dX11_image_2 : decode cX11_image 2 = .ok (.putfield 318, 3) := by decide +kernel
theorem dX11_image_5 : decode cX11_image 5 = .ok (.aload_n 0, 1) := by decide +kernel
theorem dX11_image_6 : decode cX11_image 6 = .ok (.aload_n 0, 1) := by decide +kernel
theorem dX11_image_7 : decode cX11_image 7 = .ok (.getfield 88, 3) := by decide +kernel
theorem dX11_image_10 : decode cX11_image 10 = .ok (.invokevirtual 287, 3) := by decide +kernel
theorem dX11_image_13 : decode cX11_image 13 = .ok (.aload_n 0, 1) := by decide +kernel
theorem dX11_image_14 : decode cX11_image 14 = .ok (.getfield 114, 3) := by decide +kernel
theorem dX11_image_17 : decode cX11_image 17 = .ok (.ireturn, 1) := by decide +kernel
theorem dX11_undo_0 : decode cX11_undo 0 = .ok (.aload_n 0, 1) := by decide +kernel
theorem dX11_undo_1 : decode cX11_undo 1 = .ok (.getfield 318, 3) := by decide +kernel
theorem dX11_undo_4 : decode cX11_undo 4 = .ok (.ifCond .ne 6, 3) := by decide +kernel
theorem dX11_undo_7 : decode cX11_undo 7 = .ok (.bipush (-3), 2) := by decide +kernel
theorem dX11_undo_9 : decode cX11_undo 9 = .ok (.ireturn, 1) := by decide +kernel
theorem dX11_undo_10 : decode cX11_undo 10 = .ok (.aload_n 0, 1) := by decide +kernel
theorem dX11_undo_11 : decode cX11_undo 11 = .ok (.aload_n 0, 1) := by decide +kernel
theorem dX11_undo_12 : decode cX11_undo 12 = .ok (.getfield 88, 3) := by decide +kernel
theorem dX11_undo_15 : decode cX11_undo 15 = .ok (.invokevirtual 291, 3) := by decide +kernel
theorem dX11_undo_18 : decode cX11_undo 18 = .ok (.aload_n 0, 1) := by decide +kernel
theorem dX11_undo_19 : decode cX11_undo 19 = .ok (.getfield 114, 3) := by decide +kernel
theorem dX11_undo_22 : decode cX11_undo 22 = .ok (.ireturn, 1) := by decide +kernel
theorem dX11_ran_0 : decode cX11_ran 0 = .ok (.aload_n 0, 1) := by decide +kernel
theorem dX11_ran_1 : decode cX11_ran 1 = .ok (.getfield 322, 3) := by decide +kernel
theorem dX11_ran_4 : decode cX11_ran 4 = .ok (.bipush 20, 2) := by decide +kernel
theorem dX11_ran_6 : decode cX11_ran 6 = .ok (.if_icmp .ge 13, 3) := by decide +kernel
theorem dX11_ran_9 : decode cX11_ran 9 = .ok (.aload_n 0, 1) := by decide +kernel
theorem dX11_ran_10 : decode cX11_ran 10 = .ok (.getfield 85, 3) := by decide +kernel
theorem dX11_ran_13 : decode cX11_ran 13 = .ok (.aload_n 0, 1) := by decide +kernel
theorem dX11_ran_14 : decode cX11_ran 14 = .ok (.getfield 322, 3) := by decide +kernel
theorem dX11_ran_17 : decode cX11_ran 17 = .ok (.iload_n 1, 1) := by decide +kernel
theorem dX11_ran_18 : decode cX11_ran 18 = .ok (.iastore, 1) := by decide +kernel
theorem dX11_ran_19 : decode cX11_ran 19 = .ok (.aload_n 0, 1) := by decide +kernel
theorem dX11_ran_20 : decode cX11_ran 20 = .ok (.dup, 1) := by decide +kernel
theorem dX11_ran_21 : decode cX11_ran 21 = .ok (.getfield 322, 3) := by decide +kernel
theorem dX11_ran_24 : decode cX11_ran 24 = .ok (.iconst 1, 1) := by decide +kernel
theorem dX11_ran_25 : decode cX11_ran 25 = .ok (.iadd, 1) := by decide +kernel
theorem dX11_ran_26 : decode cX11_ran 26 = .ok (.putfield 322, 3) := by decide +kernel
theorem dX11_ran_29 : decode cX11_ran 29 = .ok (.return_, 1) := by decide +kernel
theorem dX11_above_0 : decode cX11_above 0 = .ok (.iload_n 0, 1) := by decide +kernel
theorem dX11_above_1 : decode cX11_above 1 = .ok (.iconst 4, 1) := by decide +kernel
theorem dX11_above_2 : decode cX11_above 2 = .ok (.if_icmp .ne 7, 3) := by decide +kernel
theorem dX11_above_5 : decode cX11_above 5 = .ok (.iconst 1, 1) := by decide +kernel
theorem dX11_above_6 : decode cX11_above 6 = .ok (.goto 23, 3) := by decide +kernel
theorem dX11_above_9 : decode cX11_above 9 = .ok (.iload_n 0, 1) := by decide +kernel
theorem dX11_above_10 : decode cX11_above 10 = .ok (.iconst 5, 1) := by decide +kernel
theorem dX11_above_11 : decode cX11_above 11 = .ok (.if_icmp .ne 7, 3) := by decide +kernel
theorem dX11_above_14 : decode cX11_above 14 = .ok (.iconst 2, 1) := by decide +kernel
theorem dX11_above_15 : decode cX11_above 15 = .ok (.goto 14, 3) := by decide +kernel
theorem dX11_above_18 : decode cX11_above 18 = .ok (.iload_n 0, 1) := by decide +kernel
theorem dX11_above_19 : decode cX11_above 19 = .ok (.bipush 6, 2) := by decide +kernel
theorem dX11_above_21 : decode cX11_above 21 = .ok (.if_icmp .ne 7, 3) := by decide +kernel
theorem dX11_above_24 : decode cX11_above 24 = .ok (.iconst 3, 1) := by decide +kernel
theorem dX11_above_25 : decode cX11_above 25 = .ok (.goto 4, 3) := by decide +kernel
theorem dX11_above_28 : decode cX11_above 28 = .ok (.iconst 0, 1) := by decide +kernel
theorem dX11_above_29 : decode cX11_above 29 = .ok (.ireturn, 1) := by decide +kernel
theorem dX11_listens_0 : decode cX11_listens 0 = .ok (.iload_n 2, 1) := by decide +kernel
theorem dX11_listens_1 : decode cX11_listens 1 = .ok (.tableswitch 105 0 6 #[95, 105, 43, 105, 59, 105, 74], 43) := by decide +kernel
theorem dX11_listens_44 : decode cX11_listens 44 = .ok (.aload_n 0, 1) := by decide +kernel
theorem dX11_listens_45 : decode cX11_listens 45 = .ok (.bipush 30, 2) := by decide +kernel
theorem dX11_listens_47 : decode cX11_listens 47 = .ok (.invokevirtual 325, 3) := by decide +kernel
theorem dX11_listens_50 : decode cX11_listens 50 = .ok (.aload_n 0, 1) := by decide +kernel
theorem dX11_listens_51 : decode cX11_listens 51 = .ok (.iload_n 1, 1) := by decide +kernel
theorem dX11_listens_52 : decode cX11_listens 52 = .ok (.iconst 0, 1) := by decide +kernel
theorem dX11_listens_53 : decode cX11_listens 53 = .ok (.iload_n 3, 1) := by decide +kernel
theorem dX11_listens_54 : decode cX11_listens 54 = .ok (.iconst 3, 1) := by decide +kernel
theorem dX11_listens_55 : decode cX11_listens 55 = .ok (.imul, 1) := by decide +kernel
theorem dX11_listens_56 : decode cX11_listens 56 = .ok (.invokevirtual 329, 3) := by decide +kernel
theorem dX11_listens_59 : decode cX11_listens 59 = .ok (.ireturn, 1) := by decide +kernel
theorem dX11_listens_60 : decode cX11_listens 60 = .ok (.aload_n 0, 1) := by decide +kernel
theorem dX11_listens_61 : decode cX11_listens 61 = .ok (.bipush 50, 2) := by decide +kernel
theorem dX11_listens_63 : decode cX11_listens 63 = .ok (.invokevirtual 325, 3) := by decide +kernel
theorem dX11_listens_66 : decode cX11_listens 66 = .ok (.aload_n 0, 1) := by decide +kernel
theorem dX11_listens_67 : decode cX11_listens 67 = .ok (.iload_n 1, 1) := by decide +kernel
theorem dX11_listens_68 : decode cX11_listens 68 = .ok (.iconst 1, 1) := by decide +kernel
theorem dX11_listens_69 : decode cX11_listens 69 = .ok (.iload_n 3, 1) := by decide +kernel
theorem dX11_listens_70 : decode cX11_listens 70 = .ok (.invokevirtual 329, 3) := by decide +kernel
theorem dX11_listens_73 : decode cX11_listens 73 = .ok (.ineg, 1) := by decide +kernel
theorem dX11_listens_74 : decode cX11_listens 74 = .ok (.ireturn, 1) := by decide +kernel
theorem dX11_listens_75 : decode cX11_listens 75 = .ok (.aload_n 0, 1) := by decide +kernel
theorem dX11_listens_76 : decode cX11_listens 76 = .ok (.bipush 71, 2) := by decide +kernel
theorem dX11_listens_78 : decode cX11_listens 78 = .ok (.invokevirtual 325, 3) := by decide +kernel
theorem dX11_listens_81 : decode cX11_listens 81 = .ok (.aload_n 0, 1) := by decide +kernel
theorem dX11_listens_82 : decode cX11_listens 82 = .ok (.iload_n 1, 1) := by decide +kernel
theorem dX11_listens_83 : decode cX11_listens 83 = .ok (.iconst 3, 1) := by decide +kernel
theorem dX11_listens_84 : decode cX11_listens 84 = .ok (.iload_n 3, 1) := by decide +kernel
theorem dX11_listens_85 : decode cX11_listens 85 = .ok (.invokevirtual 329, 3) := by decide +kernel
theorem dX11_listens_88 : decode cX11_listens 88 = .ok (.aload_n 0, 1) := by decide +kernel
theorem dX11_listens_89 : decode cX11_listens 89 = .ok (.getfield 15, 3) := by decide +kernel
theorem dX11_listens_92 : decode cX11_listens 92 = .ok (.iload_n 1, 1) := by decide +kernel
theorem dX11_listens_93 : decode cX11_listens 93 = .ok (.iaload, 1) := by decide +kernel
theorem dX11_listens_94 : decode cX11_listens 94 = .ok (.ixor, 1) := by decide +kernel
theorem dX11_listens_95 : decode cX11_listens 95 = .ok (.ireturn, 1) := by decide +kernel
theorem dX11_listens_96 : decode cX11_listens 96 = .ok (.aload_n 0, 1) := by decide +kernel
theorem dX11_listens_97 : decode cX11_listens 97 = .ok (.bipush 10, 2) := by decide +kernel
theorem dX11_listens_99 : decode cX11_listens 99 = .ok (.invokevirtual 325, 3) := by decide +kernel
theorem dX11_listens_102 : decode cX11_listens 102 = .ok (.iload_n 3, 1) := by decide +kernel
theorem dX11_listens_103 : decode cX11_listens 103 = .ok (.iload_n 1, 1) := by decide +kernel
theorem dX11_listens_104 : decode cX11_listens 104 = .ok (.iadd, 1) := by decide +kernel
theorem dX11_listens_105 : decode cX11_listens 105 = .ok (.ireturn, 1) := by decide +kernel
theorem dX11_listens_106 : decode cX11_listens 106 = .ok (.aload_n 0, 1) := by decide +kernel
theorem dX11_listens_107 : decode cX11_listens 107 = .ok (.iload_n 1, 1) := by decide +kernel
theorem dX11_listens_108 : decode cX11_listens 108 = .ok (.iload_n 2, 1) := by decide +kernel
theorem dX11_listens_109 : decode cX11_listens 109 = .ok (.invokestatic 332, 3) := by decide +kernel
theorem dX11_listens_112 : decode cX11_listens 112 = .ok (.iload_n 3, 1) := by decide +kernel
theorem dX11_listens_113 : decode cX11_listens 113 = .ok (.invokevirtual 329, 3) := by decide +kernel
theorem dX11_listens_116 : decode cX11_listens 116 = .ok (.ireturn, 1) := by decide +kernel
theorem dX11_nods_0 : decode cX11_nods 0 = .ok (.iload_n 2, 1) := by decide +kernel
theorem dX11_nods_1 : decode cX11_nods 1 = .ok (.tableswitch 128 0 6 #[102, 43, 128, 128, 60, 128, 76], 43) := by decide +kernel
theorem dX11_nods_44 : decode cX11_nods 44 = .ok (.aload_n 0, 1) := by decide +kernel
theorem dX11_nods_45 : decode cX11_nods 45 = .ok (.bipush 20, 2) := by decide +kernel
theorem dX11_nods_47 : decode cX11_nods 47 = .ok (.invokevirtual 325, 3) := by decide +kernel
theorem dX11_nods_50 : decode cX11_nods 50 = .ok (.aload_n 0, 1) := by decide +kernel
theorem dX11_nods_51 : decode cX11_nods 51 = .ok (.iload_n 1, 1) := by decide +kernel
theorem dX11_nods_52 : decode cX11_nods 52 = .ok (.iconst 0, 1) := by decide +kernel
theorem dX11_nods_53 : decode cX11_nods 53 = .ok (.iload_n 3, 1) := by decide +kernel
theorem dX11_nods_54 : decode cX11_nods 54 = .ok (.invokevirtual 335, 3) := by decide +kernel
theorem dX11_nods_57 : decode cX11_nods 57 = .ok (.bipush 6, 2) := by decide +kernel
theorem dX11_nods_59 : decode cX11_nods 59 = .ok (.ixor, 1) := by decide +kernel
theorem dX11_nods_60 : decode cX11_nods 60 = .ok (.ireturn, 1) := by decide +kernel
theorem dX11_nods_61 : decode cX11_nods 61 = .ok (.aload_n 0, 1) := by decide +kernel
theorem dX11_nods_62 : decode cX11_nods 62 = .ok (.bipush 51, 2) := by decide +kernel
theorem dX11_nods_64 : decode cX11_nods 64 = .ok (.invokevirtual 325, 3) := by decide +kernel
theorem dX11_nods_67 : decode cX11_nods 67 = .ok (.aload_n 0, 1) := by decide +kernel
theorem dX11_nods_68 : decode cX11_nods 68 = .ok (.iload_n 1, 1) := by decide +kernel
theorem dX11_nods_69 : decode cX11_nods 69 = .ok (.iconst 1, 1) := by decide +kernel
theorem dX11_nods_70 : decode cX11_nods 70 = .ok (.iload_n 3, 1) := by decide +kernel
theorem dX11_nods_71 : decode cX11_nods 71 = .ok (.iconst 1, 1) := by decide +kernel
theorem dX11_nods_72 : decode cX11_nods 72 = .ok (.iadd, 1) := by decide +kernel
theorem dX11_nods_73 : decode cX11_nods 73 = .ok (.invokevirtual 335, 3) := by decide +kernel
theorem dX11_nods_76 : decode cX11_nods 76 = .ok (.ireturn, 1) := by decide +kernel
theorem dX11_nods_77 : decode cX11_nods 77 = .ok (.aload_n 0, 1) := by decide +kernel
theorem dX11_nods_78 : decode cX11_nods 78 = .ok (.bipush 70, 2) := by decide +kernel
theorem dX11_nods_80 : decode cX11_nods 80 = .ok (.invokevirtual 325, 3) := by decide +kernel
theorem dX11_nods_83 : decode cX11_nods 83 = .ok (.aload_n 0, 1) := by decide +kernel
theorem dX11_nods_84 : decode cX11_nods 84 = .ok (.iload_n 1, 1) := by decide +kernel
theorem dX11_nods_85 : decode cX11_nods 85 = .ok (.iconst 3, 1) := by decide +kernel
theorem dX11_nods_86 : decode cX11_nods 86 = .ok (.iload_n 3, 1) := by decide +kernel
theorem dX11_nods_87 : decode cX11_nods 87 = .ok (.invokevirtual 335, 3) := by decide +kernel
theorem dX11_nods_90 : decode cX11_nods 90 = .ok (.istore 4, 2) := by decide +kernel
theorem dX11_nods_92 : decode cX11_nods 92 = .ok (.iload 4, 2) := by decide +kernel
theorem dX11_nods_94 : decode cX11_nods 94 = .ok (.aload_n 0, 1) := by decide +kernel
theorem dX11_nods_95 : decode cX11_nods 95 = .ok (.iload_n 1, 1) := by decide +kernel
theorem dX11_nods_96 : decode cX11_nods 96 = .ok (.iconst 3, 1) := by decide +kernel
theorem dX11_nods_97 : decode cX11_nods 97 = .ok (.iconst 2, 1) := by decide +kernel
theorem dX11_nods_98 : decode cX11_nods 98 = .ok (.invokevirtual 329, 3) := by decide +kernel
theorem dX11_nods_101 : decode cX11_nods 101 = .ok (.iadd, 1) := by decide +kernel
theorem dX11_nods_102 : decode cX11_nods 102 = .ok (.ireturn, 1) := by decide +kernel
theorem dX11_nods_103 : decode cX11_nods 103 = .ok (.aload_n 0, 1) := by decide +kernel
theorem dX11_nods_104 : decode cX11_nods 104 = .ok (.bipush 11, 2) := by decide +kernel
theorem dX11_nods_106 : decode cX11_nods 106 = .ok (.invokevirtual 325, 3) := by decide +kernel
theorem dX11_nods_109 : decode cX11_nods 109 = .ok (.aload_n 0, 1) := by decide +kernel
theorem dX11_nods_110 : decode cX11_nods 110 = .ok (.iload_n 1, 1) := by decide +kernel
theorem dX11_nods_111 : decode cX11_nods 111 = .ok (.aload_n 0, 1) := by decide +kernel
theorem dX11_nods_112 : decode cX11_nods 112 = .ok (.getfield 9, 3) := by decide +kernel
theorem dX11_nods_115 : decode cX11_nods 115 = .ok (.iload_n 1, 1) := by decide +kernel
theorem dX11_nods_116 : decode cX11_nods 116 = .ok (.iaload, 1) := by decide +kernel
theorem dX11_nods_117 : decode cX11_nods 117 = .ok (.iload_n 3, 1) := by decide +kernel
theorem dX11_nods_118 : decode cX11_nods 118 = .ok (.invokevirtual 329, 3) := by decide +kernel
theorem dX11_nods_121 : decode cX11_nods 121 = .ok (.aload_n 0, 1) := by decide +kernel
theorem dX11_nods_122 : decode cX11_nods 122 = .ok (.getfield 15, 3) := by decide +kernel
theorem dX11_nods_125 : decode cX11_nods 125 = .ok (.iload_n 1, 1) := by decide +kernel
theorem dX11_nods_126 : decode cX11_nods 126 = .ok (.iaload, 1) := by decide +kernel
theorem dX11_nods_127 : decode cX11_nods 127 = .ok (.isub, 1) := by decide +kernel
theorem dX11_nods_128 : decode cX11_nods 128 = .ok (.ireturn, 1) := by decide +kernel
theorem dX11_nods_129 : decode cX11_nods 129 = .ok (.aload_n 0, 1) := by decide +kernel
theorem dX11_nods_130 : decode cX11_nods 130 = .ok (.iload_n 1, 1) := by decide +kernel
theorem dX11_nods_131 : decode cX11_nods 131 = .ok (.iload_n 2, 1) := by decide +kernel
theorem dX11_nods_132 : decode cX11_nods 132 = .ok (.invokestatic 332, 3) := by decide +kernel
theorem dX11_nods_135 : decode cX11_nods 135 = .ok (.iload_n 3, 1) := by decide +kernel
theorem dX11_nods_136 : decode cX11_nods 136 = .ok (.invokevirtual 335, 3) := by decide +kernel
theorem dX11_nods_139 : decode cX11_nods 139 = .ok (.ireturn, 1) := by decide +kernel
theorem dX11_tells_0 : decode cX11_tells 0 = .ok (.iload_n 2, 1) := by decide +kernel
theorem dX11_tells_1 : decode cX11_tells 1 = .ok (.lookupswitch 103 #[(0, 82), (3, 35), (5, 66)], 35) := by decide +kernel
theorem dX11_tells_36 : decode cX11_tells 36 = .ok (.aload_n 0, 1) := by decide +kernel
theorem dX11_tells_37 : decode cX11_tells 37 = .ok (.bipush 40, 2) := by decide +kernel
theorem dX11_tells_39 : decode cX11_tells 39 = .ok (.invokevirtual 325, 3) := by decide +kernel
theorem dX11_tells_42 : decode cX11_tells 42 = .ok (.aload_n 0, 1) := by decide +kernel
theorem dX11_tells_43 : decode cX11_tells 43 = .ok (.iload_n 1, 1) := by decide +kernel
theorem dX11_tells_44 : decode cX11_tells 44 = .ok (.iconst 0, 1) := by decide +kernel
theorem dX11_tells_45 : decode cX11_tells 45 = .ok (.iload_n 3, 1) := by decide +kernel
theorem dX11_tells_46 : decode cX11_tells 46 = .ok (.invokevirtual 338, 3) := by decide +kernel
theorem dX11_tells_49 : decode cX11_tells 49 = .ok (.istore 4, 2) := by decide +kernel
theorem dX11_tells_51 : decode cX11_tells 51 = .ok (.iload 4, 2) := by decide +kernel
theorem dX11_tells_53 : decode cX11_tells 53 = .ok (.aload_n 0, 1) := by decide +kernel
theorem dX11_tells_54 : decode cX11_tells 54 = .ok (.iload_n 1, 1) := by decide +kernel
theorem dX11_tells_55 : decode cX11_tells 55 = .ok (.aload_n 0, 1) := by decide +kernel
theorem dX11_tells_56 : decode cX11_tells 56 = .ok (.getfield 9, 3) := by decide +kernel
theorem dX11_tells_59 : decode cX11_tells 59 = .ok (.iload_n 1, 1) := by decide +kernel
theorem dX11_tells_60 : decode cX11_tells 60 = .ok (.iaload, 1) := by decide +kernel
theorem dX11_tells_61 : decode cX11_tells 61 = .ok (.iconst 1, 1) := by decide +kernel
theorem dX11_tells_62 : decode cX11_tells 62 = .ok (.invokevirtual 335, 3) := by decide +kernel
theorem dX11_tells_65 : decode cX11_tells 65 = .ok (.iadd, 1) := by decide +kernel
theorem dX11_tells_66 : decode cX11_tells 66 = .ok (.ireturn, 1) := by decide +kernel
theorem dX11_tells_67 : decode cX11_tells 67 = .ok (.aload_n 0, 1) := by decide +kernel
theorem dX11_tells_68 : decode cX11_tells 68 = .ok (.bipush 60, 2) := by decide +kernel
theorem dX11_tells_70 : decode cX11_tells 70 = .ok (.invokevirtual 325, 3) := by decide +kernel
theorem dX11_tells_73 : decode cX11_tells 73 = .ok (.aload_n 0, 1) := by decide +kernel
theorem dX11_tells_74 : decode cX11_tells 74 = .ok (.iload_n 1, 1) := by decide +kernel
theorem dX11_tells_75 : decode cX11_tells 75 = .ok (.iconst 2, 1) := by decide +kernel
theorem dX11_tells_76 : decode cX11_tells 76 = .ok (.iload_n 3, 1) := by decide +kernel
theorem dX11_tells_77 : decode cX11_tells 77 = .ok (.iload_n 1, 1) := by decide +kernel
theorem dX11_tells_78 : decode cX11_tells 78 = .ok (.isub, 1) := by decide +kernel
theorem dX11_tells_79 : decode cX11_tells 79 = .ok (.invokevirtual 338, 3) := by decide +kernel
theorem dX11_tells_82 : decode cX11_tells 82 = .ok (.ireturn, 1) := by decide +kernel
theorem dX11_tells_83 : decode cX11_tells 83 = .ok (.aload_n 0, 1) := by decide +kernel
theorem dX11_tells_84 : decode cX11_tells 84 = .ok (.bipush 12, 2) := by decide +kernel
theorem dX11_tells_86 : decode cX11_tells 86 = .ok (.invokevirtual 325, 3) := by decide +kernel
theorem dX11_tells_89 : decode cX11_tells 89 = .ok (.aload_n 0, 1) := by decide +kernel
theorem dX11_tells_90 : decode cX11_tells 90 = .ok (.iload_n 1, 1) := by decide +kernel
theorem dX11_tells_91 : decode cX11_tells 91 = .ok (.aload_n 0, 1) := by decide +kernel
theorem dX11_tells_92 : decode cX11_tells 92 = .ok (.getfield 9, 3) := by decide +kernel
theorem dX11_tells_95 : decode cX11_tells 95 = .ok (.iload_n 1, 1) := by decide +kernel
theorem dX11_tells_96 : decode cX11_tells 96 = .ok (.iaload, 1) := by decide +kernel
theorem dX11_tells_97 : decode cX11_tells 97 = .ok (.iload_n 3, 1) := by decide +kernel
theorem dX11_tells_98 : decode cX11_tells 98 = .ok (.invokevirtual 335, 3) := by decide +kernel
theorem dX11_tells_101 : decode cX11_tells 101 = .ok (.iconst 2, 1) := by decide +kernel
theorem dX11_tells_102 : decode cX11_tells 102 = .ok (.imul, 1) := by decide +kernel
theorem dX11_tells_103 : decode cX11_tells 103 = .ok (.ireturn, 1) := by decide +kernel
theorem dX11_tells_104 : decode cX11_tells 104 = .ok (.aload_n 0, 1) := by decide +kernel
theorem dX11_tells_105 : decode cX11_tells 105 = .ok (.iload_n 1, 1) := by decide +kernel
theorem dX11_tells_106 : decode cX11_tells 106 = .ok (.iload_n 2, 1) := by decide +kernel
theorem dX11_tells_107 : decode cX11_tells 107 = .ok (.invokestatic 332, 3) := by decide +kernel
theorem dX11_tells_110 : decode cX11_tells 110 = .ok (.iload_n 3, 1) := by decide +kernel
theorem dX11_tells_111 : decode cX11_tells 111 = .ok (.invokevirtual 338, 3) := by decide +kernel
theorem dX11_tells_114 : decode cX11_tells 114 = .ok (.ireturn, 1) := by decide +kernel
theorem dX11_act_0 : decode cX11_act 0 = .ok (.aload_n 0, 1) := by decide +kernel
theorem dX11_act_1 : decode cX11_act 1 = .ok (.iconst 0, 1) := by decide +kernel
theorem dX11_act_2 : decode cX11_act 2 = .ok (.putfield 322, 3) := by decide +kernel
theorem dX11_act_5 : decode cX11_act 5 = .ok (.aload_n 0, 1) := by decide +kernel
theorem dX11_act_6 : decode cX11_act 6 = .ok (.iload_n 1, 1) := by decide +kernel
theorem dX11_act_7 : decode cX11_act 7 = .ok (.invokevirtual 128, 3) := by decide +kernel
theorem dX11_act_10 : decode cX11_act 10 = .ok (.ifCond .eq 12, 3) := by decide +kernel
theorem dX11_act_13 : decode cX11_act 13 = .ok (.iload_n 2, 1) := by decide +kernel
theorem dX11_act_14 : decode cX11_act 14 = .ok (.iconst 0, 1) := by decide +kernel
theorem dX11_act_15 : decode cX11_act 15 = .ok (.iconst 2, 1) := by decide +kernel
theorem dX11_act_16 : decode cX11_act 16 = .ok (.invokestatic 117, 3) := by decide +kernel
theorem dX11_act_19 : decode cX11_act 19 = .ok (.ifCond .ne 5, 3) := by decide +kernel
theorem dX11_act_22 : decode cX11_act 22 = .ok (.iconst 0, 1) := by decide +kernel
theorem dX11_act_23 : decode cX11_act 23 = .ok (.ireturn, 1) := by decide +kernel
theorem dX11_act_24 : decode cX11_act 24 = .ok (.aload_n 0, 1) := by decide +kernel
theorem dX11_act_25 : decode cX11_act 25 = .ok (.getfield 9, 3) := by decide +kernel
theorem dX11_act_28 : decode cX11_act 28 = .ok (.iload_n 1, 1) := by decide +kernel
theorem dX11_act_29 : decode cX11_act 29 = .ok (.iaload, 1) := by decide +kernel
theorem dX11_act_30 : decode cX11_act 30 = .ok (.istore 4, 2) := by decide +kernel
theorem dX11_act_32 : decode cX11_act 32 = .ok (.iload_n 2, 1) := by decide +kernel
theorem dX11_act_33 : decode cX11_act 33 = .ok (.ifCond .ne 14, 3) := by decide +kernel
theorem dX11_act_36 : decode cX11_act 36 = .ok (.aload_n 0, 1) := by decide +kernel
theorem dX11_act_37 : decode cX11_act 37 = .ok (.iload_n 1, 1) := by decide +kernel
theorem dX11_act_38 : decode cX11_act 38 = .ok (.iload 4, 2) := by decide +kernel
theorem dX11_act_40 : decode cX11_act 40 = .ok (.iload_n 3, 1) := by decide +kernel
theorem dX11_act_41 : decode cX11_act 41 = .ok (.invokevirtual 329, 3) := by decide +kernel
theorem dX11_act_44 : decode cX11_act 44 = .ok (.goto 27, 3) := by decide +kernel
theorem dX11_act_47 : decode cX11_act 47 = .ok (.iload_n 2, 1) := by decide +kernel
theorem dX11_act_48 : decode cX11_act 48 = .ok (.iconst 1, 1) := by decide +kernel
theorem dX11_act_49 : decode cX11_act 49 = .ok (.if_icmp .ne 14, 3) := by decide +kernel
theorem dX11_act_52 : decode cX11_act 52 = .ok (.aload_n 0, 1) := by decide +kernel
theorem dX11_act_53 : decode cX11_act 53 = .ok (.iload_n 1, 1) := by decide +kernel
theorem dX11_act_54 : decode cX11_act 54 = .ok (.iload 4, 2) := by decide +kernel
theorem dX11_act_56 : decode cX11_act 56 = .ok (.iload_n 3, 1) := by decide +kernel
theorem dX11_act_57 : decode cX11_act 57 = .ok (.invokevirtual 335, 3) := by decide +kernel
theorem dX11_act_60 : decode cX11_act 60 = .ok (.goto 11, 3) := by decide +kernel
theorem dX11_act_63 : decode cX11_act 63 = .ok (.aload_n 0, 1) := by decide +kernel
theorem dX11_act_64 : decode cX11_act 64 = .ok (.iload_n 1, 1) := by decide +kernel
theorem dX11_act_65 : decode cX11_act 65 = .ok (.iload 4, 2) := by decide +kernel
theorem dX11_act_67 : decode cX11_act 67 = .ok (.iload_n 3, 1) := by decide +kernel
theorem dX11_act_68 : decode cX11_act 68 = .ok (.invokevirtual 338, 3) := by decide +kernel
theorem dX11_act_71 : decode cX11_act 71 = .ok (.ireturn, 1) := by decide +kernel
theorem dX11_trace_0 : decode cX11_trace 0 = .ok (.iload_n 1, 1) := by decide +kernel
theorem dX11_trace_1 : decode cX11_trace 1 = .ok (.iconst 0, 1) := by decide +kernel
theorem dX11_trace_2 : decode cX11_trace 2 = .ok (.bipush 20, 2) := by decide +kernel
theorem dX11_trace_4 : decode cX11_trace 4 = .ok (.aload_n 0, 1) := by decide +kernel
theorem dX11_trace_5 : decode cX11_trace 5 = .ok (.getfield 322, 3) := by decide +kernel
theorem dX11_trace_8 : decode cX11_trace 8 = .ok (.invokestatic 252, 3) := by decide +kernel
theorem dX11_trace_11 : decode cX11_trace 11 = .ok (.iconst 1, 1) := by decide +kernel
theorem dX11_trace_12 : decode cX11_trace 12 = .ok (.isub, 1) := by decide +kernel
theorem dX11_trace_13 : decode cX11_trace 13 = .ok (.invokestatic 117, 3) := by decide +kernel
theorem dX11_trace_16 : decode cX11_trace 16 = .ok (.ifCond .eq 12, 3) := by decide +kernel
theorem dX11_trace_19 : decode cX11_trace 19 = .ok (.aload_n 0, 1) := by decide +kernel
theorem dX11_trace_20 : decode cX11_trace 20 = .ok (.getfield 85, 3) := by decide +kernel
theorem dX11_trace_23 : decode cX11_trace 23 = .ok (.iload_n 1, 1) := by decide +kernel
theorem dX11_trace_24 : decode cX11_trace 24 = .ok (.iaload, 1) := by decide +kernel
theorem dX11_trace_25 : decode cX11_trace 25 = .ok (.goto 4, 3) := by decide +kernel
theorem dX11_trace_28 : decode cX11_trace 28 = .ok (.iconst (-1), 1) := by decide +kernel
theorem dX11_trace_29 : decode cX11_trace 29 = .ok (.ireturn, 1) := by decide +kernel
theorem dX11_taken_0 : decode cX11_taken 0 = .ok (.iload_n 2, 1) := by decide +kernel
theorem dX11_taken_1 : decode cX11_taken 1 = .ok (.iconst 0, 1) := by decide +kernel
theorem dX11_taken_2 : decode cX11_taken 2 = .ok (.bipush 6, 2) := by decide +kernel
theorem dX11_taken_4 : decode cX11_taken 4 = .ok (.invokestatic 117, 3) := by decide +kernel
theorem dX11_taken_7 : decode cX11_taken 7 = .ok (.ifCond .ne 6, 3) := by decide +kernel
theorem dX11_taken_10 : decode cX11_taken 10 = .ok (.bipush (-2), 2) := by decide +kernel
theorem dX11_taken_12 : decode cX11_taken 12 = .ok (.ireturn, 1) := by decide +kernel
theorem dX11_taken_13 : decode cX11_taken 13 = .ok (.aload_n 0, 1) := by decide +kernel
theorem dX11_taken_14 : decode cX11_taken 14 = .ok (.iload_n 1, 1) := by decide +kernel
theorem dX11_taken_15 : decode cX11_taken 15 = .ok (.invokevirtual 128, 3) := by decide +kernel
theorem dX11_taken_18 : decode cX11_taken 18 = .ok (.ifCond .ne 6, 3) := by decide +kernel
theorem dX11_taken_21 : decode cX11_taken 21 = .ok (.bipush (-11), 2) := by decide +kernel
theorem dX11_taken_23 : decode cX11_taken 23 = .ok (.ireturn, 1) := by decide +kernel
theorem dX11_taken_24 : decode cX11_taken 24 = .ok (.aload_n 0, 1) := by decide +kernel
theorem dX11_taken_25 : decode cX11_taken 25 = .ok (.getfield 9, 3) := by decide +kernel
theorem dX11_taken_28 : decode cX11_taken 28 = .ok (.iload_n 1, 1) := by decide +kernel
theorem dX11_taken_29 : decode cX11_taken 29 = .ok (.iaload, 1) := by decide +kernel
theorem dX11_taken_30 : decode cX11_taken 30 = .ok (.istore_n 3, 1) := by decide +kernel
theorem dX11_taken_31 : decode cX11_taken 31 = .ok (.iload_n 3, 1) := by decide +kernel
theorem dX11_taken_32 : decode cX11_taken 32 = .ok (.iload_n 2, 1) := by decide +kernel
theorem dX11_taken_33 : decode cX11_taken 33 = .ok (.if_icmp .eq 15, 3) := by decide +kernel
theorem dX11_taken_36 : decode cX11_taken 36 = .ok (.iload_n 3, 1) := by decide +kernel
theorem dX11_taken_37 : decode cX11_taken 37 = .ok (.ifCond .le 11, 3) := by decide +kernel
theorem dX11_taken_40 : decode cX11_taken 40 = .ok (.iload_n 3, 1) := by decide +kernel
theorem dX11_taken_41 : decode cX11_taken 41 = .ok (.invokestatic 332, 3) := by decide +kernel
theorem dX11_taken_44 : decode cX11_taken 44 = .ok (.istore_n 3, 1) := by decide +kernel
theorem dX11_taken_45 : decode cX11_taken 45 = .ok (.goto (-14), 3) := by decide +kernel
theorem dX11_taken_48 : decode cX11_taken 48 = .ok (.iload_n 3, 1) := by decide +kernel
theorem dX11_taken_49 : decode cX11_taken 49 = .ok (.iload_n 2, 1) := by decide +kernel
theorem dX11_taken_50 : decode cX11_taken 50 = .ok (.if_icmp .ne 12, 3) := by decide +kernel
theorem dX11_taken_53 : decode cX11_taken 53 = .ok (.aload_n 0, 1) := by decide +kernel
theorem dX11_taken_54 : decode cX11_taken 54 = .ok (.getfield 9, 3) := by decide +kernel
theorem dX11_taken_57 : decode cX11_taken 57 = .ok (.iload_n 1, 1) := by decide +kernel
theorem dX11_taken_58 : decode cX11_taken 58 = .ok (.iaload, 1) := by decide +kernel
theorem dX11_taken_59 : decode cX11_taken 59 = .ok (.goto 5, 3) := by decide +kernel
theorem dX11_taken_62 : decode cX11_taken 62 = .ok (.bipush (-12), 2) := by decide +kernel
theorem dX11_taken_64 : decode cX11_taken 64 = .ok (.ireturn, 1) := by decide +kernel
theorem dX11_count_0 : decode cX11_count 0 = .ok (.iload_n 1, 1) := by decide +kernel
theorem dX11_count_1 : decode cX11_count 1 = .ok (.tableswitch 87 0 7 #[47, 52, 57, 62, 67, 72, 77, 82], 47) := by decide +kernel
theorem dX11_count_48 : decode cX11_count 48 = .ok (.aload_n 0, 1) := by decide +kernel
theorem dX11_count_49 : decode cX11_count 49 = .ok (.getfield 114, 3) := by decide +kernel
theorem dX11_count_52 : decode cX11_count 52 = .ok (.ireturn, 1) := by decide +kernel
theorem dX11_count_53 : decode cX11_count 53 = .ok (.aload_n 0, 1) := by decide +kernel
theorem dX11_count_54 : decode cX11_count 54 = .ok (.getfield 121, 3) := by decide +kernel
theorem dX11_count_57 : decode cX11_count 57 = .ok (.ireturn, 1) := by decide +kernel
theorem dX11_count_58 : decode cX11_count 58 = .ok (.aload_n 0, 1) := by decide +kernel
theorem dX11_count_59 : decode cX11_count 59 = .ok (.getfield 224, 3) := by decide +kernel
theorem dX11_count_62 : decode cX11_count 62 = .ok (.ireturn, 1) := by decide +kernel
theorem dX11_count_63 : decode cX11_count 63 = .ok (.aload_n 0, 1) := by decide +kernel
theorem dX11_count_64 : decode cX11_count 64 = .ok (.getfield 298, 3) := by decide +kernel
theorem dX11_count_67 : decode cX11_count 67 = .ok (.ireturn, 1) := by decide +kernel
theorem dX11_count_68 : decode cX11_count 68 = .ok (.aload_n 0, 1) := by decide +kernel
theorem dX11_count_69 : decode cX11_count 69 = .ok (.getfield 312, 3) := by decide +kernel
theorem dX11_count_72 : decode cX11_count 72 = .ok (.ireturn, 1) := by decide +kernel
theorem dX11_count_73 : decode cX11_count 73 = .ok (.aload_n 0, 1) := by decide +kernel
theorem dX11_count_74 : decode cX11_count 74 = .ok (.getfield 315, 3) := by decide +kernel
theorem dX11_count_77 : decode cX11_count 77 = .ok (.ireturn, 1) := by decide +kernel
theorem dX11_count_78 : decode cX11_count 78 = .ok (.aload_n 0, 1) := by decide +kernel
theorem dX11_count_79 : decode cX11_count 79 = .ok (.getfield 152, 3) := by decide +kernel
theorem dX11_count_82 : decode cX11_count 82 = .ok (.ireturn, 1) := by decide +kernel
theorem dX11_count_83 : decode cX11_count 83 = .ok (.aload_n 0, 1) := by decide +kernel
theorem dX11_count_84 : decode cX11_count 84 = .ok (.getfield 322, 3) := by decide +kernel
theorem dX11_count_87 : decode cX11_count 87 = .ok (.ireturn, 1) := by decide +kernel
theorem dX11_count_88 : decode cX11_count 88 = .ok (.bipush (-2), 2) := by decide +kernel
theorem dX11_count_90 : decode cX11_count 90 = .ok (.ireturn, 1) := by decide +kernel
theorem dX11_isTape_0 : decode cX11_isTape 0 = .ok (.iload_n 0, 1) := by decide +kernel
theorem dX11_isTape_1 : decode cX11_isTape 1 = .ok (.iconst 0, 1) := by decide +kernel
theorem dX11_isTape_2 : decode cX11_isTape 2 = .ok (.iconst 5, 1) := by decide +kernel
theorem dX11_isTape_3 : decode cX11_isTape 3 = .ok (.invokestatic 117, 3) := by decide +kernel
theorem dX11_isTape_6 : decode cX11_isTape 6 = .ok (.ireturn, 1) := by decide +kernel
theorem dX11_tape_0 : decode cX11_tape 0 = .ok (.iload_n 1, 1) := by decide +kernel
theorem dX11_tape_1 : decode cX11_tape 1 = .ok (.invokestatic 341, 3) := by decide +kernel
theorem dX11_tape_4 : decode cX11_tape 4 = .ok (.ifCond .ne 5, 3) := by decide +kernel
theorem dX11_tape_7 : decode cX11_tape 7 = .ok (.iconst (-1), 1) := by decide +kernel
theorem dX11_tape_8 : decode cX11_tape 8 = .ok (.ireturn, 1) := by decide +kernel
theorem dX11_tape_9 : decode cX11_tape 9 = .ok (.iload_n 2, 1) := by decide +kernel
theorem dX11_tape_10 : decode cX11_tape 10 = .ok (.iconst (-1), 1) := by decide +kernel
theorem dX11_tape_11 : decode cX11_tape 11 = .ok (.iconst 4, 1) := by decide +kernel
theorem dX11_tape_12 : decode cX11_tape 12 = .ok (.invokestatic 117, 3) := by decide +kernel
theorem dX11_tape_15 : decode cX11_tape 15 = .ok (.ifCond .eq 13, 3) := by decide +kernel
theorem dX11_tape_18 : decode cX11_tape 18 = .ok (.iload_n 2, 1) := by decide +kernel
theorem dX11_tape_19 : decode cX11_tape 19 = .ok (.ifCond .lt 12, 3) := by decide +kernel
theorem dX11_tape_22 : decode cX11_tape 22 = .ok (.iload_n 3, 1) := by decide +kernel
theorem dX11_tape_23 : decode cX11_tape 23 = .ok (.bipush 60, 2) := by decide +kernel
theorem dX11_tape_25 : decode cX11_tape 25 = .ok (.if_icmp .le 6, 3) := by decide +kernel
theorem dX11_tape_28 : decode cX11_tape 28 = .ok (.bipush (-2), 2) := by decide +kernel
theorem dX11_tape_30 : decode cX11_tape 30 = .ok (.ireturn, 1) := by decide +kernel
theorem dX11_tape_31 : decode cX11_tape 31 = .ok (.iload_n 2, 1) := by decide +kernel
theorem dX11_tape_32 : decode cX11_tape 32 = .ok (.ifCond .lt 10, 3) := by decide +kernel
theorem dX11_tape_35 : decode cX11_tape 35 = .ok (.iload_n 3, 1) := by decide +kernel
theorem dX11_tape_36 : decode cX11_tape 36 = .ok (.ifCond .ge 6, 3) := by decide +kernel
theorem dX11_tape_39 : decode cX11_tape 39 = .ok (.bipush (-14), 2) := by decide +kernel
theorem dX11_tape_41 : decode cX11_tape 41 = .ok (.ireturn, 1) := by decide +kernel
theorem dX11_tape_42 : decode cX11_tape 42 = .ok (.aload_n 0, 1) := by decide +kernel
theorem dX11_tape_43 : decode cX11_tape 43 = .ok (.getfield 100, 3) := by decide +kernel
theorem dX11_tape_46 : decode cX11_tape 46 = .ok (.iload_n 1, 1) := by decide +kernel
theorem dX11_tape_47 : decode cX11_tape 47 = .ok (.iload_n 2, 1) := by decide +kernel
theorem dX11_tape_48 : decode cX11_tape 48 = .ok (.iastore, 1) := by decide +kernel
theorem dX11_tape_49 : decode cX11_tape 49 = .ok (.aload_n 0, 1) := by decide +kernel
theorem dX11_tape_50 : decode cX11_tape 50 = .ok (.getfield 103, 3) := by decide +kernel
theorem dX11_tape_53 : decode cX11_tape 53 = .ok (.iload_n 1, 1) := by decide +kernel
theorem dX11_tape_54 : decode cX11_tape 54 = .ok (.iload_n 2, 1) := by decide +kernel
theorem dX11_tape_55 : decode cX11_tape 55 = .ok (.ifCond .ge 7, 3) := by decide +kernel
theorem dX11_tape_58 : decode cX11_tape 58 = .ok (.iconst 0, 1) := by decide +kernel
theorem dX11_tape_59 : decode cX11_tape 59 = .ok (.goto 4, 3) := by decide +kernel
theorem dX11_tape_62 : decode cX11_tape 62 = .ok (.iload_n 3, 1) := by decide +kernel
theorem dX11_tape_63 : decode cX11_tape 63 = .ok (.iastore, 1) := by decide +kernel
theorem dX11_tape_64 : decode cX11_tape 64 = .ok (.iconst 0, 1) := by decide +kernel
theorem dX11_tape_65 : decode cX11_tape 65 = .ok (.istore 4, 2) := by decide +kernel
theorem dX11_tape_67 : decode cX11_tape 67 = .ok (.iload 4, 2) := by decide +kernel
theorem dX11_tape_69 : decode cX11_tape 69 = .ok (.bipush 60, 2) := by decide +kernel
theorem dX11_tape_71 : decode cX11_tape 71 = .ok (.if_icmp .ge 22, 3) := by decide +kernel
theorem dX11_tape_74 : decode cX11_tape 74 = .ok (.aload_n 0, 1) := by decide +kernel
theorem dX11_tape_75 : decode cX11_tape 75 = .ok (.getfield 106, 3) := by decide +kernel
theorem dX11_tape_78 : decode cX11_tape 78 = .ok (.bipush 60, 2) := by decide +kernel
theorem dX11_tape_80 : decode cX11_tape 80 = .ok (.iload_n 1, 1) := by decide +kernel
theorem dX11_tape_81 : decode cX11_tape 81 = .ok (.imul, 1) := by decide +kernel
theorem dX11_tape_82 : decode cX11_tape 82 = .ok (.iload 4, 2) := by decide +kernel
theorem dX11_tape_84 : decode cX11_tape 84 = .ok (.iadd, 1) := by decide +kernel
theorem dX11_tape_85 : decode cX11_tape 85 = .ok (.lconst 0, 1) := by decide +kernel
theorem dX11_tape_86 : decode cX11_tape 86 = .ok (.lastore, 1) := by decide +kernel
theorem dX11_tape_87 : decode cX11_tape 87 = .ok (.iinc 4 1, 3) := by decide +kernel
theorem dX11_tape_90 : decode cX11_tape 90 = .ok (.goto (-23), 3) := by decide +kernel
theorem dX11_tape_93 : decode cX11_tape 93 = .ok (.iconst 1, 1) := by decide +kernel
theorem dX11_tape_94 : decode cX11_tape 94 = .ok (.ireturn, 1) := by decide +kernel
theorem dX11_kept_0 : decode cX11_kept 0 = .ok (.iload_n 0, 1) := by decide +kernel
theorem dX11_kept_1 : decode cX11_kept 1 = .ok (.tableswitch 47 0 3 #[31, 36, 41, 45], 31) := by decide +kernel
theorem dX11_kept_32 : decode cX11_kept 32 = .ok (.lload_n 1, 1) := by decide +kernel
theorem dX11_kept_33 : decode cX11_kept 33 = .ok (.l2i, 1) := by decide +kernel
theorem dX11_kept_34 : decode cX11_kept 34 = .ok (.i2b, 1) := by decide +kernel
theorem dX11_kept_35 : decode cX11_kept 35 = .ok (.i2l, 1) := by decide +kernel
theorem dX11_kept_36 : decode cX11_kept 36 = .ok (.lreturn, 1) := by decide +kernel
theorem dX11_kept_37 : decode cX11_kept 37 = .ok (.lload_n 1, 1) := by decide +kernel
theorem dX11_kept_38 : decode cX11_kept 38 = .ok (.l2i, 1) := by decide +kernel
theorem dX11_kept_39 : decode cX11_kept 39 = .ok (.i2s, 1) := by decide +kernel
theorem dX11_kept_40 : decode cX11_kept 40 = .ok (.i2l, 1) := by decide +kernel
theorem dX11_kept_41 : decode cX11_kept 41 = .ok (.lreturn, 1) := by decide +kernel
theorem dX11_kept_42 : decode cX11_kept 42 = .ok (.lload_n 1, 1) := by decide +kernel
theorem dX11_kept_43 : decode cX11_kept 43 = .ok (.l2i, 1) := by decide +kernel
theorem dX11_kept_44 : decode cX11_kept 44 = .ok (.i2l, 1) := by decide +kernel
theorem dX11_kept_45 : decode cX11_kept 45 = .ok (.lreturn, 1) := by decide +kernel
theorem dX11_kept_46 : decode cX11_kept 46 = .ok (.lload_n 1, 1) := by decide +kernel
theorem dX11_kept_47 : decode cX11_kept 47 = .ok (.lreturn, 1) := by decide +kernel
theorem dX11_kept_48 : decode cX11_kept 48 = .ok (.lload_n 1, 1) := by decide +kernel
theorem dX11_kept_49 : decode cX11_kept 49 = .ok (.lconst 0, 1) := by decide +kernel
theorem dX11_kept_50 : decode cX11_kept 50 = .ok (.lcmp, 1) := by decide +kernel
theorem dX11_kept_51 : decode cX11_kept 51 = .ok (.ifCond .eq 7, 3) := by decide +kernel
theorem dX11_kept_54 : decode cX11_kept 54 = .ok (.lconst 1, 1) := by decide +kernel
theorem dX11_kept_55 : decode cX11_kept 55 = .ok (.goto 4, 3) := by decide +kernel
theorem dX11_kept_58 : decode cX11_kept 58 = .ok (.lconst 0, 1) := by decide +kernel
theorem dX11_kept_59 : decode cX11_kept 59 = .ok (.lreturn, 1) := by decide +kernel
theorem dX11_item_0 : decode cX11_item 0 = .ok (.iload_n 1, 1) := by decide +kernel
theorem dX11_item_1 : decode cX11_item 1 = .ok (.invokestatic 341, 3) := by decide +kernel
theorem dX11_item_4 : decode cX11_item 4 = .ok (.ifCond .ne 5, 3) := by decide +kernel
theorem dX11_item_7 : decode cX11_item 7 = .ok (.iconst (-1), 1) := by decide +kernel
theorem dX11_item_8 : decode cX11_item 8 = .ok (.ireturn, 1) := by decide +kernel
theorem dX11_item_9 : decode cX11_item 9 = .ok (.aload_n 0, 1) := by decide +kernel
theorem dX11_item_10 : decode cX11_item 10 = .ok (.getfield 100, 3) := by decide +kernel
theorem dX11_item_13 : decode cX11_item 13 = .ok (.iload_n 1, 1) := by decide +kernel
theorem dX11_item_14 : decode cX11_item 14 = .ok (.iaload, 1) := by decide +kernel
theorem dX11_item_15 : decode cX11_item 15 = .ok (.ifCond .ge 6, 3) := by decide +kernel
theorem dX11_item_18 : decode cX11_item 18 = .ok (.bipush (-11), 2) := by decide +kernel
theorem dX11_item_20 : decode cX11_item 20 = .ok (.ireturn, 1) := by decide +kernel
theorem dX11_item_21 : decode cX11_item 21 = .ok (.iload_n 2, 1) := by decide +kernel
theorem dX11_item_22 : decode cX11_item 22 = .ok (.iconst 0, 1) := by decide +kernel
theorem dX11_item_23 : decode cX11_item 23 = .ok (.aload_n 0, 1) := by decide +kernel
theorem dX11_item_24 : decode cX11_item 24 = .ok (.getfield 103, 3) := by decide +kernel
theorem dX11_item_27 : decode cX11_item 27 = .ok (.iload_n 1, 1) := by decide +kernel
theorem dX11_item_28 : decode cX11_item 28 = .ok (.iaload, 1) := by decide +kernel
theorem dX11_item_29 : decode cX11_item 29 = .ok (.iconst 1, 1) := by decide +kernel
theorem dX11_item_30 : decode cX11_item 30 = .ok (.isub, 1) := by decide +kernel
theorem dX11_item_31 : decode cX11_item 31 = .ok (.invokestatic 117, 3) := by decide +kernel
theorem dX11_item_34 : decode cX11_item 34 = .ok (.ifCond .ne 6, 3) := by decide +kernel
theorem dX11_item_37 : decode cX11_item 37 = .ok (.bipush (-13), 2) := by decide +kernel
theorem dX11_item_39 : decode cX11_item 39 = .ok (.ireturn, 1) := by decide +kernel
theorem dX11_item_40 : decode cX11_item 40 = .ok (.aload_n 0, 1) := by decide +kernel
theorem dX11_item_41 : decode cX11_item 41 = .ok (.getfield 106, 3) := by decide +kernel
theorem dX11_item_44 : decode cX11_item 44 = .ok (.bipush 60, 2) := by decide +kernel
theorem dX11_item_46 : decode cX11_item 46 = .ok (.iload_n 1, 1) := by decide +kernel
theorem dX11_item_47 : decode cX11_item 47 = .ok (.imul, 1) := by decide +kernel
theorem dX11_item_48 : decode cX11_item 48 = .ok (.iload_n 2, 1) := by decide +kernel
theorem dX11_item_49 : decode cX11_item 49 = .ok (.iadd, 1) := by decide +kernel
theorem dX11_item_50 : decode cX11_item 50 = .ok (.aload_n 0, 1) := by decide +kernel
theorem dX11_item_51 : decode cX11_item 51 = .ok (.getfield 100, 3) := by decide +kernel
theorem dX11_item_54 : decode cX11_item 54 = .ok (.iload_n 1, 1) := by decide +kernel
theorem dX11_item_55 : decode cX11_item 55 = .ok (.iaload, 1) := by decide +kernel
theorem dX11_item_56 : decode cX11_item 56 = .ok (.lload_n 3, 1) := by decide +kernel
theorem dX11_item_57 : decode cX11_item 57 = .ok (.invokestatic 344, 3) := by decide +kernel
theorem dX11_item_60 : decode cX11_item 60 = .ok (.lastore, 1) := by decide +kernel
theorem dX11_item_61 : decode cX11_item 61 = .ok (.iconst 1, 1) := by decide +kernel
theorem dX11_item_62 : decode cX11_item 62 = .ok (.ireturn, 1) := by decide +kernel
theorem dX11_read_0 : decode cX11_read 0 = .ok (.iload_n 1, 1) := by decide +kernel
theorem dX11_read_1 : decode cX11_read 1 = .ok (.invokestatic 341, 3) := by decide +kernel
theorem dX11_read_4 : decode cX11_read 4 = .ok (.ifCond .eq 42, 3) := by decide +kernel
theorem dX11_read_7 : decode cX11_read 7 = .ok (.aload_n 0, 1) := by decide +kernel
theorem dX11_read_8 : decode cX11_read 8 = .ok (.getfield 100, 3) := by decide +kernel
theorem dX11_read_11 : decode cX11_read 11 = .ok (.iload_n 1, 1) := by decide +kernel
theorem dX11_read_12 : decode cX11_read 12 = .ok (.iaload, 1) := by decide +kernel
theorem dX11_read_13 : decode cX11_read 13 = .ok (.ifCond .lt 33, 3) := by decide +kernel
theorem dX11_read_16 : decode cX11_read 16 = .ok (.iload_n 2, 1) := by decide +kernel
theorem dX11_read_17 : decode cX11_read 17 = .ok (.iconst 0, 1) := by decide +kernel
theorem dX11_read_18 : decode cX11_read 18 = .ok (.aload_n 0, 1) := by decide +kernel
theorem dX11_read_19 : decode cX11_read 19 = .ok (.getfield 103, 3) := by decide +kernel
theorem dX11_read_22 : decode cX11_read 22 = .ok (.iload_n 1, 1) := by decide +kernel
theorem dX11_read_23 : decode cX11_read 23 = .ok (.iaload, 1) := by decide +kernel
theorem dX11_read_24 : decode cX11_read 24 = .ok (.iconst 1, 1) := by decide +kernel
theorem dX11_read_25 : decode cX11_read 25 = .ok (.isub, 1) := by decide +kernel
theorem dX11_read_26 : decode cX11_read 26 = .ok (.invokestatic 117, 3) := by decide +kernel
theorem dX11_read_29 : decode cX11_read 29 = .ok (.ifCond .eq 17, 3) := by decide +kernel
theorem dX11_read_32 : decode cX11_read 32 = .ok (.aload_n 0, 1) := by decide +kernel
theorem dX11_read_33 : decode cX11_read 33 = .ok (.getfield 106, 3) := by decide +kernel
theorem dX11_read_36 : decode cX11_read 36 = .ok (.bipush 60, 2) := by decide +kernel
theorem dX11_read_38 : decode cX11_read 38 = .ok (.iload_n 1, 1) := by decide +kernel
theorem dX11_read_39 : decode cX11_read 39 = .ok (.imul, 1) := by decide +kernel
theorem dX11_read_40 : decode cX11_read 40 = .ok (.iload_n 2, 1) := by decide +kernel
theorem dX11_read_41 : decode cX11_read 41 = .ok (.iadd, 1) := by decide +kernel
theorem dX11_read_42 : decode cX11_read 42 = .ok (.laload, 1) := by decide +kernel
theorem dX11_read_43 : decode cX11_read 43 = .ok (.goto 6, 3) := by decide +kernel
theorem dX11_read_46 : decode cX11_read 46 = .ok (.ldc2_w 304, 3) := by decide +kernel
theorem dX11_read_49 : decode cX11_read 49 = .ok (.lreturn, 1) := by decide +kernel
theorem dX11_shift_0 : decode cX11_shift 0 = .ok (.iload_n 1, 1) := by decide +kernel
theorem dX11_shift_1 : decode cX11_shift 1 = .ok (.invokestatic 341, 3) := by decide +kernel
theorem dX11_shift_4 : decode cX11_shift 4 = .ok (.ifCond .eq 10, 3) := by decide +kernel
theorem dX11_shift_7 : decode cX11_shift 7 = .ok (.iload_n 3, 1) := by decide +kernel
theorem dX11_shift_8 : decode cX11_shift 8 = .ok (.invokestatic 341, 3) := by decide +kernel
theorem dX11_shift_11 : decode cX11_shift 11 = .ok (.ifCond .ne 5, 3) := by decide +kernel
theorem dX11_shift_14 : decode cX11_shift 14 = .ok (.iconst (-1), 1) := by decide +kernel
theorem dX11_shift_15 : decode cX11_shift 15 = .ok (.ireturn, 1) := by decide +kernel
theorem dX11_shift_16 : decode cX11_shift 16 = .ok (.aload_n 0, 1) := by decide +kernel
theorem dX11_shift_17 : decode cX11_shift 17 = .ok (.getfield 100, 3) := by decide +kernel
theorem dX11_shift_20 : decode cX11_shift 20 = .ok (.iload_n 1, 1) := by decide +kernel
theorem dX11_shift_21 : decode cX11_shift 21 = .ok (.iaload, 1) := by decide +kernel
theorem dX11_shift_22 : decode cX11_shift 22 = .ok (.ifCond .lt 12, 3) := by decide +kernel
theorem dX11_shift_25 : decode cX11_shift 25 = .ok (.aload_n 0, 1) := by decide +kernel
theorem dX11_shift_26 : decode cX11_shift 26 = .ok (.getfield 100, 3) := by decide +kernel
theorem dX11_shift_29 : decode cX11_shift 29 = .ok (.iload_n 3, 1) := by decide +kernel
theorem dX11_shift_30 : decode cX11_shift 30 = .ok (.iaload, 1) := by decide +kernel
theorem dX11_shift_31 : decode cX11_shift 31 = .ok (.ifCond .ge 6, 3) := by decide +kernel
theorem dX11_shift_34 : decode cX11_shift 34 = .ok (.bipush (-11), 2) := by decide +kernel
theorem dX11_shift_36 : decode cX11_shift 36 = .ok (.ireturn, 1) := by decide +kernel
theorem dX11_shift_37 : decode cX11_shift 37 = .ok (.aload_n 0, 1) := by decide +kernel
theorem dX11_shift_38 : decode cX11_shift 38 = .ok (.getfield 100, 3) := by decide +kernel
theorem dX11_shift_41 : decode cX11_shift 41 = .ok (.iload_n 1, 1) := by decide +kernel
theorem dX11_shift_42 : decode cX11_shift 42 = .ok (.iaload, 1) := by decide +kernel
theorem dX11_shift_43 : decode cX11_shift 43 = .ok (.aload_n 0, 1) := by decide +kernel
theorem dX11_shift_44 : decode cX11_shift 44 = .ok (.getfield 100, 3) := by decide +kernel
theorem dX11_shift_47 : decode cX11_shift 47 = .ok (.iload_n 3, 1) := by decide +kernel
theorem dX11_shift_48 : decode cX11_shift 48 = .ok (.iaload, 1) := by decide +kernel
theorem dX11_shift_49 : decode cX11_shift 49 = .ok (.if_icmp .eq 6, 3) := by decide +kernel
theorem dX11_shift_52 : decode cX11_shift 52 = .ok (.bipush (-12), 2) := by decide +kernel
theorem dX11_shift_54 : decode cX11_shift 54 = .ok (.ireturn, 1) := by decide +kernel
theorem dX11_shift_55 : decode cX11_shift 55 = .ok (.iload 5, 2) := by decide +kernel
theorem dX11_shift_57 : decode cX11_shift 57 = .ok (.ifCond .lt 47, 3) := by decide +kernel
theorem dX11_shift_60 : decode cX11_shift 60 = .ok (.iload_n 2, 1) := by decide +kernel
theorem dX11_shift_61 : decode cX11_shift 61 = .ok (.ifCond .lt 43, 3) := by decide +kernel
theorem dX11_shift_64 : decode cX11_shift 64 = .ok (.iload 4, 2) := by decide +kernel
theorem dX11_shift_66 : decode cX11_shift 66 = .ok (.ifCond .lt 38, 3) := by decide +kernel
theorem dX11_shift_69 : decode cX11_shift 69 = .ok (.iload_n 2, 1) := by decide +kernel
theorem dX11_shift_70 : decode cX11_shift 70 = .ok (.i2l, 1) := by decide +kernel
theorem dX11_shift_71 : decode cX11_shift 71 = .ok (.iload 5, 2) := by decide +kernel
theorem dX11_shift_73 : decode cX11_shift 73 = .ok (.i2l, 1) := by decide +kernel
theorem dX11_shift_74 : decode cX11_shift 74 = .ok (.ladd, 1) := by decide +kernel
theorem dX11_shift_75 : decode cX11_shift 75 = .ok (.aload_n 0, 1) := by decide +kernel
theorem dX11_shift_76 : decode cX11_shift 76 = .ok (.getfield 103, 3) := by decide +kernel
theorem dX11_shift_79 : decode cX11_shift 79 = .ok (.iload_n 1, 1) := by decide +kernel
theorem dX11_shift_80 : decode cX11_shift 80 = .ok (.iaload, 1) := by decide +kernel
theorem dX11_shift_81 : decode cX11_shift 81 = .ok (.i2l, 1) := by decide +kernel
theorem dX11_shift_82 : decode cX11_shift 82 = .ok (.lcmp, 1) := by decide +kernel
theorem dX11_shift_83 : decode cX11_shift 83 = .ok (.ifCond .gt 21, 3) := by decide +kernel
theorem dX11_shift_86 : decode cX11_shift 86 = .ok (.iload 4, 2) := by decide +kernel
theorem dX11_shift_88 : decode cX11_shift 88 = .ok (.i2l, 1) := by decide +kernel
theorem dX11_shift_89 : decode cX11_shift 89 = .ok (.iload 5, 2) := by decide +kernel
theorem dX11_shift_91 : decode cX11_shift 91 = .ok (.i2l, 1) := by decide +kernel
theorem dX11_shift_92 : decode cX11_shift 92 = .ok (.ladd, 1) := by decide +kernel
theorem dX11_shift_93 : decode cX11_shift 93 = .ok (.aload_n 0, 1) := by decide +kernel
theorem dX11_shift_94 : decode cX11_shift 94 = .ok (.getfield 103, 3) := by decide +kernel
theorem dX11_shift_97 : decode cX11_shift 97 = .ok (.iload_n 3, 1) := by decide +kernel
theorem dX11_shift_98 : decode cX11_shift 98 = .ok (.iaload, 1) := by decide +kernel
theorem dX11_shift_99 : decode cX11_shift 99 = .ok (.i2l, 1) := by decide +kernel
theorem dX11_shift_100 : decode cX11_shift 100 = .ok (.lcmp, 1) := by decide +kernel
theorem dX11_shift_101 : decode cX11_shift 101 = .ok (.ifCond .le 6, 3) := by decide +kernel
theorem dX11_shift_104 : decode cX11_shift 104 = .ok (.bipush (-13), 2) := by decide +kernel
theorem dX11_shift_106 : decode cX11_shift 106 = .ok (.ireturn, 1) := by decide +kernel
theorem dX11_shift_107 : decode cX11_shift 107 = .ok (.iload_n 1, 1) := by decide +kernel
theorem dX11_shift_108 : decode cX11_shift 108 = .ok (.iload_n 3, 1) := by decide +kernel
theorem dX11_shift_109 : decode cX11_shift 109 = .ok (.if_icmp .ne 58, 3) := by decide +kernel
theorem dX11_shift_112 : decode cX11_shift 112 = .ok (.iload_n 2, 1) := by decide +kernel
theorem dX11_shift_113 : decode cX11_shift 113 = .ok (.iload 4, 2) := by decide +kernel
theorem dX11_shift_115 : decode cX11_shift 115 = .ok (.if_icmp .ge 52, 3) := by decide +kernel
theorem dX11_shift_118 : decode cX11_shift 118 = .ok (.iload 5, 2) := by decide +kernel
theorem dX11_shift_120 : decode cX11_shift 120 = .ok (.iconst 1, 1) := by decide +kernel
theorem dX11_shift_121 : decode cX11_shift 121 = .ok (.isub, 1) := by decide +kernel
theorem dX11_shift_122 : decode cX11_shift 122 = .ok (.istore 6, 2) := by decide +kernel
theorem dX11_shift_124 : decode cX11_shift 124 = .ok (.iload 6, 2) := by decide +kernel
theorem dX11_shift_126 : decode cX11_shift 126 = .ok (.ifCond .lt 38, 3) := by decide +kernel
theorem dX11_shift_129 : decode cX11_shift 129 = .ok (.aload_n 0, 1) := by decide +kernel
theorem dX11_shift_130 : decode cX11_shift 130 = .ok (.getfield 106, 3) := by decide +kernel
theorem dX11_shift_133 : decode cX11_shift 133 = .ok (.bipush 60, 2) := by decide +kernel
theorem dX11_shift_135 : decode cX11_shift 135 = .ok (.iload_n 3, 1) := by decide +kernel
theorem dX11_shift_136 : decode cX11_shift 136 = .ok (.imul, 1) := by decide +kernel
theorem dX11_shift_137 : decode cX11_shift 137 = .ok (.iload 4, 2) := by decide +kernel
theorem dX11_shift_139 : decode cX11_shift 139 = .ok (.iadd, 1) := by decide +kernel
theorem dX11_shift_140 : decode cX11_shift 140 = .ok (.iload 6, 2) := by decide +kernel
theorem dX11_shift_142 : decode cX11_shift 142 = .ok (.iadd, 1) := by decide +kernel
theorem dX11_shift_143 : decode cX11_shift 143 = .ok (.aload_n 0, 1) := by decide +kernel
theorem dX11_shift_144 : decode cX11_shift 144 = .ok (.getfield 106, 3) := by decide +kernel
theorem dX11_shift_147 : decode cX11_shift 147 = .ok (.bipush 60, 2) := by decide +kernel
theorem dX11_shift_149 : decode cX11_shift 149 = .ok (.iload_n 1, 1) := by decide +kernel
theorem dX11_shift_150 : decode cX11_shift 150 = .ok (.imul, 1) := by decide +kernel
theorem dX11_shift_151 : decode cX11_shift 151 = .ok (.iload_n 2, 1) := by decide +kernel
theorem dX11_shift_152 : decode cX11_shift 152 = .ok (.iadd, 1) := by decide +kernel
theorem dX11_shift_153 : decode cX11_shift 153 = .ok (.iload 6, 2) := by decide +kernel
theorem dX11_shift_155 : decode cX11_shift 155 = .ok (.iadd, 1) := by decide +kernel
theorem dX11_shift_156 : decode cX11_shift 156 = .ok (.laload, 1) := by decide +kernel
theorem dX11_shift_157 : decode cX11_shift 157 = .ok (.lastore, 1) := by decide +kernel
theorem dX11_shift_158 : decode cX11_shift 158 = .ok (.iinc 6 (-1), 3) := by decide +kernel
theorem dX11_shift_161 : decode cX11_shift 161 = .ok (.goto (-37), 3) := by decide +kernel
theorem dX11_shift_164 : decode cX11_shift 164 = .ok (.goto 48, 3) := by decide +kernel
theorem dX11_shift_167 : decode cX11_shift 167 = .ok (.iconst 0, 1) := by decide +kernel
theorem dX11_shift_168 : decode cX11_shift 168 = .ok (.istore 6, 2) := by decide +kernel
theorem dX11_shift_170 : decode cX11_shift 170 = .ok (.iload 6, 2) := by decide +kernel
theorem dX11_shift_172 : decode cX11_shift 172 = .ok (.iload 5, 2) := by decide +kernel
theorem dX11_shift_174 : decode cX11_shift 174 = .ok (.if_icmp .ge 38, 3) := by decide +kernel
theorem dX11_shift_177 : decode cX11_shift 177 = .ok (.aload_n 0, 1) := by decide +kernel
theorem dX11_shift_178 : decode cX11_shift 178 = .ok (.getfield 106, 3) := by decide +kernel
theorem dX11_shift_181 : decode cX11_shift 181 = .ok (.bipush 60, 2) := by decide +kernel
theorem dX11_shift_183 : decode cX11_shift 183 = .ok (.iload_n 3, 1) := by decide +kernel
theorem dX11_shift_184 : decode cX11_shift 184 = .ok (.imul, 1) := by decide +kernel
theorem dX11_shift_185 : decode cX11_shift 185 = .ok (.iload 4, 2) := by decide +kernel
theorem dX11_shift_187 : decode cX11_shift 187 = .ok (.iadd, 1) := by decide +kernel
theorem dX11_shift_188 : decode cX11_shift 188 = .ok (.iload 6, 2) := by decide +kernel
theorem dX11_shift_190 : decode cX11_shift 190 = .ok (.iadd, 1) := by decide +kernel
theorem dX11_shift_191 : decode cX11_shift 191 = .ok (.aload_n 0, 1) := by decide +kernel
theorem dX11_shift_192 : decode cX11_shift 192 = .ok (.getfield 106, 3) := by decide +kernel
theorem dX11_shift_195 : decode cX11_shift 195 = .ok (.bipush 60, 2) := by decide +kernel
theorem dX11_shift_197 : decode cX11_shift 197 = .ok (.iload_n 1, 1) := by decide +kernel
theorem dX11_shift_198 : decode cX11_shift 198 = .ok (.imul, 1) := by decide +kernel
theorem dX11_shift_199 : decode cX11_shift 199 = .ok (.iload_n 2, 1) := by decide +kernel
theorem dX11_shift_200 : decode cX11_shift 200 = .ok (.iadd, 1) := by decide +kernel
theorem dX11_shift_201 : decode cX11_shift 201 = .ok (.iload 6, 2) := by decide +kernel
theorem dX11_shift_203 : decode cX11_shift 203 = .ok (.iadd, 1) := by decide +kernel
theorem dX11_shift_204 : decode cX11_shift 204 = .ok (.laload, 1) := by decide +kernel
theorem dX11_shift_205 : decode cX11_shift 205 = .ok (.lastore, 1) := by decide +kernel
theorem dX11_shift_206 : decode cX11_shift 206 = .ok (.iinc 6 1, 3) := by decide +kernel
theorem dX11_shift_209 : decode cX11_shift 209 = .ok (.goto (-39), 3) := by decide +kernel
theorem dX11_shift_212 : decode cX11_shift 212 = .ok (.iload 5, 2) := by decide +kernel
theorem dX11_shift_214 : decode cX11_shift 214 = .ok (.ireturn, 1) := by decide +kernel
