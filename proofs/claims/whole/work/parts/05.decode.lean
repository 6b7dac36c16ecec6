theorem dX10_clashOf_42 : decode cX10_clashOf 42 = .ok (.iconst 0, 1) := by decide +kernel
theorem dX10_clashOf_43 : decode cX10_clashOf 43 = .ok (.ior, 1) := by decide +kernel
theorem dX10_clashOf_44 : decode cX10_clashOf 44 = .ok (.istore_n 3, 1) := by decide +kernel
theorem dX10_clashOf_45 : decode cX10_clashOf 45 = .ok (.iinc 4 1, 3) := by decide +kernel
theorem dX10_clashOf_48 : decode cX10_clashOf 48 = .ok (.goto (-43), 3) := by decide +kernel
theorem dX10_clashOf_51 : decode cX10_clashOf 51 = .ok (.iload_n 3, 1) := by decide +kernel
theorem dX10_clashOf_52 : decode cX10_clashOf 52 = .ok (.ireturn, 1) := by decide +kernel
theorem dX10_clash_0 : decode cX10_clash 0 = .ok (.aload_n 0, 1) := by decide +kernel
theorem dX10_clash_1 : decode cX10_clash 1 = .ok (.iload_n 1, 1) := by decide +kernel
theorem dX10_clash_2 : decode cX10_clash 2 = .ok (.invokevirtual 78, 3) := by decide +kernel
theorem dX10_clash_5 : decode cX10_clash 5 = .ok (.ifCond .eq 17, 3) := by decide +kernel
theorem dX10_clash_8 : decode cX10_clash 8 = .ok (.aload_n 0, 1) := by decide +kernel
theorem dX10_clash_9 : decode cX10_clash 9 = .ok (.iload_n 1, 1) := by decide +kernel
theorem dX10_clash_10 : decode cX10_clash 10 = .ok (.aload_n 0, 1) := by decide +kernel
theorem dX10_clash_11 : decode cX10_clash 11 = .ok (.iload_n 1, 1) := by decide +kernel
theorem dX10_clash_12 : decode cX10_clash 12 = .ok (.iconst 3, 1) := by decide +kernel
theorem dX10_clash_13 : decode cX10_clash 13 = .ok (.invokevirtual 82, 3) := by decide +kernel
theorem dX10_clash_16 : decode cX10_clash 16 = .ok (.invokevirtual 458, 3) := by decide +kernel
theorem dX10_clash_19 : decode cX10_clash 19 = .ok (.goto 4, 3) := by decide +kernel
theorem dX10_clash_22 : decode cX10_clash 22 = .ok (.iconst (-1), 1) := by decide +kernel
theorem dX10_clash_23 : decode cX10_clash 23 = .ok (.ireturn, 1) := by decide +kernel
theorem dX10_leastFacts_0 : decode cX10_leastFacts 0 = .ok (.aload_n 0, 1) := by decide +kernel
theorem dX10_leastFacts_1 : decode cX10_leastFacts 1 = .ok (.iload_n 1, 1) := by decide +kernel
theorem dX10_leastFacts_2 : decode cX10_leastFacts 2 = .ok (.invokevirtual 78, 3) := by decide +kernel
theorem dX10_leastFacts_5 : decode cX10_leastFacts 5 = .ok (.ifCond .ne 5, 3) := by decide +kernel
theorem dX10_leastFacts_8 : decode cX10_leastFacts 8 = .ok (.iconst (-1), 1) := by decide +kernel
theorem dX10_leastFacts_9 : decode cX10_leastFacts 9 = .ok (.ireturn, 1) := by decide +kernel
theorem dX10_leastFacts_10 : decode cX10_leastFacts 10 = .ok (.iconst (-1), 1) := by decide +kernel
theorem dX10_leastFacts_11 : decode cX10_leastFacts 11 = .ok (.istore_n 2, 1) := by decide +kernel
theorem dX10_leastFacts_12 : decode cX10_leastFacts 12 = .ok (.iconst 0, 1) := by decide +kernel
theorem dX10_leastFacts_13 : decode cX10_leastFacts 13 = .ok (.istore_n 3, 1) := by decide +kernel
theorem dX10_leastFacts_14 : decode cX10_leastFacts 14 = .ok (.iload_n 3, 1) := by decide +kernel
theorem dX10_leastFacts_15 : decode cX10_leastFacts 15 = .ok (.sipush 256, 3) := by decide +kernel
theorem dX10_leastFacts_18 : decode cX10_leastFacts 18 = .ok (.if_icmp .ge 57, 3) := by decide +kernel
theorem dX10_leastFacts_21 : decode cX10_leastFacts 21 = .ok (.iload_n 2, 1) := by decide +kernel
theorem dX10_leastFacts_22 : decode cX10_leastFacts 22 = .ok (.iconst (-1), 1) := by decide +kernel
theorem dX10_leastFacts_23 : decode cX10_leastFacts 23 = .ok (.if_icmp .eq 17, 3) := by decide +kernel
theorem dX10_leastFacts_26 : decode cX10_leastFacts 26 = .ok (.iload_n 3, 1) := by decide +kernel
theorem dX10_leastFacts_27 : decode cX10_leastFacts 27 = .ok (.invokestatic 339, 3) := by decide +kernel
theorem dX10_leastFacts_30 : decode cX10_leastFacts 30 = .ok (.iload_n 2, 1) := by decide +kernel
theorem dX10_leastFacts_31 : decode cX10_leastFacts 31 = .ok (.invokestatic 339, 3) := by decide +kernel
theorem dX10_leastFacts_34 : decode cX10_leastFacts 34 = .ok (.if_icmp .lt 6, 3) := by decide +kernel
theorem dX10_leastFacts_37 : decode cX10_leastFacts 37 = .ok (.goto 32, 3) := by decide +kernel
theorem dX10_leastFacts_40 : decode cX10_leastFacts 40 = .ok (.aload_n 0, 1) := by decide +kernel
theorem dX10_leastFacts_41 : decode cX10_leastFacts 41 = .ok (.iload_n 1, 1) := by decide +kernel
theorem dX10_leastFacts_42 : decode cX10_leastFacts 42 = .ok (.aload_n 0, 1) := by decide +kernel
theorem dX10_leastFacts_43 : decode cX10_leastFacts 43 = .ok (.iload_n 1, 1) := by decide +kernel
theorem dX10_leastFacts_44 : decode cX10_leastFacts 44 = .ok (.iconst 3, 1) := by decide +kernel
theorem dX10_leastFacts_45 : decode cX10_leastFacts 45 = .ok (.invokevirtual 82, 3) := by decide +kernel
theorem dX10_leastFacts_48 : decode cX10_leastFacts 48 = .ok (.iload_n 3, 1) := by decide +kernel
theorem dX10_leastFacts_49 : decode cX10_leastFacts 49 = .ok (.ixor, 1) := by decide +kernel
theorem dX10_leastFacts_50 : decode cX10_leastFacts 50 = .ok (.invokevirtual 458, 3) := by decide +kernel
theorem dX10_leastFacts_53 : decode cX10_leastFacts 53 = .ok (.istore 4, 2) := by decide +kernel
theorem dX10_leastFacts_55 : decode cX10_leastFacts 55 = .ok (.iload 4, 2) := by decide +kernel
theorem dX10_leastFacts_57 : decode cX10_leastFacts 57 = .ok (.ifCond .eq 10, 3) := by decide +kernel
theorem dX10_leastFacts_60 : decode cX10_leastFacts 60 = .ok (.iload 4, 2) := by decide +kernel
theorem dX10_leastFacts_62 : decode cX10_leastFacts 62 = .ok (.bipush 15, 2) := by decide +kernel
theorem dX10_leastFacts_64 : decode cX10_leastFacts 64 = .ok (.if_icmp .ne 5, 3) := by decide +kernel
theorem dX10_leastFacts_67 : decode cX10_leastFacts 67 = .ok (.iload_n 3, 1) := by decide +kernel
theorem dX10_leastFacts_68 : decode cX10_leastFacts 68 = .ok (.istore_n 2, 1) := by decide +kernel
theorem dX10_leastFacts_69 : decode cX10_leastFacts 69 = .ok (.iinc 3 1, 3) := by decide +kernel
theorem dX10_leastFacts_72 : decode cX10_leastFacts 72 = .ok (.goto (-58), 3) := by decide +kernel
theorem dX10_leastFacts_75 : decode cX10_leastFacts 75 = .ok (.iload_n 2, 1) := by decide +kernel
theorem dX10_leastFacts_76 : decode cX10_leastFacts 76 = .ok (.ireturn, 1) := by decide +kernel
theorem dX10_game_0 : decode cX10_game 0 = .ok (.aload_n 0, 1) := by decide +kernel
theorem dX10_game_1 : decode cX10_game 1 = .ok (.iload_n 1, 1) := by decide +kernel
theorem dX10_game_2 : decode cX10_game 2 = .ok (.invokevirtual 377, 3) := by decide +kernel
theorem dX10_game_5 : decode cX10_game 5 = .ok (.ifCond .ne 5, 3) := by decide +kernel
theorem dX10_game_8 : decode cX10_game 8 = .ok (.iconst (-1), 1) := by decide +kernel
theorem dX10_game_9 : decode cX10_game 9 = .ok (.ireturn, 1) := by decide +kernel
theorem dX10_game_10 : decode cX10_game 10 = .ok (.aload_n 0, 1) := by decide +kernel
theorem dX10_game_11 : decode cX10_game 11 = .ok (.bipush 40, 2) := by decide +kernel
theorem dX10_game_13 : decode cX10_game 13 = .ok (.invokevirtual 437, 3) := by decide +kernel
theorem dX10_game_16 : decode cX10_game 16 = .ok (.pop, 1) := by decide +kernel
theorem dX10_game_17 : decode cX10_game 17 = .ok (.iconst 0, 1) := by decide +kernel
theorem dX10_game_18 : decode cX10_game 18 = .ok (.istore 4, 2) := by decide +kernel
theorem dX10_game_20 : decode cX10_game 20 = .ok (.iload 4, 2) := by decide +kernel
theorem dX10_game_22 : decode cX10_game 22 = .ok (.iconst 3, 1) := by decide +kernel
theorem dX10_game_23 : decode cX10_game 23 = .ok (.if_icmp .gt 46, 3) := by decide +kernel
theorem dX10_game_26 : decode cX10_game 26 = .ok (.aload_n 0, 1) := by decide +kernel
theorem dX10_game_27 : decode cX10_game 27 = .ok (.getfield 58, 3) := by decide +kernel
theorem dX10_game_30 : decode cX10_game 30 = .ok (.iload 4, 2) := by decide +kernel
theorem dX10_game_32 : decode cX10_game 32 = .ok (.aload_n 0, 1) := by decide +kernel
theorem dX10_game_33 : decode cX10_game 33 = .ok (.iload_n 1, 1) := by decide +kernel
theorem dX10_game_34 : decode cX10_game 34 = .ok (.iconst 0, 1) := by decide +kernel
theorem dX10_game_35 : decode cX10_game 35 = .ok (.iload 4, 2) := by decide +kernel
theorem dX10_game_37 : decode cX10_game 37 = .ok (.invokevirtual 446, 3) := by decide +kernel
theorem dX10_game_40 : decode cX10_game 40 = .ok (.ifCond .eq 21, 3) := by decide +kernel
theorem dX10_game_43 : decode cX10_game 43 = .ok (.aload_n 0, 1) := by decide +kernel
theorem dX10_game_44 : decode cX10_game 44 = .ok (.getfield 440, 3) := by decide +kernel
theorem dX10_game_47 : decode cX10_game 47 = .ok (.ifCond .eq 14, 3) := by decide +kernel
theorem dX10_game_50 : decode cX10_game 50 = .ok (.ldc_w 461, 3) := by decide +kernel
theorem dX10_game_53 : decode cX10_game 53 = .ok (.aload_n 0, 1) := by decide +kernel
theorem dX10_game_54 : decode cX10_game 54 = .ok (.getfield 443, 3) := by decide +kernel
theorem dX10_game_57 : decode cX10_game 57 = .ok (.iadd, 1) := by decide +kernel
theorem dX10_game_58 : decode cX10_game 58 = .ok (.goto 4, 3) := by decide +kernel
theorem dX10_game_61 : decode cX10_game 61 = .ok (.iconst 0, 1) := by decide +kernel
theorem dX10_game_62 : decode cX10_game 62 = .ok (.iastore, 1) := by decide +kernel
theorem dX10_game_63 : decode cX10_game 63 = .ok (.iinc 4 1, 3) := by decide +kernel
theorem dX10_game_66 : decode cX10_game 66 = .ok (.goto (-46), 3) := by decide +kernel
theorem dX10_game_69 : decode cX10_game 69 = .ok (.iconst 1, 1) := by decide +kernel
theorem dX10_game_70 : decode cX10_game 70 = .ok (.istore 4, 2) := by decide +kernel
theorem dX10_game_72 : decode cX10_game 72 = .ok (.iload 4, 2) := by decide +kernel
theorem dX10_game_74 : decode cX10_game 74 = .ok (.bipush 6, 2) := by decide +kernel
theorem dX10_game_76 : decode cX10_game 76 = .ok (.if_icmp .gt 150, 3) := by decide +kernel
theorem dX10_game_79 : decode cX10_game 79 = .ok (.iload 4, 2) := by decide +kernel
theorem dX10_game_81 : decode cX10_game 81 = .ok (.iconst 2, 1) := by decide +kernel
theorem dX10_game_82 : decode cX10_game 82 = .ok (.irem, 1) := by decide +kernel
theorem dX10_game_83 : decode cX10_game 83 = .ok (.ifCond .ne 7, 3) := by decide +kernel
theorem dX10_game_86 : decode cX10_game 86 = .ok (.iconst 1, 1) := by decide +kernel
theorem dX10_game_87 : decode cX10_game 87 = .ok (.goto 4, 3) := by decide +kernel
theorem dX10_game_90 : decode cX10_game 90 = .ok (.iconst 0, 1) := by decide +kernel
theorem dX10_game_91 : decode cX10_game 91 = .ok (.iload_n 2, 1) := by decide +kernel
theorem dX10_game_92 : decode cX10_game 92 = .ok (.if_icmp .ne 7, 3) := by decide +kernel
theorem dX10_game_95 : decode cX10_game 95 = .ok (.iconst 1, 1) := by decide +kernel
theorem dX10_game_96 : decode cX10_game 96 = .ok (.goto 4, 3) := by decide +kernel
theorem dX10_game_99 : decode cX10_game 99 = .ok (.iconst 0, 1) := by decide +kernel
theorem dX10_game_100 : decode cX10_game 100 = .ok (.istore 5, 2) := by decide +kernel
theorem dX10_game_102 : decode cX10_game 102 = .ok (.iconst 0, 1) := by decide +kernel
theorem dX10_game_103 : decode cX10_game 103 = .ok (.istore 6, 2) := by decide +kernel
theorem dX10_game_105 : decode cX10_game 105 = .ok (.iload 6, 2) := by decide +kernel
theorem dX10_game_107 : decode cX10_game 107 = .ok (.iconst 3, 1) := by decide +kernel
theorem dX10_game_108 : decode cX10_game 108 = .ok (.if_icmp .gt 112, 3) := by decide +kernel
theorem dX10_game_111 : decode cX10_game 111 = .ok (.aload_n 0, 1) := by decide +kernel
theorem dX10_game_112 : decode cX10_game 112 = .ok (.getfield 58, 3) := by decide +kernel
theorem dX10_game_115 : decode cX10_game 115 = .ok (.iconst 4, 1) := by decide +kernel
theorem dX10_game_116 : decode cX10_game 116 = .ok (.iload 4, 2) := by decide +kernel
theorem dX10_game_118 : decode cX10_game 118 = .ok (.iconst 1, 1) := by decide +kernel
theorem dX10_game_119 : decode cX10_game 119 = .ok (.isub, 1) := by decide +kernel
theorem dX10_game_120 : decode cX10_game 120 = .ok (.imul, 1) := by decide +kernel
theorem dX10_game_121 : decode cX10_game 121 = .ok (.iload 6, 2) := by decide +kernel
theorem dX10_game_123 : decode cX10_game 123 = .ok (.iadd, 1) := by decide +kernel
theorem dX10_game_124 : decode cX10_game 124 = .ok (.iaload, 1) := by decide +kernel
theorem dX10_game_125 : decode cX10_game 125 = .ok (.istore 7, 2) := by decide +kernel
theorem dX10_game_127 : decode cX10_game 127 = .ok (.iload 6, 2) := by decide +kernel
theorem dX10_game_129 : decode cX10_game 129 = .ok (.iconst 3, 1) := by decide +kernel
theorem dX10_game_130 : decode cX10_game 130 = .ok (.if_icmp .ge 22, 3) := by decide +kernel
theorem dX10_game_133 : decode cX10_game 133 = .ok (.aload_n 0, 1) := by decide +kernel
theorem dX10_game_134 : decode cX10_game 134 = .ok (.getfield 58, 3) := by decide +kernel
theorem dX10_game_137 : decode cX10_game 137 = .ok (.iconst 4, 1) := by decide +kernel
theorem dX10_game_138 : decode cX10_game 138 = .ok (.iload 4, 2) := by decide +kernel
theorem dX10_game_140 : decode cX10_game 140 = .ok (.iconst 1, 1) := by decide +kernel
theorem dX10_game_141 : decode cX10_game 141 = .ok (.isub, 1) := by decide +kernel
theorem dX10_game_142 : decode cX10_game 142 = .ok (.imul, 1) := by decide +kernel
theorem dX10_game_143 : decode cX10_game 143 = .ok (.iload 6, 2) := by decide +kernel
theorem dX10_game_145 : decode cX10_game 145 = .ok (.iadd, 1) := by decide +kernel
theorem dX10_game_146 : decode cX10_game 146 = .ok (.iconst 1, 1) := by decide +kernel
theorem dX10_game_147 : decode cX10_game 147 = .ok (.iadd, 1) := by decide +kernel
theorem dX10_game_148 : decode cX10_game 148 = .ok (.iaload, 1) := by decide +kernel
theorem dX10_game_149 : decode cX10_game 149 = .ok (.goto 5, 3) := by decide +kernel
theorem dX10_game_152 : decode cX10_game 152 = .ok (.iload 7, 2) := by decide +kernel
theorem dX10_game_154 : decode cX10_game 154 = .ok (.istore 8, 2) := by decide +kernel
theorem dX10_game_156 : decode cX10_game 156 = .ok (.iload 5, 2) := by decide +kernel
theorem dX10_game_158 : decode cX10_game 158 = .ok (.ifCond .eq 18, 3) := by decide +kernel
theorem dX10_game_161 : decode cX10_game 161 = .ok (.iload 8, 2) := by decide +kernel
theorem dX10_game_163 : decode cX10_game 163 = .ok (.iload 7, 2) := by decide +kernel
theorem dX10_game_165 : decode cX10_game 165 = .ok (.if_icmp .le 7, 3) := by decide +kernel
theorem dX10_game_168 : decode cX10_game 168 = .ok (.iconst 1, 1) := by decide +kernel
theorem dX10_game_169 : decode cX10_game 169 = .ok (.goto 19, 3) := by decide +kernel
theorem dX10_game_172 : decode cX10_game 172 = .ok (.iconst 0, 1) := by decide +kernel
theorem dX10_game_173 : decode cX10_game 173 = .ok (.goto 15, 3) := by decide +kernel
theorem dX10_game_176 : decode cX10_game 176 = .ok (.iload 8, 2) := by decide +kernel
theorem dX10_game_178 : decode cX10_game 178 = .ok (.iload 7, 2) := by decide +kernel
theorem dX10_game_180 : decode cX10_game 180 = .ok (.if_icmp .ge 7, 3) := by decide +kernel
theorem dX10_game_183 : decode cX10_game 183 = .ok (.iconst 1, 1) := by decide +kernel
theorem dX10_game_184 : decode cX10_game 184 = .ok (.goto 4, 3) := by decide +kernel
theorem dX10_game_187 : decode cX10_game 187 = .ok (.iconst 0, 1) := by decide +kernel
theorem dX10_game_188 : decode cX10_game 188 = .ok (.istore 9, 2) := by decide +kernel
theorem dX10_game_190 : decode cX10_game 190 = .ok (.aload_n 0, 1) := by decide +kernel
theorem dX10_game_191 : decode cX10_game 191 = .ok (.getfield 58, 3) := by decide +kernel
theorem dX10_game_194 : decode cX10_game 194 = .ok (.iconst 4, 1) := by decide +kernel
theorem dX10_game_195 : decode cX10_game 195 = .ok (.iload 4, 2) := by decide +kernel
theorem dX10_game_197 : decode cX10_game 197 = .ok (.imul, 1) := by decide +kernel
theorem dX10_game_198 : decode cX10_game 198 = .ok (.iload 6, 2) := by decide +kernel
theorem dX10_game_200 : decode cX10_game 200 = .ok (.iadd, 1) := by decide +kernel
theorem dX10_game_201 : decode cX10_game 201 = .ok (.iload 9, 2) := by decide +kernel
theorem dX10_game_203 : decode cX10_game 203 = .ok (.ifCond .eq 8, 3) := by decide +kernel
theorem dX10_game_206 : decode cX10_game 206 = .ok (.iload 8, 2) := by decide +kernel
theorem dX10_game_208 : decode cX10_game 208 = .ok (.goto 5, 3) := by decide +kernel
theorem dX10_game_211 : decode cX10_game 211 = .ok (.iload 7, 2) := by decide +kernel
theorem dX10_game_213 : decode cX10_game 213 = .ok (.iastore, 1) := by decide +kernel
theorem dX10_game_214 : decode cX10_game 214 = .ok (.iinc 6 1, 3) := by decide +kernel
theorem dX10_game_217 : decode cX10_game 217 = .ok (.goto (-112), 3) := by decide +kernel
theorem dX10_game_220 : decode cX10_game 220 = .ok (.iinc 4 1, 3) := by decide +kernel
theorem dX10_game_223 : decode cX10_game 223 = .ok (.goto (-151), 3) := by decide +kernel
theorem dX10_game_226 : decode cX10_game 226 = .ok (.iload_n 3, 1) := by decide +kernel
theorem dX10_game_227 : decode cX10_game 227 = .ok (.ifCond .ne 11, 3) := by decide +kernel
theorem dX10_game_230 : decode cX10_game 230 = .ok (.aload_n 0, 1) := by decide +kernel
theorem dX10_game_231 : decode cX10_game 231 = .ok (.getfield 58, 3) := by decide +kernel
theorem dX10_game_234 : decode cX10_game 234 = .ok (.bipush 24, 2) := by decide +kernel
theorem dX10_game_236 : decode cX10_game 236 = .ok (.iaload, 1) := by decide +kernel
theorem dX10_game_237 : decode cX10_game 237 = .ok (.ireturn, 1) := by decide +kernel
theorem dX10_game_238 : decode cX10_game 238 = .ok (.aload_n 0, 1) := by decide +kernel
theorem dX10_game_239 : decode cX10_game 239 = .ok (.getfield 58, 3) := by decide +kernel
theorem dX10_game_242 : decode cX10_game 242 = .ok (.bipush 20, 2) := by decide +kernel
theorem dX10_game_244 : decode cX10_game 244 = .ok (.iaload, 1) := by decide +kernel
theorem dX10_game_245 : decode cX10_game 245 = .ok (.istore 4, 2) := by decide +kernel
theorem dX10_game_247 : decode cX10_game 247 = .ok (.aload_n 0, 1) := by decide +kernel
theorem dX10_game_248 : decode cX10_game 248 = .ok (.getfield 58, 3) := by decide +kernel
theorem dX10_game_251 : decode cX10_game 251 = .ok (.bipush 21, 2) := by decide +kernel
theorem dX10_game_253 : decode cX10_game 253 = .ok (.iaload, 1) := by decide +kernel
theorem dX10_game_254 : decode cX10_game 254 = .ok (.istore 5, 2) := by decide +kernel
theorem dX10_game_256 : decode cX10_game 256 = .ok (.iload_n 2, 1) := by decide +kernel
theorem dX10_game_257 : decode cX10_game 257 = .ok (.ifCond .eq 18, 3) := by decide +kernel
theorem dX10_game_260 : decode cX10_game 260 = .ok (.iload 5, 2) := by decide +kernel
theorem dX10_game_262 : decode cX10_game 262 = .ok (.iload 4, 2) := by decide +kernel
theorem dX10_game_264 : decode cX10_game 264 = .ok (.if_icmp .le 7, 3) := by decide +kernel
theorem dX10_game_267 : decode cX10_game 267 = .ok (.iconst 1, 1) := by decide +kernel
theorem dX10_game_268 : decode cX10_game 268 = .ok (.goto 19, 3) := by decide +kernel
theorem dX10_game_271 : decode cX10_game 271 = .ok (.iconst 0, 1) := by decide +kernel
theorem dX10_game_272 : decode cX10_game 272 = .ok (.goto 15, 3) := by decide +kernel
theorem dX10_game_275 : decode cX10_game 275 = .ok (.iload 5, 2) := by decide +kernel
theorem dX10_game_277 : decode cX10_game 277 = .ok (.iload 4, 2) := by decide +kernel
theorem dX10_game_279 : decode cX10_game 279 = .ok (.if_icmp .ge 7, 3) := by decide +kernel
theorem dX10_game_282 : decode cX10_game 282 = .ok (.iconst 1, 1) := by decide +kernel
theorem dX10_game_283 : decode cX10_game 283 = .ok (.goto 4, 3) := by decide +kernel
theorem dX10_game_286 : decode cX10_game 286 = .ok (.iconst 0, 1) := by decide +kernel
theorem dX10_game_287 : decode cX10_game 287 = .ok (.ireturn, 1) := by decide +kernel
theorem dX10_nextRow_0 : decode cX10_nextRow 0 = .ok (.iload_n 1, 1) := by decide +kernel
theorem dX10_nextRow_1 : decode cX10_nextRow 1 = .ok (.iconst 2, 1) := by decide +kernel
theorem dX10_nextRow_2 : decode cX10_nextRow 2 = .ok (.isub, 1) := by decide +kernel
theorem dX10_nextRow_3 : decode cX10_nextRow 3 = .ok (.istore_n 2, 1) := by decide +kernel
theorem dX10_nextRow_4 : decode cX10_nextRow 4 = .ok (.iload_n 2, 1) := by decide +kernel
theorem dX10_nextRow_5 : decode cX10_nextRow 5 = .ok (.ifCond .lt 26, 3) := by decide +kernel
theorem dX10_nextRow_8 : decode cX10_nextRow 8 = .ok (.aload_n 0, 1) := by decide +kernel
theorem dX10_nextRow_9 : decode cX10_nextRow 9 = .ok (.getfield 64, 3) := by decide +kernel
theorem dX10_nextRow_12 : decode cX10_nextRow 12 = .ok (.iload_n 2, 1) := by decide +kernel
theorem dX10_nextRow_13 : decode cX10_nextRow 13 = .ok (.iaload, 1) := by decide +kernel
theorem dX10_nextRow_14 : decode cX10_nextRow 14 = .ok (.aload_n 0, 1) := by decide +kernel
theorem dX10_nextRow_15 : decode cX10_nextRow 15 = .ok (.getfield 64, 3) := by decide +kernel
theorem dX10_nextRow_18 : decode cX10_nextRow 18 = .ok (.iload_n 2, 1) := by decide +kernel
theorem dX10_nextRow_19 : decode cX10_nextRow 19 = .ok (.iconst 1, 1) := by decide +kernel
theorem dX10_nextRow_20 : decode cX10_nextRow 20 = .ok (.iadd, 1) := by decide +kernel
theorem dX10_nextRow_21 : decode cX10_nextRow 21 = .ok (.iaload, 1) := by decide +kernel
theorem dX10_nextRow_22 : decode cX10_nextRow 22 = .ok (.if_icmp .le 9, 3) := by decide +kernel
theorem dX10_nextRow_25 : decode cX10_nextRow 25 = .ok (.iinc 2 (-1), 3) := by decide +kernel
theorem dX10_nextRow_28 : decode cX10_nextRow 28 = .ok (.goto (-24), 3) := by decide +kernel
theorem dX10_nextRow_31 : decode cX10_nextRow 31 = .ok (.iload_n 2, 1) := by decide +kernel
theorem dX10_nextRow_32 : decode cX10_nextRow 32 = .ok (.ifCond .ge 5, 3) := by decide +kernel
theorem dX10_nextRow_35 : decode cX10_nextRow 35 = .ok (.iconst 0, 1) := by decide +kernel
theorem dX10_nextRow_36 : decode cX10_nextRow 36 = .ok (.ireturn, 1) := by decide +kernel
theorem dX10_nextRow_37 : decode cX10_nextRow 37 = .ok (.iload_n 1, 1) := by decide +kernel
theorem dX10_nextRow_38 : decode cX10_nextRow 38 = .ok (.iconst 1, 1) := by decide +kernel
theorem dX10_nextRow_39 : decode cX10_nextRow 39 = .ok (.isub, 1) := by decide +kernel
theorem dX10_nextRow_40 : decode cX10_nextRow 40 = .ok (.istore_n 3, 1) := by decide +kernel
theorem dX10_nextRow_41 : decode cX10_nextRow 41 = .ok (.aload_n 0, 1) := by decide +kernel
theorem dX10_nextRow_42 : decode cX10_nextRow 42 = .ok (.getfield 64, 3) := by decide +kernel
theorem dX10_nextRow_45 : decode cX10_nextRow 45 = .ok (.iload_n 3, 1) := by decide +kernel
theorem dX10_nextRow_46 : decode cX10_nextRow 46 = .ok (.iaload, 1) := by decide +kernel
theorem dX10_nextRow_47 : decode cX10_nextRow 47 = .ok (.aload_n 0, 1) := by decide +kernel
theorem dX10_nextRow_48 : decode cX10_nextRow 48 = .ok (.getfield 64, 3) := by decide +kernel
theorem dX10_nextRow_51 : decode cX10_nextRow 51 = .ok (.iload_n 2, 1) := by decide +kernel
theorem dX10_nextRow_52 : decode cX10_nextRow 52 = .ok (.iaload, 1) := by decide +kernel
theorem dX10_nextRow_53 : decode cX10_nextRow 53 = .ok (.if_icmp .ge 9, 3) := by decide +kernel
theorem dX10_nextRow_56 : decode cX10_nextRow 56 = .ok (.iinc 3 (-1), 3) := by decide +kernel
theorem dX10_nextRow_59 : decode cX10_nextRow 59 = .ok (.goto (-18), 3) := by decide +kernel
theorem dX10_nextRow_62 : decode cX10_nextRow 62 = .ok (.aload_n 0, 1) := by decide +kernel
theorem dX10_nextRow_63 : decode cX10_nextRow 63 = .ok (.getfield 64, 3) := by decide +kernel
theorem dX10_nextRow_66 : decode cX10_nextRow 66 = .ok (.iload_n 2, 1) := by decide +kernel
theorem dX10_nextRow_67 : decode cX10_nextRow 67 = .ok (.iaload, 1) := by decide +kernel
theorem dX10_nextRow_68 : decode cX10_nextRow 68 = .ok (.istore 4, 2) := by decide +kernel
theorem dX10_nextRow_70 : decode cX10_nextRow 70 = .ok (.aload_n 0, 1) := by decide +kernel
theorem dX10_nextRow_71 : decode cX10_nextRow 71 = .ok (.getfield 64, 3) := by decide +kernel
theorem dX10_nextRow_74 : decode cX10_nextRow 74 = .ok (.iload_n 2, 1) := by decide +kernel
theorem dX10_nextRow_75 : decode cX10_nextRow 75 = .ok (.aload_n 0, 1) := by decide +kernel
theorem dX10_nextRow_76 : decode cX10_nextRow 76 = .ok (.getfield 64, 3) := by decide +kernel
theorem dX10_nextRow_79 : decode cX10_nextRow 79 = .ok (.iload_n 3, 1) := by decide +kernel
theorem dX10_nextRow_80 : decode cX10_nextRow 80 = .ok (.iaload, 1) := by decide +kernel
theorem dX10_nextRow_81 : decode cX10_nextRow 81 = .ok (.iastore, 1) := by decide +kernel
theorem dX10_nextRow_82 : decode cX10_nextRow 82 = .ok (.aload_n 0, 1) := by decide +kernel
theorem dX10_nextRow_83 : decode cX10_nextRow 83 = .ok (.getfield 64, 3) := by decide +kernel
theorem dX10_nextRow_86 : decode cX10_nextRow 86 = .ok (.iload_n 3, 1) := by decide +kernel
theorem dX10_nextRow_87 : decode cX10_nextRow 87 = .ok (.iload 4, 2) := by decide +kernel
theorem dX10_nextRow_89 : decode cX10_nextRow 89 = .ok (.iastore, 1) := by decide +kernel
theorem dX10_nextRow_90 : decode cX10_nextRow 90 = .ok (.iload_n 2, 1) := by decide +kernel
theorem dX10_nextRow_91 : decode cX10_nextRow 91 = .ok (.iconst 1, 1) := by decide +kernel
theorem dX10_nextRow_92 : decode cX10_nextRow 92 = .ok (.iadd, 1) := by decide +kernel
theorem dX10_nextRow_93 : decode cX10_nextRow 93 = .ok (.istore 5, 2) := by decide +kernel
theorem dX10_nextRow_95 : decode cX10_nextRow 95 = .ok (.iload_n 1, 1) := by decide +kernel
theorem dX10_nextRow_96 : decode cX10_nextRow 96 = .ok (.iconst 1, 1) := by decide +kernel
theorem dX10_nextRow_97 : decode cX10_nextRow 97 = .ok (.isub, 1) := by decide +kernel
theorem dX10_nextRow_98 : decode cX10_nextRow 98 = .ok (.istore 6, 2) := by decide +kernel
theorem dX10_nextRow_100 : decode cX10_nextRow 100 = .ok (.iload 5, 2) := by decide +kernel
theorem dX10_nextRow_102 : decode cX10_nextRow 102 = .ok (.iload 6, 2) := by decide +kernel
theorem dX10_nextRow_104 : decode cX10_nextRow 104 = .ok (.if_icmp .ge 44, 3) := by decide +kernel
theorem dX10_nextRow_107 : decode cX10_nextRow 107 = .ok (.aload_n 0, 1) := by decide +kernel
theorem dX10_nextRow_108 : decode cX10_nextRow 108 = .ok (.getfield 64, 3) := by decide +kernel
theorem dX10_nextRow_111 : decode cX10_nextRow 111 = .ok (.iload 5, 2) := by decide +kernel
theorem dX10_nextRow_113 : decode cX10_nextRow 113 = .ok (.iaload, 1) := by decide +kernel
theorem dX10_nextRow_114 : decode cX10_nextRow 114 = .ok (.istore 4, 2) := by decide +kernel
theorem dX10_nextRow_116 : decode cX10_nextRow 116 = .ok (.aload_n 0, 1) := by decide +kernel
theorem dX10_nextRow_117 : decode cX10_nextRow 117 = .ok (.getfield 64, 3) := by decide +kernel
theorem dX10_nextRow_120 : decode cX10_nextRow 120 = .ok (.iload 5, 2) := by decide +kernel
theorem dX10_nextRow_122 : decode cX10_nextRow 122 = .ok (.aload_n 0, 1) := by decide +kernel
theorem dX10_nextRow_123 : decode cX10_nextRow 123 = .ok (.getfield 64, 3) := by decide +kernel
theorem dX10_nextRow_126 : decode cX10_nextRow 126 = .ok (.iload 6, 2) := by decide +kernel
theorem dX10_nextRow_128 : decode cX10_nextRow 128 = .ok (.iaload, 1) := by decide +kernel
theorem dX10_nextRow_129 : decode cX10_nextRow 129 = .ok (.iastore, 1) := by decide +kernel
theorem dX10_nextRow_130 : decode cX10_nextRow 130 = .ok (.aload_n 0, 1) := by decide +kernel
theorem dX10_nextRow_131 : decode cX10_nextRow 131 = .ok (.getfield 64, 3) := by decide +kernel
theorem dX10_nextRow_134 : decode cX10_nextRow 134 = .ok (.iload 6, 2) := by decide +kernel
theorem dX10_nextRow_136 : decode cX10_nextRow 136 = .ok (.iload 4, 2) := by decide +kernel
theorem dX10_nextRow_138 : decode cX10_nextRow 138 = .ok (.iastore, 1) := by decide +kernel
theorem dX10_nextRow_139 : decode cX10_nextRow 139 = .ok (.iinc 5 1, 3) := by decide +kernel
theorem dX10_nextRow_142 : decode cX10_nextRow 142 = .ok (.iinc 6 (-1), 3) := by decide +kernel
theorem dX10_nextRow_145 : decode cX10_nextRow 145 = .ok (.goto (-45), 3) := by decide +kernel
theorem dX10_nextRow_148 : decode cX10_nextRow 148 = .ok (.iconst 1, 1) := by decide +kernel
theorem dX10_nextRow_149 : decode cX10_nextRow 149 = .ok (.ireturn, 1) := by decide +kernel
theorem dX10_sentencesBy_0 : decode cX10_sentencesBy 0 = .ok (.iconst 0, 1) := by decide +kernel
theorem dX10_sentencesBy_1 : decode cX10_sentencesBy 1 = .ok (.istore_n 2, 1) := by decide +kernel
theorem dX10_sentencesBy_2 : decode cX10_sentencesBy 2 = .ok (.iconst 0, 1) := by decide +kernel
theorem dX10_sentencesBy_3 : decode cX10_sentencesBy 3 = .ok (.istore_n 3, 1) := by decide +kernel
theorem dX10_sentencesBy_4 : decode cX10_sentencesBy 4 = .ok (.iconst 0, 1) := by decide +kernel
theorem dX10_sentencesBy_5 : decode cX10_sentencesBy 5 = .ok (.istore 4, 2) := by decide +kernel
theorem dX10_sentencesBy_7 : decode cX10_sentencesBy 7 = .ok (.iload 4, 2) := by decide +kernel
theorem dX10_sentencesBy_9 : decode cX10_sentencesBy 9 = .ok (.iload_n 1, 1) := by decide +kernel
theorem dX10_sentencesBy_10 : decode cX10_sentencesBy 10 = .ok (.if_icmp .ge 53, 3) := by decide +kernel
theorem dX10_sentencesBy_13 : decode cX10_sentencesBy 13 = .ok (.aload_n 0, 1) := by decide +kernel
theorem dX10_sentencesBy_14 : decode cX10_sentencesBy 14 = .ok (.getfield 61, 3) := by decide +kernel
theorem dX10_sentencesBy_17 : decode cX10_sentencesBy 17 = .ok (.aload_n 0, 1) := by decide +kernel
theorem dX10_sentencesBy_18 : decode cX10_sentencesBy 18 = .ok (.getfield 64, 3) := by decide +kernel
theorem dX10_sentencesBy_21 : decode cX10_sentencesBy 21 = .ok (.iload 4, 2) := by decide +kernel
theorem dX10_sentencesBy_23 : decode cX10_sentencesBy 23 = .ok (.iaload, 1) := by decide +kernel
theorem dX10_sentencesBy_24 : decode cX10_sentencesBy 24 = .ok (.iaload, 1) := by decide +kernel
theorem dX10_sentencesBy_25 : decode cX10_sentencesBy 25 = .ok (.istore 5, 2) := by decide +kernel
theorem dX10_sentencesBy_27 : decode cX10_sentencesBy 27 = .ok (.aload_n 0, 1) := by decide +kernel
theorem dX10_sentencesBy_28 : decode cX10_sentencesBy 28 = .ok (.iload 5, 2) := by decide +kernel
theorem dX10_sentencesBy_30 : decode cX10_sentencesBy 30 = .ok (.iload_n 3, 1) := by decide +kernel
theorem dX10_sentencesBy_31 : decode cX10_sentencesBy 31 = .ok (.iconst 0, 1) := by decide +kernel
theorem dX10_sentencesBy_32 : decode cX10_sentencesBy 32 = .ok (.invokevirtual 446, 3) := by decide +kernel
theorem dX10_sentencesBy_35 : decode cX10_sentencesBy 35 = .ok (.ifCond .ne 5, 3) := by decide +kernel
theorem dX10_sentencesBy_38 : decode cX10_sentencesBy 38 = .ok (.iload_n 2, 1) := by decide +kernel
theorem dX10_sentencesBy_39 : decode cX10_sentencesBy 39 = .ok (.ireturn, 1) := by decide +kernel
theorem dX10_sentencesBy_40 : decode cX10_sentencesBy 40 = .ok (.iload_n 2, 1) := by decide +kernel
theorem dX10_sentencesBy_41 : decode cX10_sentencesBy 41 = .ok (.aload_n 0, 1) := by decide +kernel
theorem dX10_sentencesBy_42 : decode cX10_sentencesBy 42 = .ok (.getfield 443, 3) := by decide +kernel
theorem dX10_sentencesBy_45 : decode cX10_sentencesBy 45 = .ok (.iadd, 1) := by decide +kernel
theorem dX10_sentencesBy_46 : decode cX10_sentencesBy 46 = .ok (.istore_n 2, 1) := by decide +kernel
theorem dX10_sentencesBy_47 : decode cX10_sentencesBy 47 = .ok (.iload_n 3, 1) := by decide +kernel
theorem dX10_sentencesBy_48 : decode cX10_sentencesBy 48 = .ok (.aload_n 0, 1) := by decide +kernel
theorem dX10_sentencesBy_49 : decode cX10_sentencesBy 49 = .ok (.iload 5, 2) := by decide +kernel
theorem dX10_sentencesBy_51 : decode cX10_sentencesBy 51 = .ok (.iconst 2, 1) := by decide +kernel
theorem dX10_sentencesBy_52 : decode cX10_sentencesBy 52 = .ok (.invokevirtual 82, 3) := by decide +kernel
theorem dX10_sentencesBy_55 : decode cX10_sentencesBy 55 = .ok (.iadd, 1) := by decide +kernel
theorem dX10_sentencesBy_56 : decode cX10_sentencesBy 56 = .ok (.istore_n 3, 1) := by decide +kernel
theorem dX10_sentencesBy_57 : decode cX10_sentencesBy 57 = .ok (.iinc 4 1, 3) := by decide +kernel
theorem dX10_sentencesBy_60 : decode cX10_sentencesBy 60 = .ok (.goto (-53), 3) := by decide +kernel
theorem dX10_sentencesBy_63 : decode cX10_sentencesBy 63 = .ok (.iload_n 2, 1) := by decide +kernel
theorem dX10_sentencesBy_64 : decode cX10_sentencesBy 64 = .ok (.ireturn, 1) := by decide +kernel
theorem dX10_session_0 : decode cX10_session 0 = .ok (.iload_n 1, 1) := by decide +kernel
theorem dX10_session_1 : decode cX10_session 1 = .ok (.iconst 1, 1) := by decide +kernel
theorem dX10_session_2 : decode cX10_session 2 = .ok (.iconst 1, 1) := by decide +kernel
theorem dX10_session_3 : decode cX10_session 3 = .ok (.aload_n 0, 1) := by decide +kernel
theorem dX10_session_4 : decode cX10_session 4 = .ok (.getfield 7, 3) := by decide +kernel
theorem dX10_session_7 : decode cX10_session 7 = .ok (.iconst 0, 1) := by decide +kernel
theorem dX10_session_8 : decode cX10_session 8 = .ok (.iaload, 1) := by decide +kernel
theorem dX10_session_9 : decode cX10_session 9 = .ok (.ishl, 1) := by decide +kernel
theorem dX10_session_10 : decode cX10_session 10 = .ok (.iconst 1, 1) := by decide +kernel
theorem dX10_session_11 : decode cX10_session 11 = .ok (.isub, 1) := by decide +kernel
theorem dX10_session_12 : decode cX10_session 12 = .ok (.invokestatic 74, 3) := by decide +kernel
theorem dX10_session_15 : decode cX10_session 15 = .ok (.ifCond .eq 24, 3) := by decide +kernel
theorem dX10_session_18 : decode cX10_session 18 = .ok (.iload_n 1, 1) := by decide +kernel
theorem dX10_session_19 : decode cX10_session 19 = .ok (.invokestatic 339, 3) := by decide +kernel
theorem dX10_session_22 : decode cX10_session 22 = .ok (.iconst 5, 1) := by decide +kernel
theorem dX10_session_23 : decode cX10_session 23 = .ok (.if_icmp .gt 16, 3) := by decide +kernel
theorem dX10_session_26 : decode cX10_session 26 = .ok (.iload_n 2, 1) := by decide +kernel
theorem dX10_session_27 : decode cX10_session 27 = .ok (.iconst (-1), 1) := by decide +kernel
theorem dX10_session_28 : decode cX10_session 28 = .ok (.if_icmp .lt 11, 3) := by decide +kernel
theorem dX10_session_31 : decode cX10_session 31 = .ok (.iload_n 2, 1) := by decide +kernel
theorem dX10_session_32 : decode cX10_session 32 = .ok (.iload_n 1, 1) := by decide +kernel
theorem dX10_session_33 : decode cX10_session 33 = .ok (.invokestatic 339, 3) := by decide +kernel
theorem dX10_session_36 : decode cX10_session 36 = .ok (.if_icmp .lt 6, 3) := by decide +kernel
theorem dX10_session_39 : decode cX10_session 39 = .ok (.bipush (-2), 2) := by decide +kernel
theorem dX10_session_41 : decode cX10_session 41 = .ok (.ireturn, 1) := by decide +kernel
theorem dX10_session_42 : decode cX10_session 42 = .ok (.iconst 0, 1) := by decide +kernel
theorem dX10_session_43 : decode cX10_session 43 = .ok (.istore_n 3, 1) := by decide +kernel
theorem dX10_session_44 : decode cX10_session 44 = .ok (.iconst 0, 1) := by decide +kernel
theorem dX10_session_45 : decode cX10_session 45 = .ok (.istore 4, 2) := by decide +kernel
theorem dX10_session_47 : decode cX10_session 47 = .ok (.iload 4, 2) := by decide +kernel
theorem dX10_session_49 : decode cX10_session 49 = .ok (.aload_n 0, 1) := by decide +kernel
theorem dX10_session_50 : decode cX10_session 50 = .ok (.getfield 7, 3) := by decide +kernel
theorem dX10_session_53 : decode cX10_session 53 = .ok (.iconst 0, 1) := by decide +kernel
theorem dX10_session_54 : decode cX10_session 54 = .ok (.iaload, 1) := by decide +kernel
theorem dX10_session_55 : decode cX10_session 55 = .ok (.if_icmp .ge 51, 3) := by decide +kernel
theorem dX10_session_58 : decode cX10_session 58 = .ok (.iload_n 1, 1) := by decide +kernel
theorem dX10_session_59 : decode cX10_session 59 = .ok (.iload 4, 2) := by decide +kernel
theorem dX10_session_61 : decode cX10_session 61 = .ok (.invokestatic 255, 3) := by decide +kernel
theorem dX10_session_64 : decode cX10_session 64 = .ok (.ifCond .ne 6, 3) := by decide +kernel
theorem dX10_session_67 : decode cX10_session 67 = .ok (.goto 33, 3) := by decide +kernel
theorem dX10_session_70 : decode cX10_session 70 = .ok (.aload_n 0, 1) := by decide +kernel
theorem dX10_session_71 : decode cX10_session 71 = .ok (.iload 4, 2) := by decide +kernel
theorem dX10_session_73 : decode cX10_session 73 = .ok (.invokevirtual 377, 3) := by decide +kernel
theorem dX10_session_76 : decode cX10_session 76 = .ok (.ifCond .ne 6, 3) := by decide +kernel
theorem dX10_session_79 : decode cX10_session 79 = .ok (.bipush (-2), 2) := by decide +kernel
theorem dX10_session_81 : decode cX10_session 81 = .ok (.ireturn, 1) := by decide +kernel
theorem dX10_session_82 : decode cX10_session 82 = .ok (.aload_n 0, 1) := by decide +kernel
theorem dX10_session_83 : decode cX10_session 83 = .ok (.getfield 61, 3) := by decide +kernel
theorem dX10_session_86 : decode cX10_session 86 = .ok (.iload_n 3, 1) := by decide +kernel
theorem dX10_session_87 : decode cX10_session 87 = .ok (.iload 4, 2) := by decide +kernel
theorem dX10_session_89 : decode cX10_session 89 = .ok (.iastore, 1) := by decide +kernel
theorem dX10_session_90 : decode cX10_session 90 = .ok (.aload_n 0, 1) := by decide +kernel
theorem dX10_session_91 : decode cX10_session 91 = .ok (.getfield 64, 3) := by decide +kernel
theorem dX10_session_94 : decode cX10_session 94 = .ok (.iload_n 3, 1) := by decide +kernel
theorem dX10_session_95 : decode cX10_session 95 = .ok (.iload_n 3, 1) := by decide +kernel
theorem dX10_session_96 : decode cX10_session 96 = .ok (.iastore, 1) := by decide +kernel
theorem dX10_session_97 : decode cX10_session 97 = .ok (.iinc 3 1, 3) := by decide +kernel
theorem dX10_session_100 : decode cX10_session 100 = .ok (.iinc 4 1, 3) := by decide +kernel
theorem dX10_session_103 : decode cX10_session 103 = .ok (.goto (-56), 3) := by decide +kernel
theorem dX10_session_106 : decode cX10_session 106 = .ok (.aload_n 0, 1) := by decide +kernel
theorem dX10_session_107 : decode cX10_session 107 = .ok (.bipush 60, 2) := by decide +kernel
theorem dX10_session_109 : decode cX10_session 109 = .ok (.invokevirtual 437, 3) := by decide +kernel
theorem dX10_session_112 : decode cX10_session 112 = .ok (.pop, 1) := by decide +kernel
theorem dX10_session_113 : decode cX10_session 113 = .ok (.iconst (-1), 1) := by decide +kernel
theorem dX10_session_114 : decode cX10_session 114 = .ok (.istore 4, 2) := by decide +kernel
theorem dX10_session_116 : decode cX10_session 116 = .ok (.iconst 1, 1) := by decide +kernel
theorem dX10_session_117 : decode cX10_session 117 = .ok (.istore 5, 2) := by decide +kernel
theorem dX10_session_119 : decode cX10_session 119 = .ok (.iload 5, 2) := by decide +kernel
theorem dX10_session_121 : decode cX10_session 121 = .ok (.ifCond .eq 65, 3) := by decide +kernel
theorem dX10_session_124 : decode cX10_session 124 = .ok (.aload_n 0, 1) := by decide +kernel
theorem dX10_session_125 : decode cX10_session 125 = .ok (.iload_n 3, 1) := by decide +kernel
theorem dX10_session_126 : decode cX10_session 126 = .ok (.invokevirtual 462, 3) := by decide +kernel
theorem dX10_session_129 : decode cX10_session 129 = .ok (.istore 6, 2) := by decide +kernel
theorem dX10_session_131 : decode cX10_session 131 = .ok (.iload 6, 2) := by decide +kernel
theorem dX10_session_133 : decode cX10_session 133 = .ok (.iload 4, 2) := by decide +kernel
theorem dX10_session_135 : decode cX10_session 135 = .ok (.if_icmp .le 41, 3) := by decide +kernel
theorem dX10_session_138 : decode cX10_session 138 = .ok (.iload 6, 2) := by decide +kernel
theorem dX10_session_140 : decode cX10_session 140 = .ok (.istore 4, 2) := by decide +kernel
theorem dX10_session_142 : decode cX10_session 142 = .ok (.iconst 0, 1) := by decide +kernel
theorem dX10_session_143 : decode cX10_session 143 = .ok (.istore 7, 2) := by decide +kernel
theorem dX10_session_145 : decode cX10_session 145 = .ok (.iload 7, 2) := by decide +kernel
theorem dX10_session_147 : decode cX10_session 147 = .ok (.iload_n 3, 1) := by decide +kernel
theorem dX10_session_148 : decode cX10_session 148 = .ok (.if_icmp .ge 28, 3) := by decide +kernel
theorem dX10_session_151 : decode cX10_session 151 = .ok (.aload_n 0, 1) := by decide +kernel
theorem dX10_session_152 : decode cX10_session 152 = .ok (.getfield 67, 3) := by decide +kernel
theorem dX10_session_155 : decode cX10_session 155 = .ok (.iload 7, 2) := by decide +kernel
theorem dX10_session_157 : decode cX10_session 157 = .ok (.aload_n 0, 1) := by decide +kernel
theorem dX10_session_158 : decode cX10_session 158 = .ok (.getfield 61, 3) := by decide +kernel
theorem dX10_session_161 : decode cX10_session 161 = .ok (.aload_n 0, 1) := by decide +kernel
theorem dX10_session_162 : decode cX10_session 162 = .ok (.getfield 64, 3) := by decide +kernel
theorem dX10_session_165 : decode cX10_session 165 = .ok (.iload 7, 2) := by decide +kernel
theorem dX10_session_167 : decode cX10_session 167 = .ok (.iaload, 1) := by decide +kernel
theorem dX10_session_168 : decode cX10_session 168 = .ok (.iaload, 1) := by decide +kernel
theorem dX10_session_169 : decode cX10_session 169 = .ok (.iastore, 1) := by decide +kernel
theorem dX10_session_170 : decode cX10_session 170 = .ok (.iinc 7 1, 3) := by decide +kernel
theorem dX10_session_173 : decode cX10_session 173 = .ok (.goto (-28), 3) := by decide +kernel
theorem dX10_session_176 : decode cX10_session 176 = .ok (.aload_n 0, 1) := by decide +kernel
theorem dX10_session_177 : decode cX10_session 177 = .ok (.iload_n 3, 1) := by decide +kernel
theorem dX10_session_178 : decode cX10_session 178 = .ok (.invokevirtual 465, 3) := by decide +kernel
theorem dX10_session_181 : decode cX10_session 181 = .ok (.istore 5, 2) := by decide +kernel
theorem dX10_session_183 : decode cX10_session 183 = .ok (.goto (-64), 3) := by decide +kernel
theorem dX10_session_186 : decode cX10_session 186 = .ok (.iload_n 2, 1) := by decide +kernel
theorem dX10_session_187 : decode cX10_session 187 = .ok (.iconst (-1), 1) := by decide +kernel
theorem dX10_session_188 : decode cX10_session 188 = .ok (.if_icmp .ne 8, 3) := by decide +kernel
theorem dX10_session_191 : decode cX10_session 191 = .ok (.iload 4, 2) := by decide +kernel
theorem dX10_session_193 : decode cX10_session 193 = .ok (.goto 9, 3) := by decide +kernel
theorem dX10_session_196 : decode cX10_session 196 = .ok (.aload_n 0, 1) := by decide +kernel
theorem dX10_session_197 : decode cX10_session 197 = .ok (.getfield 67, 3) := by decide +kernel
theorem dX10_session_200 : decode cX10_session 200 = .ok (.iload_n 2, 1) := by decide +kernel
theorem dX10_session_201 : decode cX10_session 201 = .ok (.iaload, 1) := by decide +kernel
theorem dX10_session_202 : decode cX10_session 202 = .ok (.ireturn, 1) := by decide +kernel
theorem dX10_record_0 : decode cX10_record 0 = .ok (.iload_n 1, 1) := by decide +kernel
theorem dX10_record_1 : decode cX10_record 1 = .ok (.iconst (-1), 1) := by decide +kernel
theorem dX10_record_2 : decode cX10_record 2 = .ok (.if_icmp .ne 12, 3) := by decide +kernel
theorem dX10_record_5 : decode cX10_record 5 = .ok (.aload_n 0, 1) := by decide +kernel
theorem dX10_record_6 : decode cX10_record 6 = .ok (.getfield 7, 3) := by decide +kernel
theorem dX10_record_9 : decode cX10_record 9 = .ok (.iconst 4, 1) := by decide +kernel
theorem dX10_record_10 : decode cX10_record 10 = .ok (.iconst 0, 1) := by decide +kernel
theorem dX10_record_11 : decode cX10_record 11 = .ok (.iastore, 1) := by decide +kernel
theorem dX10_record_12 : decode cX10_record 12 = .ok (.iconst 0, 1) := by decide +kernel
theorem dX10_record_13 : decode cX10_record 13 = .ok (.ireturn, 1) := by decide +kernel
theorem dX10_record_14 : decode cX10_record 14 = .ok (.aload_n 0, 1) := by decide +kernel
theorem dX10_record_15 : decode cX10_record 15 = .ok (.iload_n 1, 1) := by decide +kernel
theorem dX10_record_16 : decode cX10_record 16 = .ok (.invokevirtual 78, 3) := by decide +kernel
theorem dX10_record_19 : decode cX10_record 19 = .ok (.ifCond .eq 23, 3) := by decide +kernel
theorem dX10_record_22 : decode cX10_record 22 = .ok (.iload_n 2, 1) := by decide +kernel
theorem dX10_record_23 : decode cX10_record 23 = .ok (.iconst 0, 1) := by decide +kernel
theorem dX10_record_24 : decode cX10_record 24 = .ok (.iconst 3, 1) := by decide +kernel
theorem dX10_record_25 : decode cX10_record 25 = .ok (.invokestatic 74, 3) := by decide +kernel
theorem dX10_record_28 : decode cX10_record 28 = .ok (.ifCond .eq 14, 3) := by decide +kernel
theorem dX10_record_31 : decode cX10_record 31 = .ok (.aload_n 0, 1) := by decide +kernel
theorem dX10_record_32 : decode cX10_record 32 = .ok (.getfield 7, 3) := by decide +kernel
theorem dX10_record_35 : decode cX10_record 35 = .ok (.iconst 4, 1) := by decide +kernel
theorem dX10_record_36 : decode cX10_record 36 = .ok (.iaload, 1) := by decide +kernel
theorem dX10_record_37 : decode cX10_record 37 = .ok (.bipush 8, 2) := by decide +kernel
theorem dX10_record_39 : decode cX10_record 39 = .ok (.if_icmp .ne 6, 3) := by decide +kernel
theorem dX10_record_42 : decode cX10_record 42 = .ok (.bipush (-2), 2) := by decide +kernel
theorem dX10_record_44 : decode cX10_record 44 = .ok (.ireturn, 1) := by decide +kernel
theorem dX10_record_45 : decode cX10_record 45 = .ok (.bipush 76, 2) := by decide +kernel
theorem dX10_record_47 : decode cX10_record 47 = .ok (.iconst 3, 1) := by decide +kernel
theorem dX10_record_48 : decode cX10_record 48 = .ok (.aload_n 0, 1) := by decide +kernel
theorem dX10_record_49 : decode cX10_record 49 = .ok (.getfield 7, 3) := by decide +kernel
theorem dX10_record_52 : decode cX10_record 52 = .ok (.iconst 4, 1) := by decide +kernel
theorem dX10_record_53 : decode cX10_record 53 = .ok (.iaload, 1) := by decide +kernel
theorem dX10_record_54 : decode cX10_record 54 = .ok (.imul, 1) := by decide +kernel
theorem dX10_record_55 : decode cX10_record 55 = .ok (.iadd, 1) := by decide +kernel
theorem dX10_record_56 : decode cX10_record 56 = .ok (.istore 4, 2) := by decide +kernel
theorem dX10_record_58 : decode cX10_record 58 = .ok (.aload_n 0, 1) := by decide +kernel
theorem dX10_record_59 : decode cX10_record 59 = .ok (.getfield 7, 3) := by decide +kernel
theorem dX10_record_62 : decode cX10_record 62 = .ok (.iload 4, 2) := by decide +kernel
theorem dX10_record_64 : decode cX10_record 64 = .ok (.iload_n 1, 1) := by decide +kernel
theorem dX10_record_65 : decode cX10_record 65 = .ok (.iastore, 1) := by decide +kernel
theorem dX10_record_66 : decode cX10_record 66 = .ok (.aload_n 0, 1) := by decide +kernel
theorem dX10_record_67 : decode cX10_record 67 = .ok (.getfield 7, 3) := by decide +kernel
theorem dX10_record_70 : decode cX10_record 70 = .ok (.iload 4, 2) := by decide +kernel
theorem dX10_record_72 : decode cX10_record 72 = .ok (.iconst 1, 1) := by decide +kernel
theorem dX10_record_73 : decode cX10_record 73 = .ok (.iadd, 1) := by decide +kernel
theorem dX10_record_74 : decode cX10_record 74 = .ok (.iload_n 2, 1) := by decide +kernel
theorem dX10_record_75 : decode cX10_record 75 = .ok (.iastore, 1) := by decide +kernel
theorem dX10_record_76 : decode cX10_record 76 = .ok (.aload_n 0, 1) := by decide +kernel
theorem dX10_record_77 : decode cX10_record 77 = .ok (.getfield 7, 3) := by decide +kernel
theorem dX10_record_80 : decode cX10_record 80 = .ok (.iload 4, 2) := by decide +kernel
theorem dX10_record_82 : decode cX10_record 82 = .ok (.iconst 2, 1) := by decide +kernel
theorem dX10_record_83 : decode cX10_record 83 = .ok (.iadd, 1) := by decide +kernel
theorem dX10_record_84 : decode cX10_record 84 = .ok (.iload_n 3, 1) := by decide +kernel
theorem dX10_record_85 : decode cX10_record 85 = .ok (.ifCond .eq 7, 3) := by decide +kernel
theorem dX10_record_88 : decode cX10_record 88 = .ok (.iconst 1, 1) := by decide +kernel
theorem dX10_record_89 : decode cX10_record 89 = .ok (.goto 4, 3) := by decide +kernel
theorem dX10_record_92 : decode cX10_record 92 = .ok (.iconst 0, 1) := by decide +kernel
theorem dX10_record_93 : decode cX10_record 93 = .ok (.iastore, 1) := by decide +kernel
theorem dX10_record_94 : decode cX10_record 94 = .ok (.aload_n 0, 1) := by decide +kernel
theorem dX10_record_95 : decode cX10_record 95 = .ok (.getfield 7, 3) := by decide +kernel
theorem dX10_record_98 : decode cX10_record 98 = .ok (.iconst 4, 1) := by decide +kernel
theorem dX10_record_99 : decode cX10_record 99 = .ok (.dup2, 1) := by decide +kernel
theorem dX10_record_100 : decode cX10_record 100 = .ok (.iaload, 1) := by decide +kernel
theorem dX10_record_101 : decode cX10_record 101 = .ok (.iconst 1, 1) := by decide +kernel
theorem dX10_record_102 : decode cX10_record 102 = .ok (.iadd, 1) := by decide +kernel
theorem dX10_record_103 : decode cX10_record 103 = .ok (.iastore, 1) := by decide +kernel
theorem dX10_record_104 : decode cX10_record 104 = .ok (.aload_n 0, 1) := by decide +kernel
theorem dX10_record_105 : decode cX10_record 105 = .ok (.getfield 7, 3) := by decide +kernel
theorem dX10_record_108 : decode cX10_record 108 = .ok (.iconst 4, 1) := by decide +kernel
theorem dX10_record_109 : decode cX10_record 109 = .ok (.iaload, 1) := by decide +kernel
theorem dX10_record_110 : decode cX10_record 110 = .ok (.ireturn, 1) := by decide +kernel
theorem dX10_wrongBy_0 : decode cX10_wrongBy 0 = .ok (.iconst 0, 1) := by decide +kernel
theorem dX10_wrongBy_1 : decode cX10_wrongBy 1 = .ok (.istore_n 3, 1) := by decide +kernel
theorem dX10_wrongBy_2 : decode cX10_wrongBy 2 = .ok (.iconst 0, 1) := by decide +kernel
theorem dX10_wrongBy_3 : decode cX10_wrongBy 3 = .ok (.istore 4, 2) := by decide +kernel
theorem dX10_wrongBy_5 : decode cX10_wrongBy 5 = .ok (.iload 4, 2) := by decide +kernel
theorem dX10_wrongBy_7 : decode cX10_wrongBy 7 = .ok (.aload_n 0, 1) := by decide +kernel
theorem dX10_wrongBy_8 : decode cX10_wrongBy 8 = .ok (.getfield 7, 3) := by decide +kernel
theorem dX10_wrongBy_11 : decode cX10_wrongBy 11 = .ok (.iconst 4, 1) := by decide +kernel
theorem dX10_wrongBy_12 : decode cX10_wrongBy 12 = .ok (.iaload, 1) := by decide +kernel
theorem dX10_wrongBy_13 : decode cX10_wrongBy 13 = .ok (.if_icmp .ge 90, 3) := by decide +kernel
theorem dX10_wrongBy_16 : decode cX10_wrongBy 16 = .ok (.bipush 76, 2) := by decide +kernel
theorem dX10_wrongBy_18 : decode cX10_wrongBy 18 = .ok (.iconst 3, 1) := by decide +kernel
theorem dX10_wrongBy_19 : decode cX10_wrongBy 19 = .ok (.iload 4, 2) := by decide +kernel
theorem dX10_wrongBy_21 : decode cX10_wrongBy 21 = .ok (.imul, 1) := by decide +kernel
theorem dX10_wrongBy_22 : decode cX10_wrongBy 22 = .ok (.iadd, 1) := by decide +kernel
theorem dX10_wrongBy_23 : decode cX10_wrongBy 23 = .ok (.istore 5, 2) := by decide +kernel
theorem dX10_wrongBy_25 : decode cX10_wrongBy 25 = .ok (.aload_n 0, 1) := by decide +kernel
theorem dX10_wrongBy_26 : decode cX10_wrongBy 26 = .ok (.getfield 7, 3) := by decide +kernel
theorem dX10_wrongBy_29 : decode cX10_wrongBy 29 = .ok (.iload 5, 2) := by decide +kernel
theorem dX10_wrongBy_31 : decode cX10_wrongBy 31 = .ok (.iaload, 1) := by decide +kernel
theorem dX10_wrongBy_32 : decode cX10_wrongBy 32 = .ok (.istore 6, 2) := by decide +kernel
theorem dX10_wrongBy_34 : decode cX10_wrongBy 34 = .ok (.iload_n 3, 1) := by decide +kernel
theorem dX10_wrongBy_35 : decode cX10_wrongBy 35 = .ok (.aload_n 0, 1) := by decide +kernel
theorem dX10_wrongBy_36 : decode cX10_wrongBy 36 = .ok (.iload_n 1, 1) := by decide +kernel
theorem dX10_wrongBy_37 : decode cX10_wrongBy 37 = .ok (.aload_n 0, 1) := by decide +kernel
theorem dX10_wrongBy_38 : decode cX10_wrongBy 38 = .ok (.getfield 7, 3) := by decide +kernel
theorem dX10_wrongBy_41 : decode cX10_wrongBy 41 = .ok (.iload 5, 2) := by decide +kernel
theorem dX10_wrongBy_43 : decode cX10_wrongBy 43 = .ok (.iconst 1, 1) := by decide +kernel
theorem dX10_wrongBy_44 : decode cX10_wrongBy 44 = .ok (.iadd, 1) := by decide +kernel
theorem dX10_wrongBy_45 : decode cX10_wrongBy 45 = .ok (.iaload, 1) := by decide +kernel
theorem dX10_wrongBy_46 : decode cX10_wrongBy 46 = .ok (.iload_n 2, 1) := by decide +kernel
theorem dX10_wrongBy_47 : decode cX10_wrongBy 47 = .ok (.iadd, 1) := by decide +kernel
theorem dX10_wrongBy_48 : decode cX10_wrongBy 48 = .ok (.iconst 4, 1) := by decide +kernel
theorem dX10_wrongBy_49 : decode cX10_wrongBy 49 = .ok (.irem, 1) := by decide +kernel
theorem dX10_wrongBy_50 : decode cX10_wrongBy 50 = .ok (.iload 6, 2) := by decide +kernel
theorem dX10_wrongBy_52 : decode cX10_wrongBy 52 = .ok (.aload_n 0, 1) := by decide +kernel
theorem dX10_wrongBy_53 : decode cX10_wrongBy 53 = .ok (.iload 6, 2) := by decide +kernel
theorem dX10_wrongBy_55 : decode cX10_wrongBy 55 = .ok (.iconst 2, 1) := by decide +kernel
theorem dX10_wrongBy_56 : decode cX10_wrongBy 56 = .ok (.invokevirtual 82, 3) := by decide +kernel
theorem dX10_wrongBy_59 : decode cX10_wrongBy 59 = .ok (.aload_n 0, 1) := by decide +kernel
theorem dX10_wrongBy_60 : decode cX10_wrongBy 60 = .ok (.iload 6, 2) := by decide +kernel
theorem dX10_wrongBy_62 : decode cX10_wrongBy 62 = .ok (.iconst 3, 1) := by decide +kernel
theorem dX10_wrongBy_63 : decode cX10_wrongBy 63 = .ok (.invokevirtual 82, 3) := by decide +kernel
theorem dX10_wrongBy_66 : decode cX10_wrongBy 66 = .ok (.invokevirtual 349, 3) := by decide +kernel
theorem dX10_wrongBy_69 : decode cX10_wrongBy 69 = .ok (.aload_n 0, 1) := by decide +kernel
theorem dX10_wrongBy_70 : decode cX10_wrongBy 70 = .ok (.getfield 7, 3) := by decide +kernel
theorem dX10_wrongBy_73 : decode cX10_wrongBy 73 = .ok (.iload 5, 2) := by decide +kernel
theorem dX10_wrongBy_75 : decode cX10_wrongBy 75 = .ok (.iconst 2, 1) := by decide +kernel
theorem dX10_wrongBy_76 : decode cX10_wrongBy 76 = .ok (.iadd, 1) := by decide +kernel
theorem dX10_wrongBy_77 : decode cX10_wrongBy 77 = .ok (.iaload, 1) := by decide +kernel
theorem dX10_wrongBy_78 : decode cX10_wrongBy 78 = .ok (.iconst 1, 1) := by decide +kernel
theorem dX10_wrongBy_79 : decode cX10_wrongBy 79 = .ok (.if_icmp .ne 7, 3) := by decide +kernel
theorem dX10_wrongBy_82 : decode cX10_wrongBy 82 = .ok (.iconst 1, 1) := by decide +kernel
theorem dX10_wrongBy_83 : decode cX10_wrongBy 83 = .ok (.goto 4, 3) := by decide +kernel
theorem dX10_wrongBy_86 : decode cX10_wrongBy 86 = .ok (.iconst 0, 1) := by decide +kernel
theorem dX10_wrongBy_87 : decode cX10_wrongBy 87 = .ok (.if_icmp .ne 7, 3) := by decide +kernel
theorem dX10_wrongBy_90 : decode cX10_wrongBy 90 = .ok (.iconst 0, 1) := by decide +kernel
theorem dX10_wrongBy_91 : decode cX10_wrongBy 91 = .ok (.goto 4, 3) := by decide +kernel
theorem dX10_wrongBy_94 : decode cX10_wrongBy 94 = .ok (.iconst 1, 1) := by decide +kernel
theorem dX10_wrongBy_95 : decode cX10_wrongBy 95 = .ok (.iadd, 1) := by decide +kernel
theorem dX10_wrongBy_96 : decode cX10_wrongBy 96 = .ok (.istore_n 3, 1) := by decide +kernel
theorem dX10_wrongBy_97 : decode cX10_wrongBy 97 = .ok (.iinc 4 1, 3) := by decide +kernel
theorem dX10_wrongBy_100 : decode cX10_wrongBy 100 = .ok (.goto (-95), 3) := by decide +kernel
theorem dX10_wrongBy_103 : decode cX10_wrongBy 103 = .ok (.iload_n 3, 1) := by decide +kernel
theorem dX10_wrongBy_104 : decode cX10_wrongBy 104 = .ok (.ireturn, 1) := by decide +kernel
theorem dX10_turned_0 : decode cX10_turned 0 = .ok (.iconst 0, 1) := by decide +kernel
theorem dX10_turned_1 : decode cX10_turned 1 = .ok (.istore_n 1, 1) := by decide +kernel
theorem dX10_turned_2 : decode cX10_turned 2 = .ok (.iconst 0, 1) := by decide +kernel
theorem dX10_turned_3 : decode cX10_turned 3 = .ok (.istore_n 2, 1) := by decide +kernel
theorem dX10_turned_4 : decode cX10_turned 4 = .ok (.iload_n 2, 1) := by decide +kernel
theorem dX10_turned_5 : decode cX10_turned 5 = .ok (.iconst 4, 1) := by decide +kernel
theorem dX10_turned_6 : decode cX10_turned 6 = .ok (.if_icmp .ge 33, 3) := by decide +kernel
theorem dX10_turned_9 : decode cX10_turned 9 = .ok (.iload_n 1, 1) := by decide +kernel
theorem dX10_turned_10 : decode cX10_turned 10 = .ok (.aload_n 0, 1) := by decide +kernel
theorem dX10_turned_11 : decode cX10_turned 11 = .ok (.aload_n 0, 1) := by decide +kernel
theorem dX10_turned_12 : decode cX10_turned 12 = .ok (.getfield 7, 3) := by decide +kernel
theorem dX10_turned_15 : decode cX10_turned 15 = .ok (.iconst 2, 1) := by decide +kernel
theorem dX10_turned_16 : decode cX10_turned 16 = .ok (.iaload, 1) := by decide +kernel
theorem dX10_turned_17 : decode cX10_turned 17 = .ok (.iload_n 2, 1) := by decide +kernel
theorem dX10_turned_18 : decode cX10_turned 18 = .ok (.invokevirtual 468, 3) := by decide +kernel
theorem dX10_turned_21 : decode cX10_turned 21 = .ok (.ifCond .ne 9, 3) := by decide +kernel
theorem dX10_turned_24 : decode cX10_turned 24 = .ok (.iconst 1, 1) := by decide +kernel
theorem dX10_turned_25 : decode cX10_turned 25 = .ok (.iload_n 2, 1) := by decide +kernel
theorem dX10_turned_26 : decode cX10_turned 26 = .ok (.ishl, 1) := by decide +kernel
theorem dX10_turned_27 : decode cX10_turned 27 = .ok (.goto 4, 3) := by decide +kernel
theorem dX10_turned_30 : decode cX10_turned 30 = .ok (.iconst 0, 1) := by decide +kernel
theorem dX10_turned_31 : decode cX10_turned 31 = .ok (.ior, 1) := by decide +kernel
theorem dX10_turned_32 : decode cX10_turned 32 = .ok (.istore_n 1, 1) := by decide +kernel
theorem dX10_turned_33 : decode cX10_turned 33 = .ok (.iinc 2 1, 3) := by decide +kernel
theorem dX10_turned_36 : decode cX10_turned 36 = .ok (.goto (-32), 3) := by decide +kernel
theorem dX10_turned_39 : decode cX10_turned 39 = .ok (.iload_n 1, 1) := by decide +kernel
theorem dX10_turned_40 : decode cX10_turned 40 = .ok (.ireturn, 1) := by decide +kernel
theorem dX10_fewestWrong_0 : decode cX10_fewestWrong 0 = .ok (.ldc_w 471, 3) := by decide +kernel
theorem dX10_fewestWrong_3 : decode cX10_fewestWrong 3 = .ok (.istore_n 1, 1) := by decide +kernel
theorem dX10_fewestWrong_4 : decode cX10_fewestWrong 4 = .ok (.iconst 0, 1) := by decide +kernel
theorem dX10_fewestWrong_5 : decode cX10_fewestWrong 5 = .ok (.istore_n 2, 1) := by decide +kernel
theorem dX10_fewestWrong_6 : decode cX10_fewestWrong 6 = .ok (.iload_n 2, 1) := by decide +kernel
theorem dX10_fewestWrong_7 : decode cX10_fewestWrong 7 = .ok (.iconst 4, 1) := by decide +kernel
theorem dX10_fewestWrong_8 : decode cX10_fewestWrong 8 = .ok (.if_icmp .ge 40, 3) := by decide +kernel
theorem dX10_fewestWrong_11 : decode cX10_fewestWrong 11 = .ok (.aload_n 0, 1) := by decide +kernel
theorem dX10_fewestWrong_12 : decode cX10_fewestWrong 12 = .ok (.aload_n 0, 1) := by decide +kernel
theorem dX10_fewestWrong_13 : decode cX10_fewestWrong 13 = .ok (.getfield 7, 3) := by decide +kernel
theorem dX10_fewestWrong_16 : decode cX10_fewestWrong 16 = .ok (.iconst 2, 1) := by decide +kernel
theorem dX10_fewestWrong_17 : decode cX10_fewestWrong 17 = .ok (.iaload, 1) := by decide +kernel
theorem dX10_fewestWrong_18 : decode cX10_fewestWrong 18 = .ok (.iload_n 2, 1) := by decide +kernel
theorem dX10_fewestWrong_19 : decode cX10_fewestWrong 19 = .ok (.invokevirtual 468, 3) := by decide +kernel
theorem dX10_fewestWrong_22 : decode cX10_fewestWrong 22 = .ok (.iload_n 1, 1) := by decide +kernel
theorem dX10_fewestWrong_23 : decode cX10_fewestWrong 23 = .ok (.if_icmp .ge 17, 3) := by decide +kernel
theorem dX10_fewestWrong_26 : decode cX10_fewestWrong 26 = .ok (.aload_n 0, 1) := by decide +kernel
theorem dX10_fewestWrong_27 : decode cX10_fewestWrong 27 = .ok (.aload_n 0, 1) := by decide +kernel
theorem dX10_fewestWrong_28 : decode cX10_fewestWrong 28 = .ok (.getfield 7, 3) := by decide +kernel
theorem dX10_fewestWrong_31 : decode cX10_fewestWrong 31 = .ok (.iconst 2, 1) := by decide +kernel
theorem dX10_fewestWrong_32 : decode cX10_fewestWrong 32 = .ok (.iaload, 1) := by decide +kernel
theorem dX10_fewestWrong_33 : decode cX10_fewestWrong 33 = .ok (.iload_n 2, 1) := by decide +kernel
theorem dX10_fewestWrong_34 : decode cX10_fewestWrong 34 = .ok (.invokevirtual 468, 3) := by decide +kernel
theorem dX10_fewestWrong_37 : decode cX10_fewestWrong 37 = .ok (.goto 4, 3) := by decide +kernel
theorem dX10_fewestWrong_40 : decode cX10_fewestWrong 40 = .ok (.iload_n 1, 1) := by decide +kernel
theorem dX10_fewestWrong_41 : decode cX10_fewestWrong 41 = .ok (.istore_n 1, 1) := by decide +kernel
theorem dX10_fewestWrong_42 : decode cX10_fewestWrong 42 = .ok (.iinc 2 1, 3) := by decide +kernel
theorem dX10_fewestWrong_45 : decode cX10_fewestWrong 45 = .ok (.goto (-39), 3) := by decide +kernel
theorem dX10_fewestWrong_48 : decode cX10_fewestWrong 48 = .ok (.iload_n 1, 1) := by decide +kernel
theorem dX10_fewestWrong_49 : decode cX10_fewestWrong 49 = .ok (.ireturn, 1) := by decide +kernel
theorem dX10_whose_0 : decode cX10_whose 0 = .ok (.iconst 0, 1) := by decide +kernel
theorem dX10_whose_1 : decode cX10_whose 1 = .ok (.istore_n 1, 1) := by decide +kernel
theorem dX10_whose_2 : decode cX10_whose 2 = .ok (.iconst 0, 1) := by decide +kernel
theorem dX10_whose_3 : decode cX10_whose 3 = .ok (.istore_n 2, 1) := by decide +kernel
theorem dX10_whose_4 : decode cX10_whose 4 = .ok (.iload_n 2, 1) := by decide +kernel
theorem dX10_whose_5 : decode cX10_whose 5 = .ok (.aload_n 0, 1) := by decide +kernel
theorem dX10_whose_6 : decode cX10_whose 6 = .ok (.getfield 7, 3) := by decide +kernel
theorem dX10_whose_9 : decode cX10_whose 9 = .ok (.iconst 1, 1) := by decide +kernel
theorem dX10_whose_10 : decode cX10_whose 10 = .ok (.iaload, 1) := by decide +kernel
theorem dX10_whose_11 : decode cX10_whose 11 = .ok (.if_icmp .ge 28, 3) := by decide +kernel
theorem dX10_whose_14 : decode cX10_whose 14 = .ok (.iload_n 1, 1) := by decide +kernel
theorem dX10_whose_15 : decode cX10_whose 15 = .ok (.aload_n 0, 1) := by decide +kernel
theorem dX10_whose_16 : decode cX10_whose 16 = .ok (.iload_n 2, 1) := by decide +kernel
theorem dX10_whose_17 : decode cX10_whose 17 = .ok (.iconst 0, 1) := by decide +kernel
theorem dX10_whose_18 : decode cX10_whose 18 = .ok (.invokevirtual 468, 3) := by decide +kernel
theorem dX10_whose_21 : decode cX10_whose 21 = .ok (.ifCond .ne 9, 3) := by decide +kernel
theorem dX10_whose_24 : decode cX10_whose 24 = .ok (.iconst 1, 1) := by decide +kernel
theorem dX10_whose_25 : decode cX10_whose 25 = .ok (.iload_n 2, 1) := by decide +kernel
theorem dX10_whose_26 : decode cX10_whose 26 = .ok (.ishl, 1) := by decide +kernel
theorem dX10_whose_27 : decode cX10_whose 27 = .ok (.goto 4, 3) := by decide +kernel
theorem dX10_whose_30 : decode cX10_whose 30 = .ok (.iconst 0, 1) := by decide +kernel
theorem dX10_whose_31 : decode cX10_whose 31 = .ok (.ior, 1) := by decide +kernel
theorem dX10_whose_32 : decode cX10_whose 32 = .ok (.istore_n 1, 1) := by decide +kernel
theorem dX10_whose_33 : decode cX10_whose 33 = .ok (.iinc 2 1, 3) := by decide +kernel
theorem dX10_whose_36 : decode cX10_whose 36 = .ok (.goto (-32), 3) := by decide +kernel
theorem dX10_whose_39 : decode cX10_whose 39 = .ok (.iload_n 1, 1) := by decide +kernel
theorem dX10_whose_40 : decode cX10_whose 40 = .ok (.ireturn, 1) := by decide +kernel
theorem dX10_learn_0 : decode cX10_learn 0 = .ok (.iload_n 1, 1) := by decide +kernel
theorem dX10_learn_1 : decode cX10_learn 1 = .ok (.iconst (-1), 1) := by decide +kernel
theorem dX10_learn_2 : decode cX10_learn 2 = .ok (.if_icmp .ne 12, 3) := by decide +kernel
theorem dX10_learn_5 : decode cX10_learn 5 = .ok (.aload_n 0, 1) := by decide +kernel
theorem dX10_learn_6 : decode cX10_learn 6 = .ok (.getfield 7, 3) := by decide +kernel
theorem dX10_learn_9 : decode cX10_learn 9 = .ok (.iconst 5, 1) := by decide +kernel
theorem dX10_learn_10 : decode cX10_learn 10 = .ok (.iconst 0, 1) := by decide +kernel
theorem dX10_learn_11 : decode cX10_learn 11 = .ok (.iastore, 1) := by decide +kernel
theorem dX10_learn_12 : decode cX10_learn 12 = .ok (.iconst 0, 1) := by decide +kernel
theorem dX10_learn_13 : decode cX10_learn 13 = .ok (.ireturn, 1) := by decide +kernel
theorem dX10_learn_14 : decode cX10_learn 14 = .ok (.aload_n 0, 1) := by decide +kernel
theorem dX10_learn_15 : decode cX10_learn 15 = .ok (.iload_n 1, 1) := by decide +kernel
theorem dX10_learn_16 : decode cX10_learn 16 = .ok (.invokevirtual 78, 3) := by decide +kernel
theorem dX10_learn_19 : decode cX10_learn 19 = .ok (.ifCond .eq 14, 3) := by decide +kernel
theorem dX10_learn_22 : decode cX10_learn 22 = .ok (.aload_n 0, 1) := by decide +kernel
theorem dX10_learn_23 : decode cX10_learn 23 = .ok (.getfield 7, 3) := by decide +kernel
theorem dX10_learn_26 : decode cX10_learn 26 = .ok (.iconst 5, 1) := by decide +kernel
theorem dX10_learn_27 : decode cX10_learn 27 = .ok (.iaload, 1) := by decide +kernel
theorem dX10_learn_28 : decode cX10_learn 28 = .ok (.bipush 8, 2) := by decide +kernel
theorem dX10_learn_30 : decode cX10_learn 30 = .ok (.if_icmp .ne 6, 3) := by decide +kernel
theorem dX10_learn_33 : decode cX10_learn 33 = .ok (.bipush (-2), 2) := by decide +kernel
theorem dX10_learn_35 : decode cX10_learn 35 = .ok (.ireturn, 1) := by decide +kernel
theorem dX10_learn_36 : decode cX10_learn 36 = .ok (.aload_n 0, 1) := by decide +kernel
theorem dX10_learn_37 : decode cX10_learn 37 = .ok (.getfield 7, 3) := by decide +kernel
theorem dX10_learn_40 : decode cX10_learn 40 = .ok (.bipush 100, 2) := by decide +kernel
theorem dX10_learn_42 : decode cX10_learn 42 = .ok (.iconst 2, 1) := by decide +kernel
theorem dX10_learn_43 : decode cX10_learn 43 = .ok (.aload_n 0, 1) := by decide +kernel
theorem dX10_learn_44 : decode cX10_learn 44 = .ok (.getfield 7, 3) := by decide +kernel
theorem dX10_learn_47 : decode cX10_learn 47 = .ok (.iconst 5, 1) := by decide +kernel
theorem dX10_learn_48 : decode cX10_learn 48 = .ok (.iaload, 1) := by decide +kernel
theorem dX10_learn_49 : decode cX10_learn 49 = .ok (.imul, 1) := by decide +kernel
theorem dX10_learn_50 : decode cX10_learn 50 = .ok (.iadd, 1) := by decide +kernel
theorem dX10_learn_51 : decode cX10_learn 51 = .ok (.iload_n 1, 1) := by decide +kernel
theorem dX10_learn_52 : decode cX10_learn 52 = .ok (.iastore, 1) := by decide +kernel
theorem dX10_learn_53 : decode cX10_learn 53 = .ok (.aload_n 0, 1) := by decide +kernel
theorem dX10_learn_54 : decode cX10_learn 54 = .ok (.getfield 7, 3) := by decide +kernel
theorem dX10_learn_57 : decode cX10_learn 57 = .ok (.bipush 100, 2) := by decide +kernel
theorem dX10_learn_59 : decode cX10_learn 59 = .ok (.iconst 2, 1) := by decide +kernel
theorem dX10_learn_60 : decode cX10_learn 60 = .ok (.aload_n 0, 1) := by decide +kernel
theorem dX10_learn_61 : decode cX10_learn 61 = .ok (.getfield 7, 3) := by decide +kernel
theorem dX10_learn_64 : decode cX10_learn 64 = .ok (.iconst 5, 1) := by decide +kernel
theorem dX10_learn_65 : decode cX10_learn 65 = .ok (.iaload, 1) := by decide +kernel
theorem dX10_learn_66 : decode cX10_learn 66 = .ok (.imul, 1) := by decide +kernel
theorem dX10_learn_67 : decode cX10_learn 67 = .ok (.iadd, 1) := by decide +kernel
theorem dX10_learn_68 : decode cX10_learn 68 = .ok (.iconst 1, 1) := by decide +kernel
theorem dX10_learn_69 : decode cX10_learn 69 = .ok (.iadd, 1) := by decide +kernel
theorem dX10_learn_70 : decode cX10_learn 70 = .ok (.iload_n 2, 1) := by decide +kernel
theorem dX10_learn_71 : decode cX10_learn 71 = .ok (.ifCond .eq 7, 3) := by decide +kernel
theorem dX10_learn_74 : decode cX10_learn 74 = .ok (.iconst 1, 1) := by decide +kernel
theorem dX10_learn_75 : decode cX10_learn 75 = .ok (.goto 4, 3) := by decide +kernel
theorem dX10_learn_78 : decode cX10_learn 78 = .ok (.iconst 0, 1) := by decide +kernel
theorem dX10_learn_79 : decode cX10_learn 79 = .ok (.iastore, 1) := by decide +kernel
theorem dX10_learn_80 : decode cX10_learn 80 = .ok (.aload_n 0, 1) := by decide +kernel
theorem dX10_learn_81 : decode cX10_learn 81 = .ok (.getfield 7, 3) := by decide +kernel
theorem dX10_learn_84 : decode cX10_learn 84 = .ok (.iconst 5, 1) := by decide +kernel
theorem dX10_learn_85 : decode cX10_learn 85 = .ok (.dup2, 1) := by decide +kernel
theorem dX10_learn_86 : decode cX10_learn 86 = .ok (.iaload, 1) := by decide +kernel
theorem dX10_learn_87 : decode cX10_learn 87 = .ok (.iconst 1, 1) := by decide +kernel
theorem dX10_learn_88 : decode cX10_learn 88 = .ok (.iadd, 1) := by decide +kernel
theorem dX10_learn_89 : decode cX10_learn 89 = .ok (.iastore, 1) := by decide +kernel
theorem dX10_learn_90 : decode cX10_learn 90 = .ok (.aload_n 0, 1) := by decide +kernel
theorem dX10_learn_91 : decode cX10_learn 91 = .ok (.getfield 7, 3) := by decide +kernel
theorem dX10_learn_94 : decode cX10_learn 94 = .ok (.iconst 5, 1) := by decide +kernel
theorem dX10_learn_95 : decode cX10_learn 95 = .ok (.iaload, 1) := by decide +kernel
theorem dX10_learn_96 : decode cX10_learn 96 = .ok (.ireturn, 1) := by decide +kernel
theorem dX10_isBy_0 : decode cX10_isBy 0 = .ok (.aload_n 0, 1) := by decide +kernel
theorem dX10_isBy_1 : decode cX10_isBy 1 = .ok (.iload_n 2, 1) := by decide +kernel
theorem dX10_isBy_2 : decode cX10_isBy 2 = .ok (.iconst 3, 1) := by decide +kernel
theorem dX10_isBy_3 : decode cX10_isBy 3 = .ok (.invokevirtual 82, 3) := by decide +kernel
theorem dX10_isBy_6 : decode cX10_isBy 6 = .ok (.iload_n 1, 1) := by decide +kernel
theorem dX10_isBy_7 : decode cX10_isBy 7 = .ok (.iand, 1) := by decide +kernel
theorem dX10_isBy_8 : decode cX10_isBy 8 = .ok (.iload_n 1, 1) := by decide +kernel
theorem dX10_isBy_9 : decode cX10_isBy 9 = .ok (.if_icmp .ne 7, 3) := by decide +kernel
theorem dX10_isBy_12 : decode cX10_isBy 12 = .ok (.iconst 1, 1) := by decide +kernel
theorem dX10_isBy_13 : decode cX10_isBy 13 = .ok (.goto 4, 3) := by decide +kernel
theorem dX10_isBy_16 : decode cX10_isBy 16 = .ok (.iconst 0, 1) := by decide +kernel
theorem dX10_isBy_17 : decode cX10_isBy 17 = .ok (.ireturn, 1) := by decide +kernel
theorem dX10_isCode_0 : decode cX10_isCode 0 = .ok (.iconst 0, 1) := by decide +kernel
theorem dX10_isCode_1 : decode cX10_isCode 1 = .ok (.istore_n 2, 1) := by decide +kernel
theorem dX10_isCode_2 : decode cX10_isCode 2 = .ok (.iload_n 2, 1) := by decide +kernel
theorem dX10_isCode_3 : decode cX10_isCode 3 = .ok (.aload_n 0, 1) := by decide +kernel
theorem dX10_isCode_4 : decode cX10_isCode 4 = .ok (.getfield 7, 3) := by decide +kernel
theorem dX10_isCode_7 : decode cX10_isCode 7 = .ok (.iconst 5, 1) := by decide +kernel
theorem dX10_isCode_8 : decode cX10_isCode 8 = .ok (.iaload, 1) := by decide +kernel
theorem dX10_isCode_9 : decode cX10_isCode 9 = .ok (.if_icmp .ge 52, 3) := by decide +kernel
theorem dX10_isCode_12 : decode cX10_isCode 12 = .ok (.aload_n 0, 1) := by decide +kernel
theorem dX10_isCode_13 : decode cX10_isCode 13 = .ok (.iload_n 1, 1) := by decide +kernel
theorem dX10_isCode_14 : decode cX10_isCode 14 = .ok (.aload_n 0, 1) := by decide +kernel
theorem dX10_isCode_15 : decode cX10_isCode 15 = .ok (.getfield 7, 3) := by decide +kernel
theorem dX10_isCode_18 : decode cX10_isCode 18 = .ok (.bipush 100, 2) := by decide +kernel
theorem dX10_isCode_20 : decode cX10_isCode 20 = .ok (.iconst 2, 1) := by decide +kernel
theorem dX10_isCode_21 : decode cX10_isCode 21 = .ok (.iload_n 2, 1) := by decide +kernel
theorem dX10_isCode_22 : decode cX10_isCode 22 = .ok (.imul, 1) := by decide +kernel
theorem dX10_isCode_23 : decode cX10_isCode 23 = .ok (.iadd, 1) := by decide +kernel
theorem dX10_isCode_24 : decode cX10_isCode 24 = .ok (.iaload, 1) := by decide +kernel
theorem dX10_isCode_25 : decode cX10_isCode 25 = .ok (.invokevirtual 472, 3) := by decide +kernel
theorem dX10_isCode_28 : decode cX10_isCode 28 = .ok (.aload_n 0, 1) := by decide +kernel
theorem dX10_isCode_29 : decode cX10_isCode 29 = .ok (.getfield 7, 3) := by decide +kernel
theorem dX10_isCode_32 : decode cX10_isCode 32 = .ok (.bipush 100, 2) := by decide +kernel
theorem dX10_isCode_34 : decode cX10_isCode 34 = .ok (.iconst 2, 1) := by decide +kernel
theorem dX10_isCode_35 : decode cX10_isCode 35 = .ok (.iload_n 2, 1) := by decide +kernel
theorem dX10_isCode_36 : decode cX10_isCode 36 = .ok (.imul, 1) := by decide +kernel
theorem dX10_isCode_37 : decode cX10_isCode 37 = .ok (.iadd, 1) := by decide +kernel
theorem dX10_isCode_38 : decode cX10_isCode 38 = .ok (.iconst 1, 1) := by decide +kernel
theorem dX10_isCode_39 : decode cX10_isCode 39 = .ok (.iadd, 1) := by decide +kernel
theorem dX10_isCode_40 : decode cX10_isCode 40 = .ok (.iaload, 1) := by decide +kernel
theorem dX10_isCode_41 : decode cX10_isCode 41 = .ok (.iconst 1, 1) := by decide +kernel
theorem dX10_isCode_42 : decode cX10_isCode 42 = .ok (.if_icmp .ne 7, 3) := by decide +kernel
theorem dX10_isCode_45 : decode cX10_isCode 45 = .ok (.iconst 1, 1) := by decide +kernel
theorem dX10_isCode_46 : decode cX10_isCode 46 = .ok (.goto 4, 3) := by decide +kernel
theorem dX10_isCode_49 : decode cX10_isCode 49 = .ok (.iconst 0, 1) := by decide +kernel
theorem dX10_isCode_50 : decode cX10_isCode 50 = .ok (.if_icmp .eq 5, 3) := by decide +kernel
theorem dX10_isCode_53 : decode cX10_isCode 53 = .ok (.iconst 0, 1) := by decide +kernel
theorem dX10_isCode_54 : decode cX10_isCode 54 = .ok (.ireturn, 1) := by decide +kernel
theorem dX10_isCode_55 : decode cX10_isCode 55 = .ok (.iinc 2 1, 3) := by decide +kernel
theorem dX10_isCode_58 : decode cX10_isCode 58 = .ok (.goto (-56), 3) := by decide +kernel
theorem dX10_isCode_61 : decode cX10_isCode 61 = .ok (.iconst 1, 1) := by decide +kernel
theorem dX10_isCode_62 : decode cX10_isCode 62 = .ok (.ireturn, 1) := by decide +kernel
theorem dX10_codesBy_0 : decode cX10_codesBy 0 = .ok (.iconst 0, 1) := by decide +kernel
theorem dX10_codesBy_1 : decode cX10_codesBy 1 = .ok (.istore_n 2, 1) := by decide +kernel
theorem dX10_codesBy_2 : decode cX10_codesBy 2 = .ok (.iconst 0, 1) := by decide +kernel
theorem dX10_codesBy_3 : decode cX10_codesBy 3 = .ok (.istore_n 3, 1) := by decide +kernel
theorem dX10_codesBy_4 : decode cX10_codesBy 4 = .ok (.iload_n 3, 1) := by decide +kernel
theorem dX10_codesBy_5 : decode cX10_codesBy 5 = .ok (.sipush 256, 3) := by decide +kernel
theorem dX10_codesBy_8 : decode cX10_codesBy 8 = .ok (.if_icmp .ge 39, 3) := by decide +kernel
theorem dX10_codesBy_11 : decode cX10_codesBy 11 = .ok (.iload_n 2, 1) := by decide +kernel
theorem dX10_codesBy_12 : decode cX10_codesBy 12 = .ok (.aload_n 0, 1) := by decide +kernel
theorem dX10_codesBy_13 : decode cX10_codesBy 13 = .ok (.iload_n 3, 1) := by decide +kernel
theorem dX10_codesBy_14 : decode cX10_codesBy 14 = .ok (.invokevirtual 475, 3) := by decide +kernel
theorem dX10_codesBy_17 : decode cX10_codesBy 17 = .ok (.ifCond .eq 21, 3) := by decide +kernel
theorem dX10_codesBy_20 : decode cX10_codesBy 20 = .ok (.iload_n 1, 1) := by decide +kernel
theorem dX10_codesBy_21 : decode cX10_codesBy 21 = .ok (.iconst (-1), 1) := by decide +kernel
theorem dX10_codesBy_22 : decode cX10_codesBy 22 = .ok (.if_icmp .eq 12, 3) := by decide +kernel
theorem dX10_codesBy_25 : decode cX10_codesBy 25 = .ok (.aload_n 0, 1) := by decide +kernel
theorem dX10_codesBy_26 : decode cX10_codesBy 26 = .ok (.iload_n 3, 1) := by decide +kernel
theorem dX10_codesBy_27 : decode cX10_codesBy 27 = .ok (.iload_n 1, 1) := by decide +kernel
theorem dX10_codesBy_28 : decode cX10_codesBy 28 = .ok (.invokevirtual 472, 3) := by decide +kernel
theorem dX10_codesBy_31 : decode cX10_codesBy 31 = .ok (.ifCond .eq 7, 3) := by decide +kernel
theorem dX10_codesBy_34 : decode cX10_codesBy 34 = .ok (.iconst 1, 1) := by decide +kernel
theorem dX10_codesBy_35 : decode cX10_codesBy 35 = .ok (.goto 4, 3) := by decide +kernel
theorem dX10_codesBy_38 : decode cX10_codesBy 38 = .ok (.iconst 0, 1) := by decide +kernel
theorem dX10_codesBy_39 : decode cX10_codesBy 39 = .ok (.iadd, 1) := by decide +kernel
theorem dX10_codesBy_40 : decode cX10_codesBy 40 = .ok (.istore_n 2, 1) := by decide +kernel
theorem dX10_codesBy_41 : decode cX10_codesBy 41 = .ok (.iinc 3 1, 3) := by decide +kernel
theorem dX10_codesBy_44 : decode cX10_codesBy 44 = .ok (.goto (-40), 3) := by decide +kernel
theorem dX10_codesBy_47 : decode cX10_codesBy 47 = .ok (.iload_n 2, 1) := by decide +kernel
theorem dX10_codesBy_48 : decode cX10_codesBy 48 = .ok (.ireturn, 1) := by decide +kernel
theorem dX10_codes_0 : decode cX10_codes 0 = .ok (.iload_n 1, 1) := by decide +kernel
theorem dX10_codes_1 : decode cX10_codes 1 = .ok (.iconst (-1), 1) := by decide +kernel
theorem dX10_codes_2 : decode cX10_codes 2 = .ok (.if_icmp .ne 9, 3) := by decide +kernel
theorem dX10_codes_5 : decode cX10_codes 5 = .ok (.aload_n 0, 1) := by decide +kernel
theorem dX10_codes_6 : decode cX10_codes 6 = .ok (.iconst (-1), 1) := by decide +kernel
theorem dX10_codes_7 : decode cX10_codes 7 = .ok (.invokevirtual 478, 3) := by decide +kernel
theorem dX10_codes_10 : decode cX10_codes 10 = .ok (.ireturn, 1) := by decide +kernel
theorem dX10_codes_11 : decode cX10_codes 11 = .ok (.iconst 0, 1) := by decide +kernel
theorem dX10_codes_12 : decode cX10_codes 12 = .ok (.istore_n 2, 1) := by decide +kernel
theorem dX10_codes_13 : decode cX10_codes 13 = .ok (.iconst 0, 1) := by decide +kernel
theorem dX10_codes_14 : decode cX10_codes 14 = .ok (.istore_n 3, 1) := by decide +kernel
theorem dX10_codes_15 : decode cX10_codes 15 = .ok (.iload_n 3, 1) := by decide +kernel
theorem dX10_codes_16 : decode cX10_codes 16 = .ok (.sipush 256, 3) := by decide +kernel
theorem dX10_codes_19 : decode cX10_codes 19 = .ok (.if_icmp .ge 30, 3) := by decide +kernel
theorem dX10_codes_22 : decode cX10_codes 22 = .ok (.aload_n 0, 1) := by decide +kernel
theorem dX10_codes_23 : decode cX10_codes 23 = .ok (.iload_n 3, 1) := by decide +kernel
theorem dX10_codes_24 : decode cX10_codes 24 = .ok (.invokevirtual 475, 3) := by decide +kernel
theorem dX10_codes_27 : decode cX10_codes 27 = .ok (.ifCond .ne 6, 3) := by decide +kernel
theorem dX10_codes_30 : decode cX10_codes 30 = .ok (.goto 13, 3) := by decide +kernel
theorem dX10_codes_33 : decode cX10_codes 33 = .ok (.iload_n 2, 1) := by decide +kernel
theorem dX10_codes_34 : decode cX10_codes 34 = .ok (.iload_n 1, 1) := by decide +kernel
theorem dX10_codes_35 : decode cX10_codes 35 = .ok (.if_icmp .ne 5, 3) := by decide +kernel
theorem dX10_codes_38 : decode cX10_codes 38 = .ok (.iload_n 3, 1) := by decide +kernel
theorem dX10_codes_39 : decode cX10_codes 39 = .ok (.ireturn, 1) := by decide +kernel
theorem dX10_codes_40 : decode cX10_codes 40 = .ok (.iinc 2 1, 3) := by decide +kernel
theorem dX10_codes_43 : decode cX10_codes 43 = .ok (.iinc 3 1, 3) := by decide +kernel
theorem dX10_codes_46 : decode cX10_codes 46 = .ok (.goto (-31), 3) := by decide +kernel
theorem dX10_codes_49 : decode cX10_codes 49 = .ok (.iconst (-1), 1) := by decide +kernel
theorem dX10_codes_50 : decode cX10_codes 50 = .ok (.ireturn, 1) := by decide +kernel
theorem dX10_sure_0 : decode cX10_sure 0 = .ok (.aload_n 0, 1) := by decide +kernel
theorem dX10_sure_1 : decode cX10_sure 1 = .ok (.iload_n 1, 1) := by decide +kernel
theorem dX10_sure_2 : decode cX10_sure 2 = .ok (.invokevirtual 78, 3) := by decide +kernel
theorem dX10_sure_5 : decode cX10_sure 5 = .ok (.ifCond .ne 5, 3) := by decide +kernel
theorem dX10_sure_8 : decode cX10_sure 8 = .ok (.iconst (-1), 1) := by decide +kernel
theorem dX10_sure_9 : decode cX10_sure 9 = .ok (.ireturn, 1) := by decide +kernel
theorem dX10_sure_10 : decode cX10_sure 10 = .ok (.aload_n 0, 1) := by decide +kernel
theorem dX10_sure_11 : decode cX10_sure 11 = .ok (.iconst (-1), 1) := by decide +kernel
theorem dX10_sure_12 : decode cX10_sure 12 = .ok (.invokevirtual 478, 3) := by decide +kernel
theorem dX10_sure_15 : decode cX10_sure 15 = .ok (.istore_n 2, 1) := by decide +kernel
theorem dX10_sure_16 : decode cX10_sure 16 = .ok (.aload_n 0, 1) := by decide +kernel
theorem dX10_sure_17 : decode cX10_sure 17 = .ok (.iload_n 1, 1) := by decide +kernel
theorem dX10_sure_18 : decode cX10_sure 18 = .ok (.invokevirtual 478, 3) := by decide +kernel
theorem dX10_sure_21 : decode cX10_sure 21 = .ok (.istore_n 3, 1) := by decide +kernel
theorem dX10_sure_22 : decode cX10_sure 22 = .ok (.iload_n 2, 1) := by decide +kernel
theorem dX10_sure_23 : decode cX10_sure 23 = .ok (.ifCond .ne 7, 3) := by decide +kernel
theorem dX10_sure_26 : decode cX10_sure 26 = .ok (.iconst (-1), 1) := by decide +kernel
theorem dX10_sure_27 : decode cX10_sure 27 = .ok (.goto 21, 3) := by decide +kernel
theorem dX10_sure_30 : decode cX10_sure 30 = .ok (.iload_n 3, 1) := by decide +kernel
theorem dX10_sure_31 : decode cX10_sure 31 = .ok (.iload_n 2, 1) := by decide +kernel
theorem dX10_sure_32 : decode cX10_sure 32 = .ok (.if_icmp .ne 7, 3) := by decide +kernel
theorem dX10_sure_35 : decode cX10_sure 35 = .ok (.iconst 1, 1) := by decide +kernel
theorem dX10_sure_36 : decode cX10_sure 36 = .ok (.goto 12, 3) := by decide +kernel
theorem dX10_sure_39 : decode cX10_sure 39 = .ok (.iload_n 3, 1) := by decide +kernel
theorem dX10_sure_40 : decode cX10_sure 40 = .ok (.ifCond .ne 7, 3) := by decide +kernel
theorem dX10_sure_43 : decode cX10_sure 43 = .ok (.iconst 0, 1) := by decide +kernel
theorem dX10_sure_44 : decode cX10_sure 44 = .ok (.goto 4, 3) := by decide +kernel
theorem dX10_sure_47 : decode cX10_sure 47 = .ok (.iconst (-1), 1) := by decide +kernel
theorem dX10_sure_48 : decode cX10_sure 48 = .ok (.ireturn, 1) := by decide +kernel
theorem dX10_toBring_0 : decode cX10_toBring 0 = .ok (.aload_n 0, 1) := by decide +kernel
theorem dX10_toBring_1 : decode cX10_toBring 1 = .ok (.iconst (-1), 1) := by decide +kernel
theorem dX10_toBring_2 : decode cX10_toBring 2 = .ok (.invokevirtual 478, 3) := by decide +kernel
theorem dX10_toBring_5 : decode cX10_toBring 5 = .ok (.istore_n 1, 1) := by decide +kernel
theorem dX10_toBring_6 : decode cX10_toBring 6 = .ok (.iconst (-1), 1) := by decide +kernel
theorem dX10_toBring_7 : decode cX10_toBring 7 = .ok (.istore_n 2, 1) := by decide +kernel
theorem dX10_toBring_8 : decode cX10_toBring 8 = .ok (.ldc_w 471, 3) := by decide +kernel
theorem dX10_toBring_11 : decode cX10_toBring 11 = .ok (.istore_n 3, 1) := by decide +kernel
theorem dX10_toBring_12 : decode cX10_toBring 12 = .ok (.iconst 0, 1) := by decide +kernel
theorem dX10_toBring_13 : decode cX10_toBring 13 = .ok (.istore 4, 2) := by decide +kernel
theorem dX10_toBring_15 : decode cX10_toBring 15 = .ok (.iload 4, 2) := by decide +kernel
theorem dX10_toBring_17 : decode cX10_toBring 17 = .ok (.aload_n 0, 1) := by decide +kernel
theorem dX10_toBring_18 : decode cX10_toBring 18 = .ok (.getfield 7, 3) := by decide +kernel
theorem dX10_toBring_21 : decode cX10_toBring 21 = .ok (.iconst 0, 1) := by decide +kernel
theorem dX10_toBring_22 : decode cX10_toBring 22 = .ok (.iaload, 1) := by decide +kernel
theorem dX10_toBring_23 : decode cX10_toBring 23 = .ok (.if_icmp .ge 68, 3) := by decide +kernel
theorem dX10_toBring_26 : decode cX10_toBring 26 = .ok (.aload_n 0, 1) := by decide +kernel
theorem dX10_toBring_27 : decode cX10_toBring 27 = .ok (.iload 4, 2) := by decide +kernel
theorem dX10_toBring_29 : decode cX10_toBring 29 = .ok (.invokevirtual 478, 3) := by decide +kernel
theorem dX10_toBring_32 : decode cX10_toBring 32 = .ok (.istore 5, 2) := by decide +kernel
theorem dX10_toBring_34 : decode cX10_toBring 34 = .ok (.iconst 2, 1) := by decide +kernel
theorem dX10_toBring_35 : decode cX10_toBring 35 = .ok (.iload 5, 2) := by decide +kernel
theorem dX10_toBring_37 : decode cX10_toBring 37 = .ok (.imul, 1) := by decide +kernel
theorem dX10_toBring_38 : decode cX10_toBring 38 = .ok (.iload_n 1, 1) := by decide +kernel
theorem dX10_toBring_39 : decode cX10_toBring 39 = .ok (.if_icmp .le 12, 3) := by decide +kernel
theorem dX10_toBring_42 : decode cX10_toBring 42 = .ok (.iconst 2, 1) := by decide +kernel
theorem dX10_toBring_43 : decode cX10_toBring 43 = .ok (.iload 5, 2) := by decide +kernel
theorem dX10_toBring_45 : decode cX10_toBring 45 = .ok (.imul, 1) := by decide +kernel
theorem dX10_toBring_46 : decode cX10_toBring 46 = .ok (.iload_n 1, 1) := by decide +kernel
theorem dX10_toBring_47 : decode cX10_toBring 47 = .ok (.isub, 1) := by decide +kernel
theorem dX10_toBring_48 : decode cX10_toBring 48 = .ok (.goto 9, 3) := by decide +kernel
theorem dX10_toBring_51 : decode cX10_toBring 51 = .ok (.iload_n 1, 1) := by decide +kernel
theorem dX10_toBring_52 : decode cX10_toBring 52 = .ok (.iconst 2, 1) := by decide +kernel
theorem dX10_toBring_53 : decode cX10_toBring 53 = .ok (.iload 5, 2) := by decide +kernel
theorem dX10_toBring_55 : decode cX10_toBring 55 = .ok (.imul, 1) := by decide +kernel
theorem dX10_toBring_56 : decode cX10_toBring 56 = .ok (.isub, 1) := by decide +kernel
theorem dX10_toBring_57 : decode cX10_toBring 57 = .ok (.istore 6, 2) := by decide +kernel
theorem dX10_toBring_59 : decode cX10_toBring 59 = .ok (.iload 5, 2) := by decide +kernel
theorem dX10_toBring_61 : decode cX10_toBring 61 = .ok (.ifCond .eq 24, 3) := by decide +kernel
theorem dX10_toBring_64 : decode cX10_toBring 64 = .ok (.iload 5, 2) := by decide +kernel
theorem dX10_toBring_66 : decode cX10_toBring 66 = .ok (.iload_n 1, 1) := by decide +kernel
theorem dX10_toBring_67 : decode cX10_toBring 67 = .ok (.if_icmp .eq 18, 3) := by decide +kernel
theorem dX10_toBring_70 : decode cX10_toBring 70 = .ok (.iload 6, 2) := by decide +kernel
theorem dX10_toBring_72 : decode cX10_toBring 72 = .ok (.iload_n 3, 1) := by decide +kernel
theorem dX10_toBring_73 : decode cX10_toBring 73 = .ok (.if_icmp .lt 6, 3) := by decide +kernel
theorem dX10_toBring_76 : decode cX10_toBring 76 = .ok (.goto 9, 3) := by decide +kernel
theorem dX10_toBring_79 : decode cX10_toBring 79 = .ok (.iload 6, 2) := by decide +kernel
theorem dX10_toBring_81 : decode cX10_toBring 81 = .ok (.istore_n 3, 1) := by decide +kernel
theorem dX10_toBring_82 : decode cX10_toBring 82 = .ok (.iload 4, 2) := by decide +kernel
theorem dX10_toBring_84 : decode cX10_toBring 84 = .ok (.istore_n 2, 1) := by decide +kernel
theorem dX10_toBring_85 : decode cX10_toBring 85 = .ok (.iinc 4 1, 3) := by decide +kernel
theorem dX10_toBring_88 : decode cX10_toBring 88 = .ok (.goto (-73), 3) := by decide +kernel
theorem dX10_toBring_91 : decode cX10_toBring 91 = .ok (.iload_n 2, 1) := by decide +kernel
theorem dX10_toBring_92 : decode cX10_toBring 92 = .ok (.ireturn, 1) := by decide +kernel
theorem dX10_counsel_0 : decode cX10_counsel 0 = .ok (.iload_n 1, 1) := by decide +kernel
theorem dX10_counsel_1 : decode cX10_counsel 1 = .ok (.iconst (-1), 1) := by decide +kernel
theorem dX10_counsel_2 : decode cX10_counsel 2 = .ok (.if_icmp .ne 13, 3) := by decide +kernel
theorem dX10_counsel_5 : decode cX10_counsel 5 = .ok (.aload_n 0, 1) := by decide +kernel
theorem dX10_counsel_6 : decode cX10_counsel 6 = .ok (.getfield 7, 3) := by decide +kernel
theorem dX10_counsel_9 : decode cX10_counsel 9 = .ok (.bipush 6, 2) := by decide +kernel
theorem dX10_counsel_11 : decode cX10_counsel 11 = .ok (.iconst 0, 1) := by decide +kernel
theorem dX10_counsel_12 : decode cX10_counsel 12 = .ok (.iastore, 1) := by decide +kernel
theorem dX10_counsel_13 : decode cX10_counsel 13 = .ok (.iconst 0, 1) := by decide +kernel
theorem dX10_counsel_14 : decode cX10_counsel 14 = .ok (.ireturn, 1) := by decide +kernel
theorem dX10_counsel_15 : decode cX10_counsel 15 = .ok (.iload_n 1, 1) := by decide +kernel
theorem dX10_counsel_16 : decode cX10_counsel 16 = .ok (.iconst 1, 1) := by decide +kernel
theorem dX10_counsel_17 : decode cX10_counsel 17 = .ok (.sipush 999, 3) := by decide +kernel
theorem dX10_counsel_20 : decode cX10_counsel 20 = .ok (.invokestatic 74, 3) := by decide +kernel
theorem dX10_counsel_23 : decode cX10_counsel 23 = .ok (.ifCond .eq 25, 3) := by decide +kernel
theorem dX10_counsel_26 : decode cX10_counsel 26 = .ok (.iload_n 2, 1) := by decide +kernel
theorem dX10_counsel_27 : decode cX10_counsel 27 = .ok (.iconst 0, 1) := by decide +kernel
theorem dX10_counsel_28 : decode cX10_counsel 28 = .ok (.bipush 99, 2) := by decide +kernel
theorem dX10_counsel_30 : decode cX10_counsel 30 = .ok (.invokestatic 74, 3) := by decide +kernel
theorem dX10_counsel_33 : decode cX10_counsel 33 = .ok (.ifCond .eq 15, 3) := by decide +kernel
theorem dX10_counsel_36 : decode cX10_counsel 36 = .ok (.aload_n 0, 1) := by decide +kernel
theorem dX10_counsel_37 : decode cX10_counsel 37 = .ok (.getfield 7, 3) := by decide +kernel
theorem dX10_counsel_40 : decode cX10_counsel 40 = .ok (.bipush 6, 2) := by decide +kernel
theorem dX10_counsel_42 : decode cX10_counsel 42 = .ok (.iaload, 1) := by decide +kernel
theorem dX10_counsel_43 : decode cX10_counsel 43 = .ok (.bipush 8, 2) := by decide +kernel
theorem dX10_counsel_45 : decode cX10_counsel 45 = .ok (.if_icmp .ne 6, 3) := by decide +kernel
theorem dX10_counsel_48 : decode cX10_counsel 48 = .ok (.bipush (-2), 2) := by decide +kernel
theorem dX10_counsel_50 : decode cX10_counsel 50 = .ok (.ireturn, 1) := by decide +kernel
theorem dX10_counsel_51 : decode cX10_counsel 51 = .ok (.aload_n 0, 1) := by decide +kernel
theorem dX10_counsel_52 : decode cX10_counsel 52 = .ok (.getfield 7, 3) := by decide +kernel
theorem dX10_counsel_55 : decode cX10_counsel 55 = .ok (.bipush 116, 2) := by decide +kernel
theorem dX10_counsel_57 : decode cX10_counsel 57 = .ok (.iconst 2, 1) := by decide +kernel
theorem dX10_counsel_58 : decode cX10_counsel 58 = .ok (.aload_n 0, 1) := by decide +kernel
theorem dX10_counsel_59 : decode cX10_counsel 59 = .ok (.getfield 7, 3) := by decide +kernel
theorem dX10_counsel_62 : decode cX10_counsel 62 = .ok (.bipush 6, 2) := by decide +kernel
theorem dX10_counsel_64 : decode cX10_counsel 64 = .ok (.iaload, 1) := by decide +kernel
theorem dX10_counsel_65 : decode cX10_counsel 65 = .ok (.imul, 1) := by decide +kernel
theorem dX10_counsel_66 : decode cX10_counsel 66 = .ok (.iadd, 1) := by decide +kernel
theorem dX10_counsel_67 : decode cX10_counsel 67 = .ok (.iload_n 1, 1) := by decide +kernel
theorem dX10_counsel_68 : decode cX10_counsel 68 = .ok (.iastore, 1) := by decide +kernel
theorem dX10_counsel_69 : decode cX10_counsel 69 = .ok (.aload_n 0, 1) := by decide +kernel
theorem dX10_counsel_70 : decode cX10_counsel 70 = .ok (.getfield 7, 3) := by decide +kernel
theorem dX10_counsel_73 : decode cX10_counsel 73 = .ok (.bipush 116, 2) := by decide +kernel
theorem dX10_counsel_75 : decode cX10_counsel 75 = .ok (.iconst 2, 1) := by decide +kernel
theorem dX10_counsel_76 : decode cX10_counsel 76 = .ok (.aload_n 0, 1) := by decide +kernel
theorem dX10_counsel_77 : decode cX10_counsel 77 = .ok (.getfield 7, 3) := by decide +kernel
theorem dX10_counsel_80 : decode cX10_counsel 80 = .ok (.bipush 6, 2) := by decide +kernel
theorem dX10_counsel_82 : decode cX10_counsel 82 = .ok (.iaload, 1) := by decide +kernel
theorem dX10_counsel_83 : decode cX10_counsel 83 = .ok (.imul, 1) := by decide +kernel
theorem dX10_counsel_84 : decode cX10_counsel 84 = .ok (.iadd, 1) := by decide +kernel
theorem dX10_counsel_85 : decode cX10_counsel 85 = .ok (.iconst 1, 1) := by decide +kernel
theorem dX10_counsel_86 : decode cX10_counsel 86 = .ok (.iadd, 1) := by decide +kernel
theorem dX10_counsel_87 : decode cX10_counsel 87 = .ok (.iload_n 2, 1) := by decide +kernel
theorem dX10_counsel_88 : decode cX10_counsel 88 = .ok (.iastore, 1) := by decide +kernel
theorem dX10_counsel_89 : decode cX10_counsel 89 = .ok (.aload_n 0, 1) := by decide +kernel
theorem dX10_counsel_90 : decode cX10_counsel 90 = .ok (.getfield 7, 3) := by decide +kernel
theorem dX10_counsel_93 : decode cX10_counsel 93 = .ok (.bipush 6, 2) := by decide +kernel
theorem dX10_counsel_95 : decode cX10_counsel 95 = .ok (.dup2, 1) := by decide +kernel
theorem dX10_counsel_96 : decode cX10_counsel 96 = .ok (.iaload, 1) := by decide +kernel
theorem dX10_counsel_97 : decode cX10_counsel 97 = .ok (.iconst 1, 1) := by decide +kernel
theorem dX10_counsel_98 : decode cX10_counsel 98 = .ok (.iadd, 1) := by decide +kernel
theorem dX10_counsel_99 : decode cX10_counsel 99 = .ok (.iastore, 1) := by decide +kernel
theorem dX10_counsel_100 : decode cX10_counsel 100 = .ok (.aload_n 0, 1) := by decide +kernel
theorem dX10_counsel_101 : decode cX10_counsel 101 = .ok (.getfield 7, 3) := by decide +kernel
theorem dX10_counsel_104 : decode cX10_counsel 104 = .ok (.bipush 6, 2) := by decide +kernel
theorem dX10_counsel_106 : decode cX10_counsel 106 = .ok (.iaload, 1) := by decide +kernel
theorem dX10_counsel_107 : decode cX10_counsel 107 = .ok (.ireturn, 1) := by decide +kernel
theorem dX10_together_0 : decode cX10_together 0 = .ok (.iconst 0, 1) := by decide +kernel
theorem dX10_together_1 : decode cX10_together 1 = .ok (.istore_n 3, 1) := by decide +kernel
theorem dX10_together_2 : decode cX10_together 2 = .ok (.iconst 0, 1) := by decide +kernel
theorem dX10_together_3 : decode cX10_together 3 = .ok (.istore 4, 2) := by decide +kernel
theorem dX10_together_5 : decode cX10_together 5 = .ok (.iload 4, 2) := by decide +kernel
theorem dX10_together_7 : decode cX10_together 7 = .ok (.aload_n 0, 1) := by decide +kernel
theorem dX10_together_8 : decode cX10_together 8 = .ok (.getfield 7, 3) := by decide +kernel
theorem dX10_together_11 : decode cX10_together 11 = .ok (.bipush 6, 2) := by decide +kernel
theorem dX10_together_13 : decode cX10_together 13 = .ok (.iaload, 1) := by decide +kernel
theorem dX10_together_14 : decode cX10_together 14 = .ok (.if_icmp .ge 39, 3) := by decide +kernel
theorem dX10_together_17 : decode cX10_together 17 = .ok (.iload_n 3, 1) := by decide +kernel
theorem dX10_together_18 : decode cX10_together 18 = .ok (.iload_n 1, 1) := by decide +kernel
theorem dX10_together_19 : decode cX10_together 19 = .ok (.iload 4, 2) := by decide +kernel
theorem dX10_together_21 : decode cX10_together 21 = .ok (.invokestatic 255, 3) := by decide +kernel
theorem dX10_together_24 : decode cX10_together 24 = .ok (.ifCond .eq 20, 3) := by decide +kernel
theorem dX10_together_27 : decode cX10_together 27 = .ok (.aload_n 0, 1) := by decide +kernel
theorem dX10_together_28 : decode cX10_together 28 = .ok (.getfield 7, 3) := by decide +kernel
theorem dX10_together_31 : decode cX10_together 31 = .ok (.bipush 116, 2) := by decide +kernel
theorem dX10_together_33 : decode cX10_together 33 = .ok (.iconst 2, 1) := by decide +kernel
theorem dX10_together_34 : decode cX10_together 34 = .ok (.iload 4, 2) := by decide +kernel
theorem dX10_together_36 : decode cX10_together 36 = .ok (.imul, 1) := by decide +kernel
theorem dX10_together_37 : decode cX10_together 37 = .ok (.iadd, 1) := by decide +kernel
theorem dX10_together_38 : decode cX10_together 38 = .ok (.iload_n 2, 1) := by decide +kernel
theorem dX10_together_39 : decode cX10_together 39 = .ok (.iadd, 1) := by decide +kernel
theorem dX10_together_40 : decode cX10_together 40 = .ok (.iaload, 1) := by decide +kernel
theorem dX10_together_41 : decode cX10_together 41 = .ok (.goto 4, 3) := by decide +kernel
theorem dX10_together_44 : decode cX10_together 44 = .ok (.iconst 0, 1) := by decide +kernel
theorem dX10_together_45 : decode cX10_together 45 = .ok (.iadd, 1) := by decide +kernel
theorem dX10_together_46 : decode cX10_together 46 = .ok (.istore_n 3, 1) := by decide +kernel
theorem dX10_together_47 : decode cX10_together 47 = .ok (.iinc 4 1, 3) := by decide +kernel
theorem dX10_together_50 : decode cX10_together 50 = .ok (.goto (-45), 3) := by decide +kernel
theorem dX10_together_53 : decode cX10_together 53 = .ok (.iload_n 3, 1) := by decide +kernel
theorem dX10_together_54 : decode cX10_together 54 = .ok (.ireturn, 1) := by decide +kernel
theorem dX10_hired_0 : decode cX10_hired 0 = .ok (.iload_n 1, 1) := by decide +kernel
theorem dX10_hired_1 : decode cX10_hired 1 = .ok (.iconst 0, 1) := by decide +kernel
theorem dX10_hired_2 : decode cX10_hired 2 = .ok (.sipush 9999, 3) := by decide +kernel
theorem dX10_hired_5 : decode cX10_hired 5 = .ok (.invokestatic 74, 3) := by decide +kernel
theorem dX10_hired_8 : decode cX10_hired 8 = .ok (.ifCond .ne 5, 3) := by decide +kernel
theorem dX10_hired_11 : decode cX10_hired 11 = .ok (.iconst (-1), 1) := by decide +kernel
theorem dX10_hired_12 : decode cX10_hired 12 = .ok (.ireturn, 1) := by decide +kernel
theorem dX10_hired_13 : decode cX10_hired 13 = .ok (.iconst 0, 1) := by decide +kernel
theorem dX10_hired_14 : decode cX10_hired 14 = .ok (.istore_n 3, 1) := by decide +kernel
theorem dX10_hired_15 : decode cX10_hired 15 = .ok (.iconst 1, 1) := by decide +kernel
theorem dX10_hired_16 : decode cX10_hired 16 = .ok (.istore 4, 2) := by decide +kernel
theorem dX10_hired_18 : decode cX10_hired 18 = .ok (.iload 4, 2) := by decide +kernel
theorem dX10_hired_20 : decode cX10_hired 20 = .ok (.iconst 1, 1) := by decide +kernel
theorem dX10_hired_21 : decode cX10_hired 21 = .ok (.aload_n 0, 1) := by decide +kernel
theorem dX10_hired_22 : decode cX10_hired 22 = .ok (.getfield 7, 3) := by decide +kernel
theorem dX10_hired_25 : decode cX10_hired 25 = .ok (.bipush 6, 2) := by decide +kernel
theorem dX10_hired_27 : decode cX10_hired 27 = .ok (.iaload, 1) := by decide +kernel
theorem dX10_hired_28 : decode cX10_hired 28 = .ok (.ishl, 1) := by decide +kernel
theorem dX10_hired_29 : decode cX10_hired 29 = .ok (.if_icmp .ge 68, 3) := by decide +kernel
theorem dX10_hired_32 : decode cX10_hired 32 = .ok (.aload_n 0, 1) := by decide +kernel
theorem dX10_hired_33 : decode cX10_hired 33 = .ok (.iload 4, 2) := by decide +kernel
theorem dX10_hired_35 : decode cX10_hired 35 = .ok (.iconst 0, 1) := by decide +kernel
theorem dX10_hired_36 : decode cX10_hired 36 = .ok (.invokevirtual 481, 3) := by decide +kernel
theorem dX10_hired_39 : decode cX10_hired 39 = .ok (.iload_n 1, 1) := by decide +kernel
theorem dX10_hired_40 : decode cX10_hired 40 = .ok (.if_icmp .le 6, 3) := by decide +kernel
theorem dX10_hired_43 : decode cX10_hired 43 = .ok (.goto 48, 3) := by decide +kernel
theorem dX10_hired_46 : decode cX10_hired 46 = .ok (.aload_n 0, 1) := by decide +kernel
theorem dX10_hired_47 : decode cX10_hired 47 = .ok (.iload 4, 2) := by decide +kernel
theorem dX10_hired_49 : decode cX10_hired 49 = .ok (.iconst 1, 1) := by decide +kernel
theorem dX10_hired_50 : decode cX10_hired 50 = .ok (.invokevirtual 481, 3) := by decide +kernel
theorem dX10_hired_53 : decode cX10_hired 53 = .ok (.aload_n 0, 1) := by decide +kernel
theorem dX10_hired_54 : decode cX10_hired 54 = .ok (.iload_n 3, 1) := by decide +kernel
theorem dX10_hired_55 : decode cX10_hired 55 = .ok (.iconst 1, 1) := by decide +kernel
theorem dX10_hired_56 : decode cX10_hired 56 = .ok (.invokevirtual 481, 3) := by decide +kernel
theorem dX10_hired_59 : decode cX10_hired 59 = .ok (.isub, 1) := by decide +kernel
theorem dX10_hired_60 : decode cX10_hired 60 = .ok (.istore 5, 2) := by decide +kernel
theorem dX10_hired_62 : decode cX10_hired 62 = .ok (.iload 5, 2) := by decide +kernel
theorem dX10_hired_64 : decode cX10_hired 64 = .ok (.ifCond .gt 24, 3) := by decide +kernel
theorem dX10_hired_67 : decode cX10_hired 67 = .ok (.iload 5, 2) := by decide +kernel
theorem dX10_hired_69 : decode cX10_hired 69 = .ok (.ifCond .ne 22, 3) := by decide +kernel
theorem dX10_hired_72 : decode cX10_hired 72 = .ok (.aload_n 0, 1) := by decide +kernel
theorem dX10_hired_73 : decode cX10_hired 73 = .ok (.iload 4, 2) := by decide +kernel
theorem dX10_hired_75 : decode cX10_hired 75 = .ok (.iconst 0, 1) := by decide +kernel
theorem dX10_hired_76 : decode cX10_hired 76 = .ok (.invokevirtual 481, 3) := by decide +kernel
theorem dX10_hired_79 : decode cX10_hired 79 = .ok (.aload_n 0, 1) := by decide +kernel
theorem dX10_hired_80 : decode cX10_hired 80 = .ok (.iload_n 3, 1) := by decide +kernel
theorem dX10_hired_81 : decode cX10_hired 81 = .ok (.iconst 0, 1) := by decide +kernel
theorem dX10_hired_82 : decode cX10_hired 82 = .ok (.invokevirtual 481, 3) := by decide +kernel
theorem dX10_hired_85 : decode cX10_hired 85 = .ok (.if_icmp .ge 6, 3) := by decide +kernel
theorem dX10_hired_88 : decode cX10_hired 88 = .ok (.iload 4, 2) := by decide +kernel
theorem dX10_hired_90 : decode cX10_hired 90 = .ok (.istore_n 3, 1) := by decide +kernel
theorem dX10_hired_91 : decode cX10_hired 91 = .ok (.iinc 4 1, 3) := by decide +kernel
theorem dX10_hired_94 : decode cX10_hired 94 = .ok (.goto (-76), 3) := by decide +kernel
theorem dX10_hired_97 : decode cX10_hired 97 = .ok (.iload_n 2, 1) := by decide +kernel
theorem dX10_hired_98 : decode cX10_hired 98 = .ok (.ifCond .eq 7, 3) := by decide +kernel
theorem dX10_hired_101 : decode cX10_hired 101 = .ok (.iload_n 3, 1) := by decide +kernel
theorem dX10_hired_102 : decode cX10_hired 102 = .ok (.goto 9, 3) := by decide +kernel
theorem dX10_hired_105 : decode cX10_hired 105 = .ok (.aload_n 0, 1) := by decide +kernel
theorem dX10_hired_106 : decode cX10_hired 106 = .ok (.iload_n 3, 1) := by decide +kernel
theorem dX10_hired_107 : decode cX10_hired 107 = .ok (.iconst 1, 1) := by decide +kernel
theorem dX10_hired_108 : decode cX10_hired 108 = .ok (.invokevirtual 481, 3) := by decide +kernel
theorem dX10_hired_111 : decode cX10_hired 111 = .ok (.ireturn, 1) := by decide +kernel
theorem dX10_calm_0 : decode cX10_calm 0 = .ok (.iload_n 1, 1) := by decide +kernel
theorem dX10_calm_1 : decode cX10_calm 1 = .ok (.iconst 1, 1) := by decide +kernel
theorem dX10_calm_2 : decode cX10_calm 2 = .ok (.bipush 60, 2) := by decide +kernel
theorem dX10_calm_4 : decode cX10_calm 4 = .ok (.invokestatic 74, 3) := by decide +kernel
theorem dX10_calm_7 : decode cX10_calm 7 = .ok (.ifCond .ne 5, 3) := by decide +kernel
theorem dX10_calm_10 : decode cX10_calm 10 = .ok (.iconst (-1), 1) := by decide +kernel
theorem dX10_calm_11 : decode cX10_calm 11 = .ok (.ireturn, 1) := by decide +kernel
theorem dX10_calm_12 : decode cX10_calm 12 = .ok (.aload_n 0, 1) := by decide +kernel
theorem dX10_calm_13 : decode cX10_calm 13 = .ok (.iload_n 1, 1) := by decide +kernel
theorem dX10_calm_14 : decode cX10_calm 14 = .ok (.invokevirtual 437, 3) := by decide +kernel
theorem dX10_calm_17 : decode cX10_calm 17 = .ok (.pop, 1) := by decide +kernel
theorem dX10_calm_18 : decode cX10_calm 18 = .ok (.iload_n 1, 1) := by decide +kernel
theorem dX10_calm_19 : decode cX10_calm 19 = .ok (.sipush 9999, 3) := by decide +kernel
theorem dX10_calm_22 : decode cX10_calm 22 = .ok (.aload_n 0, 1) := by decide +kernel
theorem dX10_calm_23 : decode cX10_calm 23 = .ok (.getfield 7, 3) := by decide +kernel
theorem dX10_calm_26 : decode cX10_calm 26 = .ok (.bipush 11, 2) := by decide +kernel
theorem dX10_calm_28 : decode cX10_calm 28 = .ok (.iaload, 1) := by decide +kernel
theorem dX10_calm_29 : decode cX10_calm 29 = .ok (.isub, 1) := by decide +kernel
theorem dX10_calm_30 : decode cX10_calm 30 = .ok (.if_icmp .ge 7, 3) := by decide +kernel
theorem dX10_calm_33 : decode cX10_calm 33 = .ok (.iload_n 1, 1) := by decide +kernel
theorem dX10_calm_34 : decode cX10_calm 34 = .ok (.goto 14, 3) := by decide +kernel
theorem dX10_calm_37 : decode cX10_calm 37 = .ok (.sipush 9999, 3) := by decide +kernel
theorem dX10_calm_40 : decode cX10_calm 40 = .ok (.aload_n 0, 1) := by decide +kernel
theorem dX10_calm_41 : decode cX10_calm 41 = .ok (.getfield 7, 3) := by decide +kernel
theorem dX10_calm_44 : decode cX10_calm 44 = .ok (.bipush 11, 2) := by decide +kernel
theorem dX10_calm_46 : decode cX10_calm 46 = .ok (.iaload, 1) := by decide +kernel
theorem dX10_calm_47 : decode cX10_calm 47 = .ok (.isub, 1) := by decide +kernel
theorem dX10_calm_48 : decode cX10_calm 48 = .ok (.istore_n 2, 1) := by decide +kernel
theorem dX10_calm_49 : decode cX10_calm 49 = .ok (.iconst 0, 1) := by decide +kernel
theorem dX10_calm_50 : decode cX10_calm 50 = .ok (.istore_n 3, 1) := by decide +kernel
theorem dX10_calm_51 : decode cX10_calm 51 = .ok (.iconst 0, 1) := by decide +kernel
theorem dX10_calm_52 : decode cX10_calm 52 = .ok (.istore 4, 2) := by decide +kernel
theorem dX10_calm_54 : decode cX10_calm 54 = .ok (.iconst 0, 1) := by decide +kernel
theorem dX10_calm_55 : decode cX10_calm 55 = .ok (.istore 5, 2) := by decide +kernel
theorem dX10_calm_57 : decode cX10_calm 57 = .ok (.iload 5, 2) := by decide +kernel
theorem dX10_calm_59 : decode cX10_calm 59 = .ok (.iload_n 2, 1) := by decide +kernel
theorem dX10_calm_60 : decode cX10_calm 60 = .ok (.if_icmp .ge 53, 3) := by decide +kernel
theorem dX10_calm_63 : decode cX10_calm 63 = .ok (.aload_n 0, 1) := by decide +kernel
theorem dX10_calm_64 : decode cX10_calm 64 = .ok (.getfield 49, 3) := by decide +kernel
theorem dX10_calm_67 : decode cX10_calm 67 = .ok (.iload 5, 2) := by decide +kernel
theorem dX10_calm_69 : decode cX10_calm 69 = .ok (.iaload, 1) := by decide +kernel
theorem dX10_calm_70 : decode cX10_calm 70 = .ok (.ifCond .eq 14, 3) := by decide +kernel
theorem dX10_calm_73 : decode cX10_calm 73 = .ok (.aload_n 0, 1) := by decide +kernel
theorem dX10_calm_74 : decode cX10_calm 74 = .ok (.getfield 52, 3) := by decide +kernel
theorem dX10_calm_77 : decode cX10_calm 77 = .ok (.iload 5, 2) := by decide +kernel
theorem dX10_calm_79 : decode cX10_calm 79 = .ok (.iaload, 1) := by decide +kernel
theorem dX10_calm_80 : decode cX10_calm 80 = .ok (.iconst 1, 1) := by decide +kernel
theorem dX10_calm_81 : decode cX10_calm 81 = .ok (.if_icmp .ne 10, 3) := by decide +kernel
theorem dX10_calm_84 : decode cX10_calm 84 = .ok (.iload 4, 2) := by decide +kernel
theorem dX10_calm_86 : decode cX10_calm 86 = .ok (.iconst 1, 1) := by decide +kernel
theorem dX10_calm_87 : decode cX10_calm 87 = .ok (.iadd, 1) := by decide +kernel
theorem dX10_calm_88 : decode cX10_calm 88 = .ok (.goto 4, 3) := by decide +kernel
theorem dX10_calm_91 : decode cX10_calm 91 = .ok (.iconst 0, 1) := by decide +kernel
theorem dX10_calm_92 : decode cX10_calm 92 = .ok (.istore 4, 2) := by decide +kernel
theorem dX10_calm_94 : decode cX10_calm 94 = .ok (.iload 4, 2) := by decide +kernel
theorem dX10_calm_96 : decode cX10_calm 96 = .ok (.iload_n 3, 1) := by decide +kernel
theorem dX10_calm_97 : decode cX10_calm 97 = .ok (.if_icmp .le 8, 3) := by decide +kernel
theorem dX10_calm_100 : decode cX10_calm 100 = .ok (.iload 4, 2) := by decide +kernel
theorem dX10_calm_102 : decode cX10_calm 102 = .ok (.goto 4, 3) := by decide +kernel
theorem dX10_calm_105 : decode cX10_calm 105 = .ok (.iload_n 3, 1) := by decide +kernel
theorem dX10_calm_106 : decode cX10_calm 106 = .ok (.istore_n 3, 1) := by decide +kernel
theorem dX10_calm_107 : decode cX10_calm 107 = .ok (.iinc 5 1, 3) := by decide +kernel
theorem dX10_calm_110 : decode cX10_calm 110 = .ok (.goto (-53), 3) := by decide +kernel
theorem dX10_calm_113 : decode cX10_calm 113 = .ok (.iload_n 3, 1) := by decide +kernel
theorem dX10_calm_114 : decode cX10_calm 114 = .ok (.ireturn, 1) := by decide +kernel
theorem dX10_standing_0 : decode cX10_standing 0 = .ok (.iload_n 1, 1) := by decide +kernel
theorem dX10_standing_1 : decode cX10_standing 1 = .ok (.iconst 1, 1) := by decide +kernel
theorem dX10_standing_2 : decode cX10_standing 2 = .ok (.bipush 60, 2) := by decide +kernel
theorem dX10_standing_4 : decode cX10_standing 4 = .ok (.invokestatic 74, 3) := by decide +kernel
theorem dX10_standing_7 : decode cX10_standing 7 = .ok (.ifCond .eq 12, 3) := by decide +kernel
theorem dX10_standing_10 : decode cX10_standing 10 = .ok (.iload_n 2, 1) := by decide +kernel
theorem dX10_standing_11 : decode cX10_standing 11 = .ok (.iconst 0, 1) := by decide +kernel
theorem dX10_standing_12 : decode cX10_standing 12 = .ok (.iconst 3, 1) := by decide +kernel
theorem dX10_standing_13 : decode cX10_standing 13 = .ok (.invokestatic 74, 3) := by decide +kernel
theorem dX10_standing_16 : decode cX10_standing 16 = .ok (.ifCond .ne 5, 3) := by decide +kernel
theorem dX10_standing_19 : decode cX10_standing 19 = .ok (.iconst (-1), 1) := by decide +kernel
theorem dX10_standing_20 : decode cX10_standing 20 = .ok (.ireturn, 1) := by decide +kernel
theorem dX10_standing_21 : decode cX10_standing 21 = .ok (.aload_n 0, 1) := by decide +kernel
theorem dX10_standing_22 : decode cX10_standing 22 = .ok (.iload_n 1, 1) := by decide +kernel
theorem dX10_standing_23 : decode cX10_standing 23 = .ok (.invokevirtual 437, 3) := by decide +kernel
theorem dX10_standing_26 : decode cX10_standing 26 = .ok (.pop, 1) := by decide +kernel
theorem dX10_standing_27 : decode cX10_standing 27 = .ok (.iload_n 1, 1) := by decide +kernel
theorem dX10_standing_28 : decode cX10_standing 28 = .ok (.sipush 9999, 3) := by decide +kernel
theorem dX10_standing_31 : decode cX10_standing 31 = .ok (.aload_n 0, 1) := by decide +kernel
theorem dX10_standing_32 : decode cX10_standing 32 = .ok (.getfield 7, 3) := by decide +kernel
theorem dX10_standing_35 : decode cX10_standing 35 = .ok (.bipush 11, 2) := by decide +kernel
theorem dX10_standing_37 : decode cX10_standing 37 = .ok (.iaload, 1) := by decide +kernel
theorem dX10_standing_38 : decode cX10_standing 38 = .ok (.isub, 1) := by decide +kernel
theorem dX10_standing_39 : decode cX10_standing 39 = .ok (.if_icmp .ge 7, 3) := by decide +kernel
theorem dX10_standing_42 : decode cX10_standing 42 = .ok (.iload_n 1, 1) := by decide +kernel
theorem dX10_standing_43 : decode cX10_standing 43 = .ok (.goto 14, 3) := by decide +kernel
theorem dX10_standing_46 : decode cX10_standing 46 = .ok (.sipush 9999, 3) := by decide +kernel
theorem dX10_standing_49 : decode cX10_standing 49 = .ok (.aload_n 0, 1) := by decide +kernel
theorem dX10_standing_50 : decode cX10_standing 50 = .ok (.getfield 7, 3) := by decide +kernel
theorem dX10_standing_53 : decode cX10_standing 53 = .ok (.bipush 11, 2) := by decide +kernel
theorem dX10_standing_55 : decode cX10_standing 55 = .ok (.iaload, 1) := by decide +kernel
theorem dX10_standing_56 : decode cX10_standing 56 = .ok (.isub, 1) := by decide +kernel
theorem dX10_standing_57 : decode cX10_standing 57 = .ok (.istore_n 3, 1) := by decide +kernel
theorem dX10_standing_58 : decode cX10_standing 58 = .ok (.iconst 0, 1) := by decide +kernel
theorem dX10_standing_59 : decode cX10_standing 59 = .ok (.istore 4, 2) := by decide +kernel
theorem dX10_standing_61 : decode cX10_standing 61 = .ok (.iconst 0, 1) := by decide +kernel
theorem dX10_standing_62 : decode cX10_standing 62 = .ok (.istore 5, 2) := by decide +kernel
theorem dX10_standing_64 : decode cX10_standing 64 = .ok (.iload 5, 2) := by decide +kernel
theorem dX10_standing_66 : decode cX10_standing 66 = .ok (.iload_n 3, 1) := by decide +kernel
theorem dX10_standing_67 : decode cX10_standing 67 = .ok (.if_icmp .ge 30, 3) := by decide +kernel
theorem dX10_standing_70 : decode cX10_standing 70 = .ok (.iload 4, 2) := by decide +kernel
theorem dX10_standing_72 : decode cX10_standing 72 = .ok (.aload_n 0, 1) := by decide +kernel
theorem dX10_standing_73 : decode cX10_standing 73 = .ok (.getfield 46, 3) := by decide +kernel
theorem dX10_standing_76 : decode cX10_standing 76 = .ok (.iload 5, 2) := by decide +kernel
theorem dX10_standing_78 : decode cX10_standing 78 = .ok (.iaload, 1) := by decide +kernel
theorem dX10_standing_79 : decode cX10_standing 79 = .ok (.iload_n 2, 1) := by decide +kernel
theorem dX10_standing_80 : decode cX10_standing 80 = .ok (.if_icmp .ne 7, 3) := by decide +kernel
theorem dX10_standing_83 : decode cX10_standing 83 = .ok (.iconst 1, 1) := by decide +kernel
theorem dX10_standing_84 : decode cX10_standing 84 = .ok (.goto 4, 3) := by decide +kernel
theorem dX10_standing_87 : decode cX10_standing 87 = .ok (.iconst 0, 1) := by decide +kernel
theorem dX10_standing_88 : decode cX10_standing 88 = .ok (.iadd, 1) := by decide +kernel
theorem dX10_standing_89 : decode cX10_standing 89 = .ok (.istore 4, 2) := by decide +kernel
theorem dX10_standing_91 : decode cX10_standing 91 = .ok (.iinc 5 1, 3) := by decide +kernel
theorem dX10_standing_94 : decode cX10_standing 94 = .ok (.goto (-30), 3) := by decide +kernel
theorem dX10_standing_97 : decode cX10_standing 97 = .ok (.iload 4, 2) := by decide +kernel
theorem dX10_standing_99 : decode cX10_standing 99 = .ok (.ireturn, 1) := by decide +kernel
theorem dX10_image_0 : decode cX10_image 0 = .ok (.aload_n 0, 1) := by decide +kernel
theorem dX10_image_1 : decode cX10_image 1 = .ok (.getfield 7, 3) := by decide +kernel
theorem dX10_image_4 : decode cX10_image 4 = .ok (.aload_n 0, 1) := by decide +kernel
theorem dX10_image_5 : decode cX10_image 5 = .ok (.getfield 13, 3) := by decide +kernel
theorem dX10_image_8 : decode cX10_image 8 = .ok (.invokestatic 70, 3) := by decide +kernel
theorem dX10_image_11 : decode cX10_image 11 = .ok (.aload_n 0, 1) := by decide +kernel
theorem dX10_image_12 : decode cX10_image 12 = .ok (.getfield 7, 3) := by decide +kernel
theorem dX10_image_15 : decode cX10_image 15 = .ok (.bipush 11, 2) := by decide +kernel
theorem dX10_image_17 : decode cX10_image 17 = .ok (.iaload, 1) := by decide +kernel
theorem dX10_image_18 : decode cX10_image 18 = .ok (.ireturn, 1) := by decide +kernel
theorem dX10_back_0 : decode cX10_back 0 = .ok (.aload_n 0, 1) := by decide +kernel
theorem dX10_back_1 : decode cX10_back 1 = .ok (.getfield 13, 3) := by decide +kernel
theorem dX10_back_4 : decode cX10_back 4 = .ok (.aload_n 0, 1) := by decide +kernel
theorem dX10_back_5 : decode cX10_back 5 = .ok (.getfield 7, 3) := by decide +kernel
theorem dX10_back_8 : decode cX10_back 8 = .ok (.invokestatic 70, 3) := by decide +kernel
theorem dX10_back_11 : decode cX10_back 11 = .ok (.aload_n 0, 1) := by decide +kernel
theorem dX10_back_12 : decode cX10_back 12 = .ok (.getfield 7, 3) := by decide +kernel
theorem dX10_back_15 : decode cX10_back 15 = .ok (.bipush 11, 2) := by decide +kernel
theorem dX10_back_17 : decode cX10_back 17 = .ok (.iaload, 1) := by decide +kernel
theorem dX10_back_18 : decode cX10_back 18 = .ok (.ireturn, 1) := by decide +kernel
theorem dX10_about_0 : decode cX10_about 0 = .ok (.iload_n 1, 1) := by decide +kernel
theorem dX10_about_1 : decode cX10_about 1 = .ok (.tableswitch 102 0 7 #[47, 54, 61, 68, 75, 82, 89, 97], 47) := by decide +kernel
theorem dX10_about_48 : decode cX10_about 48 = .ok (.aload_n 0, 1) := by decide +kernel
theorem dX10_about_49 : decode cX10_about 49 = .ok (.getfield 7, 3) := by decide +kernel
theorem dX10_about_52 : decode cX10_about 52 = .ok (.iconst 0, 1) := by decide +kernel
theorem dX10_about_53 : decode cX10_about 53 = .ok (.iaload, 1) := by decide +kernel
theorem dX10_about_54 : decode cX10_about 54 = .ok (.ireturn, 1) := by decide +kernel
theorem dX10_about_55 : decode cX10_about 55 = .ok (.aload_n 0, 1) := by decide +kernel
theorem dX10_about_56 : decode cX10_about 56 = .ok (.getfield 7, 3) := by decide +kernel
theorem dX10_about_59 : decode cX10_about 59 = .ok (.iconst 1, 1) := by decide +kernel
theorem dX10_about_60 : decode cX10_about 60 = .ok (.iaload, 1) := by decide +kernel
theorem dX10_about_61 : decode cX10_about 61 = .ok (.ireturn, 1) := by decide +kernel
theorem dX10_about_62 : decode cX10_about 62 = .ok (.aload_n 0, 1) := by decide +kernel
theorem dX10_about_63 : decode cX10_about 63 = .ok (.getfield 7, 3) := by decide +kernel
theorem dX10_about_66 : decode cX10_about 66 = .ok (.iconst 2, 1) := by decide +kernel
theorem dX10_about_67 : decode cX10_about 67 = .ok (.iaload, 1) := by decide +kernel
theorem dX10_about_68 : decode cX10_about 68 = .ok (.ireturn, 1) := by decide +kernel
theorem dX10_about_69 : decode cX10_about 69 = .ok (.aload_n 0, 1) := by decide +kernel
theorem dX10_about_70 : decode cX10_about 70 = .ok (.getfield 7, 3) := by decide +kernel
theorem dX10_about_73 : decode cX10_about 73 = .ok (.iconst 3, 1) := by decide +kernel
theorem dX10_about_74 : decode cX10_about 74 = .ok (.iaload, 1) := by decide +kernel
theorem dX10_about_75 : decode cX10_about 75 = .ok (.ireturn, 1) := by decide +kernel
theorem dX10_about_76 : decode cX10_about 76 = .ok (.aload_n 0, 1) := by decide +kernel
theorem dX10_about_77 : decode cX10_about 77 = .ok (.getfield 7, 3) := by decide +kernel
theorem dX10_about_80 : decode cX10_about 80 = .ok (.iconst 4, 1) := by decide +kernel
theorem dX10_about_81 : decode cX10_about 81 = .ok (.iaload, 1) := by decide +kernel
theorem dX10_about_82 : decode cX10_about 82 = .ok (.ireturn, 1) := by decide +kernel
theorem dX10_about_83 : decode cX10_about 83 = .ok (.aload_n 0, 1) := by decide +kernel
theorem dX10_about_84 : decode cX10_about 84 = .ok (.getfield 7, 3) := by decide +kernel
theorem dX10_about_87 : decode cX10_about 87 = .ok (.iconst 5, 1) := by decide +kernel
theorem dX10_about_88 : decode cX10_about 88 = .ok (.iaload, 1) := by decide +kernel
theorem dX10_about_89 : decode cX10_about 89 = .ok (.ireturn, 1) := by decide +kernel
theorem dX10_about_90 : decode cX10_about 90 = .ok (.aload_n 0, 1) := by decide +kernel
theorem dX10_about_91 : decode cX10_about 91 = .ok (.getfield 7, 3) := by decide +kernel
theorem dX10_about_94 : decode cX10_about 94 = .ok (.bipush 6, 2) := by decide +kernel
theorem dX10_about_96 : decode cX10_about 96 = .ok (.iaload, 1) := by decide +kernel
theorem dX10_about_97 : decode cX10_about 97 = .ok (.ireturn, 1) := by decide +kernel
theorem dX10_about_98 : decode cX10_about 98 = .ok (.aload_n 0, 1) := by decide +kernel
theorem dX10_about_99 : decode cX10_about 99 = .ok (.getfield 90, 3) := by decide +kernel
theorem dX10_about_102 : decode cX10_about 102 = .ok (.ireturn, 1) := by decide +kernel
theorem dX10_about_103 : decode cX10_about 103 = .ok (.bipush (-2), 2) := by decide +kernel
theorem dX10_about_105 : decode cX10_about 105 = .ok (.ireturn, 1) := by decide +kernel
theorem dJ6_bitCount_0f7a4_0 : decode cJ6_bitCount_0f7a4 0 = .ok (.iload_n 0, 1) := by decide +kernel
theorem dJ6_bitCount_0f7a4_1 : decode cJ6_bitCount_0f7a4 1 = .ok (.iload_n 0, 1) := by decide +kernel
theorem dJ6_bitCount_0f7a4_2 : decode cJ6_bitCount_0f7a4 2 = .ok (.iconst 1, 1) := by decide +kernel
theorem dJ6_bitCount_0f7a4_3 : decode cJ6_bitCount_0f7a4 3 = .ok (.iushr, 1) := by decide +kernel
theorem dJ6_bitCount_0f7a4_4 : decode cJ6_bitCount_0f7a4 4 = .ok (.ldc_w 265, 3) := by decide +kernel
theorem dJ6_bitCount_0f7a4_7 : decode cJ6_bitCount_0f7a4 7 = .ok (.iand, 1) := by decide +kernel
theorem dJ6_bitCount_0f7a4_8 : decode cJ6_bitCount_0f7a4 8 = .ok (.isub, 1) := by decide +kernel
theorem dJ6_bitCount_0f7a4_9 : decode cJ6_bitCount_0f7a4 9 = .ok (.istore_n 0, 1) := by decide +kernel
theorem dJ6_bitCount_0f7a4_10 : decode cJ6_bitCount_0f7a4 10 = .ok (.iload_n 0, 1) := by decide +kernel
theorem dJ6_bitCount_0f7a4_11 : decode cJ6_bitCount_0f7a4 11 = .ok (.ldc_w 266, 3) := by decide +kernel
theorem dJ6_bitCount_0f7a4_14 : decode cJ6_bitCount_0f7a4 14 = .ok (.iand, 1) := by decide +kernel
theorem dJ6_bitCount_0f7a4_15 : decode cJ6_bitCount_0f7a4 15 = .ok (.iload_n 0, 1) := by decide +kernel
theorem dJ6_bitCount_0f7a4_16 : decode cJ6_bitCount_0f7a4 16 = .ok (.iconst 2, 1) := by decide +kernel
theorem dJ6_bitCount_0f7a4_17 : decode cJ6_bitCount_0f7a4 17 = .ok (.iushr, 1) := by decide +kernel
theorem dJ6_bitCount_0f7a4_18 : decode cJ6_bitCount_0f7a4 18 = .ok (.ldc_w 266, 3) := by decide +kernel
theorem dJ6_bitCount_0f7a4_21 : decode cJ6_bitCount_0f7a4 21 = .ok (.iand, 1) := by decide +kernel
theorem dJ6_bitCount_0f7a4_22 : decode cJ6_bitCount_0f7a4 22 = .ok (.iadd, 1) := by decide +kernel
theorem dJ6_bitCount_0f7a4_23 : decode cJ6_bitCount_0f7a4 23 = .ok (.istore_n 0, 1) := by decide +kernel
theorem dJ6_bitCount_0f7a4_24 : decode cJ6_bitCount_0f7a4 24 = .ok (.iload_n 0, 1) := by decide +kernel
theorem dJ6_bitCount_0f7a4_25 : decode cJ6_bitCount_0f7a4 25 = .ok (.iload_n 0, 1) := by decide +kernel
theorem dJ6_bitCount_0f7a4_26 : decode cJ6_bitCount_0f7a4 26 = .ok (.iconst 4, 1) := by decide +kernel
theorem dJ6_bitCount_0f7a4_27 : decode cJ6_bitCount_0f7a4 27 = .ok (.iushr, 1) := by decide +kernel
theorem dJ6_bitCount_0f7a4_28 : decode cJ6_bitCount_0f7a4 28 = .ok (.iadd, 1) := by decide +kernel
theorem dJ6_bitCount_0f7a4_29 : decode cJ6_bitCount_0f7a4 29 = .ok (.ldc_w 267, 3) := by decide +kernel
theorem dJ6_bitCount_0f7a4_32 : decode cJ6_bitCount_0f7a4 32 = .ok (.iand, 1) := by decide +kernel
theorem dJ6_bitCount_0f7a4_33 : decode cJ6_bitCount_0f7a4 33 = .ok (.istore_n 0, 1) := by decide +kernel
theorem dJ6_bitCount_0f7a4_34 : decode cJ6_bitCount_0f7a4 34 = .ok (.iload_n 0, 1) := by decide +kernel
theorem dJ6_bitCount_0f7a4_35 : decode cJ6_bitCount_0f7a4 35 = .ok (.iload_n 0, 1) := by decide +kernel
theorem dJ6_bitCount_0f7a4_36 : decode cJ6_bitCount_0f7a4 36 = .ok (.bipush 8, 2) := by decide +kernel
theorem dJ6_bitCount_0f7a4_38 : decode cJ6_bitCount_0f7a4 38 = .ok (.iushr, 1) := by decide +kernel
theorem dJ6_bitCount_0f7a4_39 : decode cJ6_bitCount_0f7a4 39 = .ok (.iadd, 1) := by decide +kernel
theorem dJ6_bitCount_0f7a4_40 : decode cJ6_bitCount_0f7a4 40 = .ok (.istore_n 0, 1) := by decide +kernel
theorem dJ6_bitCount_0f7a4_41 : decode cJ6_bitCount_0f7a4 41 = .ok (.iload_n 0, 1) := by decide +kernel
theorem dJ6_bitCount_0f7a4_42 : decode cJ6_bitCount_0f7a4 42 = .ok (.iload_n 0, 1) := by decide +kernel
theorem dJ6_bitCount_0f7a4_43 : decode cJ6_bitCount_0f7a4 43 = .ok (.bipush 16, 2) := by decide +kernel
theorem dJ6_bitCount_0f7a4_45 : decode cJ6_bitCount_0f7a4 45 = .ok (.iushr, 1) := by decide +kernel
theorem dJ6_bitCount_0f7a4_46 : decode cJ6_bitCount_0f7a4 46 = .ok (.iadd, 1) := by decide +kernel
theorem dJ6_bitCount_0f7a4_47 : decode cJ6_bitCount_0f7a4 47 = .ok (.istore_n 0, 1) := by decide +kernel
theorem dJ6_bitCount_0f7a4_48 : decode cJ6_bitCount_0f7a4 48 = .ok (.iload_n 0, 1) := by decide +kernel
theorem dJ6_bitCount_0f7a4_49 : decode cJ6_bitCount_0f7a4 49 = .ok (.bipush 63, 2) := by decide +kernel
theorem dJ6_bitCount_0f7a4_51 : decode cJ6_bitCount_0f7a4 51 = .ok (.iand, 1) := by decide +kernel
theorem dJ6_bitCount_0f7a4_52 : decode cJ6_bitCount_0f7a4 52 = .ok (.ireturn, 1) := by decide +kernel
theorem dJ9_floorMod_7cf53_0 : decode cJ9_floorMod_7cf53 0 = .ok (.iload_n 0, 1) := by decide +kernel
theorem dJ9_floorMod_7cf53_1 : decode cJ9_floorMod_7cf53 1 = .ok (.iload_n 1, 1) := by decide +kernel
theorem dJ9_floorMod_7cf53_2 : decode cJ9_floorMod_7cf53 2 = .ok (.irem, 1) := by decide +kernel
theorem dJ9_floorMod_7cf53_3 : decode cJ9_floorMod_7cf53 3 = .ok (.istore_n 2, 1) := by decide +kernel
theorem dJ9_floorMod_7cf53_4 : decode cJ9_floorMod_7cf53 4 = .ok (.iload_n 0, 1) := by decide +kernel
theorem dJ9_floorMod_7cf53_5 : decode cJ9_floorMod_7cf53 5 = .ok (.iload_n 1, 1) := by decide +kernel
theorem dJ9_floorMod_7cf53_6 : decode cJ9_floorMod_7cf53 6 = .ok (.ixor, 1) := by decide +kernel
theorem dJ9_floorMod_7cf53_7 : decode cJ9_floorMod_7cf53 7 = .ok (.ifCond .ge 11, 3) := by decide +kernel
theorem dJ9_floorMod_7cf53_10 : decode cJ9_floorMod_7cf53 10 = .ok (.iload_n 2, 1) := by decide +kernel
theorem dJ9_floorMod_7cf53_11 : decode cJ9_floorMod_7cf53 11 = .ok (.ifCond .eq 7, 3) := by decide +kernel
theorem dJ9_floorMod_7cf53_14 : decode cJ9_floorMod_7cf53 14 = .ok (.iload_n 2, 1) := by decide +kernel
theorem dJ9_floorMod_7cf53_15 : decode cJ9_floorMod_7cf53 15 = .ok (.iload_n 1, 1) := by decide +kernel
theorem dJ9_floorMod_7cf53_16 : decode cJ9_floorMod_7cf53 16 = .ok (.iadd, 1) := by decide +kernel
theorem dJ9_floorMod_7cf53_17 : decode cJ9_floorMod_7cf53 17 = .ok (.ireturn, 1) := by decide +kernel
theorem dJ9_floorMod_7cf53_18 : decode cJ9_floorMod_7cf53 18 = .ok (.iload_n 2, 1) := by decide +kernel
theorem dJ9_floorMod_7cf53_19 : decode cJ9_floorMod_7cf53 19 = .ok (.ireturn, 1) := by decide +kernel
theorem dJ9_abs_0f7a4_0 : decode cJ9_abs_0f7a4 0 = .ok (.iload_n 0, 1) := by decide +kernel
theorem dJ9_abs_0f7a4_1 : decode cJ9_abs_0f7a4 1 = .ok (.ifCond .ge 8, 3) := by decide +kernel
theorem dJ9_abs_0f7a4_4 : decode cJ9_abs_0f7a4 4 = .ok (.iload_n 0, 1) := by decide +kernel
theorem dJ9_abs_0f7a4_5 : decode cJ9_abs_0f7a4 5 = .ok (.ineg, 1) := by decide +kernel
theorem dJ9_abs_0f7a4_6 : decode cJ9_abs_0f7a4 6 = .ok (.goto 4, 3) := by decide +kernel
theorem dJ9_abs_0f7a4_9 : decode cJ9_abs_0f7a4 9 = .ok (.iload_n 0, 1) := by decide +kernel
theorem dJ9_abs_0f7a4_10 : decode cJ9_abs_0f7a4 10 = .ok (.ireturn, 1) := by decide +kernel
theorem dJ9_max_7cf53_0 : decode cJ9_max_7cf53 0 = .ok (.iload_n 0, 1) := by decide +kernel
theorem dJ9_max_7cf53_1 : decode cJ9_max_7cf53 1 = .ok (.iload_n 1, 1) := by decide +kernel
theorem dJ9_max_7cf53_2 : decode cJ9_max_7cf53 2 = .ok (.if_icmp .lt 7, 3) := by decide +kernel
theorem dJ9_max_7cf53_5 : decode cJ9_max_7cf53 5 = .ok (.iload_n 0, 1) := by decide +kernel
theorem dJ9_max_7cf53_6 : decode cJ9_max_7cf53 6 = .ok (.goto 4, 3) := by decide +kernel
theorem dJ9_max_7cf53_9 : decode cJ9_max_7cf53 9 = .ok (.iload_n 1, 1) := by decide +kernel
theorem dJ9_max_7cf53_10 : decode cJ9_max_7cf53 10 = .ok (.ireturn, 1) := by decide +kernel
theorem dJ9_min_7cf53_0 : decode cJ9_min_7cf53 0 = .ok (.iload_n 0, 1) := by decide +kernel
theorem dJ9_min_7cf53_1 : decode cJ9_min_7cf53 1 = .ok (.iload_n 1, 1) := by decide +kernel
theorem dJ9_min_7cf53_2 : decode cJ9_min_7cf53 2 = .ok (.if_icmp .gt 7, 3) := by decide +kernel
theorem dJ9_min_7cf53_5 : decode cJ9_min_7cf53 5 = .ok (.iload_n 0, 1) := by decide +kernel
theorem dJ9_min_7cf53_6 : decode cJ9_min_7cf53 6 = .ok (.goto 4, 3) := by decide +kernel
theorem dJ9_min_7cf53_9 : decode cJ9_min_7cf53 9 = .ok (.iload_n 1, 1) := by decide +kernel
theorem dJ9_min_7cf53_10 : decode cJ9_min_7cf53 10 = .ok (.ireturn, 1) := by decide +kernel
theorem dJ0_length_8abf5_0 : decode cJ0_length_8abf5 0 = .ok (.aload_n 0, 1) := by decide +kernel
theorem dJ0_length_8abf5_1 : decode cJ0_length_8abf5 1 = .ok (.getfield 9, 3) := by decide +kernel
theorem dJ0_length_8abf5_4 : decode cJ0_length_8abf5 4 = .ok (.arraylength, 1) := by decide +kernel
theorem dJ0_length_8abf5_5 : decode cJ0_length_8abf5 5 = .ok (.aload_n 0, 1) := by decide +kernel
theorem dJ0_length_8abf5_6 : decode cJ0_length_8abf5 6 = .ok (.invokevirtual 335, 3) := by decide +kernel
theorem dJ0_length_8abf5_9 : decode cJ0_length_8abf5 9 = .ok (.ishr, 1) := by decide +kernel
theorem dJ0_length_8abf5_10 : decode cJ0_length_8abf5 10 = .ok (.ireturn, 1) := by decide +kernel
theorem dJ0_charAt_5068e_0 : decode cJ0_charAt_5068e 0 = .ok (.aload_n 0, 1) := by decide +kernel
theorem dJ0_charAt_5068e_1 : decode cJ0_charAt_5068e 1 = .ok (.invokevirtual 492, 3) := by decide +kernel
theorem dJ0_charAt_5068e_4 : decode cJ0_charAt_5068e 4 = .ok (.ifCond .eq 12, 3) := by decide +kernel
theorem dJ0_charAt_5068e_7 : decode cJ0_charAt_5068e 7 = .ok (.aload_n 0, 1) := by decide +kernel
theorem dJ0_charAt_5068e_8 : decode cJ0_charAt_5068e 8 = .ok (.getfield 9, 3) := by decide +kernel
theorem dJ0_charAt_5068e_11 : decode cJ0_charAt_5068e 11 = .ok (.iload_n 1, 1) := by decide +kernel
theorem dJ0_charAt_5068e_12 : decode cJ0_charAt_5068e 12 = .ok (.invokestatic 495, 3) := by decide +kernel
theorem dJ0_charAt_5068e_15 : decode cJ0_charAt_5068e 15 = .ok (.ireturn, 1) := by decide +kernel
theorem dJ0_charAt_5068e_16 : decode cJ0_charAt_5068e 16 = .ok (.aload_n 0, 1) := by decide +kernel
theorem dJ0_charAt_5068e_17 : decode cJ0_charAt_5068e 17 = .ok (.getfield 9, 3) := by decide +kernel
theorem dJ0_charAt_5068e_20 : decode cJ0_charAt_5068e 20 = .ok (.iload_n 1, 1) := by decide +kernel
theorem dJ0_charAt_5068e_21 : decode cJ0_charAt_5068e 21 = .ok (.invokestatic 498, 3) := by decide +kernel
theorem dJ0_charAt_5068e_24 : decode cJ0_charAt_5068e 24 = .ok (.ireturn, 1) := by decide +kernel
theorem dJ0_coder_7d493_0 : decode cJ0_coder_7d493 0 = .ok (.getstatic 38, 3) := by decide +kernel
theorem dJ0_coder_7d493_3 : decode cJ0_coder_7d493 3 = .ok (.ifCond .eq 10, 3) := by decide +kernel
theorem dJ0_coder_7d493_6 : decode cJ0_coder_7d493 6 = .ok (.aload_n 0, 1) := by decide +kernel
theorem dJ0_coder_7d493_7 : decode cJ0_coder_7d493 7 = .ok (.getfield 15, 3) := by decide +kernel
theorem dJ0_coder_7d493_10 : decode cJ0_coder_7d493 10 = .ok (.goto 4, 3) := by decide +kernel
theorem dJ0_coder_7d493_13 : decode cJ0_coder_7d493 13 = .ok (.iconst 1, 1) := by decide +kernel
theorem dJ0_coder_7d493_14 : decode cJ0_coder_7d493 14 = .ok (.ireturn, 1) := by decide +kernel
theorem dJ0_isLatin1_aae02_0 : decode cJ0_isLatin1_aae02 0 = .ok (.getstatic 38, 3) := by decide +kernel
theorem dJ0_isLatin1_aae02_3 : decode cJ0_isLatin1_aae02 3 = .ok (.ifCond .eq 14, 3) := by decide +kernel
theorem dJ0_isLatin1_aae02_6 : decode cJ0_isLatin1_aae02 6 = .ok (.aload_n 0, 1) := by decide +kernel
theorem dJ0_isLatin1_aae02_7 : decode cJ0_isLatin1_aae02 7 = .ok (.getfield 15, 3) := by decide +kernel
theorem dJ0_isLatin1_aae02_10 : decode cJ0_isLatin1_aae02 10 = .ok (.ifCond .ne 7, 3) := by decide +kernel
theorem dJ0_isLatin1_aae02_13 : decode cJ0_isLatin1_aae02 13 = .ok (.iconst 1, 1) := by decide +kernel
theorem dJ0_isLatin1_aae02_14 : decode cJ0_isLatin1_aae02 14 = .ok (.goto 4, 3) := by decide +kernel
theorem dJ0_isLatin1_aae02_17 : decode cJ0_isLatin1_aae02 17 = .ok (.iconst 0, 1) := by decide +kernel
theorem dJ0_isLatin1_aae02_18 : decode cJ0_isLatin1_aae02 18 = .ok (.ireturn, 1) := by decide +kernel
theorem dJ0_checkIndex_df160_0 : decode cJ0_checkIndex_df160 0 = .ok (.iload_n 0, 1) := by decide +kernel
theorem dJ0_checkIndex_df160_1 : decode cJ0_checkIndex_df160 1 = .ok (.iload_n 1, 1) := by decide +kernel
theorem dJ0_checkIndex_df160_2 : decode cJ0_checkIndex_df160 2 = .ok (.getstatic 1053, 3) := by decide +kernel
theorem dJ0_checkIndex_df160_5 : decode cJ0_checkIndex_df160 5 = .ok (.invokestatic 1059, 3) := by decide +kernel
theorem dJ0_checkIndex_df160_8 : decode cJ0_checkIndex_df160 8 = .ok (.pop, 1) := by decide +kernel
theorem dJ0_checkIndex_df160_9 : decode cJ0_checkIndex_df160 9 = .ok (.return_, 1) := by decide +kernel
theorem dJ1_charAt_3b067_0 : decode cJ1_charAt_3b067 0 = .ok (.iload_n 1, 1) := by decide +kernel
theorem dJ1_charAt_3b067_1 : decode cJ1_charAt_3b067 1 = .ok (.aload_n 0, 1) := by decide +kernel
theorem dJ1_charAt_3b067_2 : decode cJ1_charAt_3b067 2 = .ok (.arraylength, 1) := by decide +kernel
theorem dJ1_charAt_3b067_3 : decode cJ1_charAt_3b067 3 = .ok (.invokestatic 9, 3) := by decide +kernel
theorem dJ1_charAt_3b067_6 : decode cJ1_charAt_3b067 6 = .ok (.aload_n 0, 1) := by decide +kernel
theorem dJ1_charAt_3b067_7 : decode cJ1_charAt_3b067 7 = .ok (.iload_n 1, 1) := by decide +kernel
theorem dJ1_charAt_3b067_8 : decode cJ1_charAt_3b067 8 = .ok (.baload, 1) := by decide +kernel
theorem dJ1_charAt_3b067_9 : decode cJ1_charAt_3b067 9 = .ok (.sipush 255, 3) := by decide +kernel
theorem dJ1_charAt_3b067_12 : decode cJ1_charAt_3b067 12 = .ok (.iand, 1) := by decide +kernel
theorem dJ1_charAt_3b067_13 : decode cJ1_charAt_3b067 13 = .ok (.i2c, 1) := by decide +kernel
theorem dJ1_charAt_3b067_14 : decode cJ1_charAt_3b067 14 = .ok (.ireturn, 1) := by decide +kernel
theorem dJ2_getChar_3b067_0 : decode cJ2_getChar_3b067 0 = .ok (.getstatic 44, 3) := by decide +kernel
theorem dJ2_getChar_3b067_3 : decode cJ2_getChar_3b067 3 = .ok (.ifCond .ne 25, 3) := by decide +kernel
theorem dJ2_getChar_3b067_6 : decode cJ2_getChar_3b067 6 = .ok (.iload_n 1, 1) := by decide +kernel
theorem dJ2_getChar_3b067_7 : decode cJ2_getChar_3b067 7 = .ok (.ifCond .lt 11, 3) := by decide +kernel
theorem dJ2_getChar_3b067_10 : decode cJ2_getChar_3b067 10 = .ok (.iload_n 1, 1) := by decide +kernel
theorem dJ2_getChar_3b067_11 : decode cJ2_getChar_3b067 11 = .ok (.aload_n 0, 1) := by decide +kernel
theorem dJ2_getChar_3b067_12 : decode cJ2_getChar_3b067 12 = .ok (.invokestatic 48, 3) := by decide +kernel
theorem dJ2_getChar_3b067_15 : decode cJ2_getChar_3b067 15 = .ok (.if_icmp .lt 13, 3) := by decide +kernel
theorem dJ2_getChar_3b067_18 : decode cJ2_getChar_3b067 18 = .ok (.new 52, 3) := by decide +kernel
theorem dJ2_getChar_3b067_21 : decode cJ2_getChar_3b067 21 = .ok (.dup, 1) := by decide +kernel
theorem dJ2_getChar_3b067_22 : decode cJ2_getChar_3b067 22 = .ok (.ldc 54, 2) := by decide +kernel
theorem dJ2_getChar_3b067_24 : decode cJ2_getChar_3b067 24 = .ok (.invokespecial 56, 3) := by decide +kernel
theorem dJ2_getChar_3b067_27 : decode cJ2_getChar_3b067 27 = .ok (.athrow, 1) := by decide +kernel
theorem dJ2_getChar_3b067_28 : decode cJ2_getChar_3b067 28 = .ok (.iload_n 1, 1) := by decide +kernel
theorem dJ2_getChar_3b067_29 : decode cJ2_getChar_3b067 29 = .ok (.iconst 1, 1) := by decide +kernel
theorem dJ2_getChar_3b067_30 : decode cJ2_getChar_3b067 30 = .ok (.ishl, 1) := by decide +kernel
theorem dJ2_getChar_3b067_31 : decode cJ2_getChar_3b067 31 = .ok (.istore_n 1, 1) := by decide +kernel
theorem dJ2_getChar_3b067_32 : decode cJ2_getChar_3b067 32 = .ok (.aload_n 0, 1) := by decide +kernel
theorem dJ2_getChar_3b067_33 : decode cJ2_getChar_3b067 33 = .ok (.iload_n 1, 1) := by decide +kernel
theorem dJ2_getChar_3b067_34 : decode cJ2_getChar_3b067 34 = .ok (.iinc 1 1, 3) := by decide +kernel
theorem dJ2_getChar_3b067_37 : decode cJ2_getChar_3b067 37 = .ok (.baload, 1) := by decide +kernel
theorem dJ2_getChar_3b067_38 : decode cJ2_getChar_3b067 38 = .ok (.sipush 255, 3) := by decide +kernel
theorem dJ2_getChar_3b067_41 : decode cJ2_getChar_3b067 41 = .ok (.iand, 1) := by decide +kernel
theorem dJ2_getChar_3b067_42 : decode cJ2_getChar_3b067 42 = .ok (.getstatic 59, 3) := by decide +kernel
theorem dJ2_getChar_3b067_45 : decode cJ2_getChar_3b067 45 = .ok (.ishl, 1) := by decide +kernel
theorem dJ2_getChar_3b067_46 : decode cJ2_getChar_3b067 46 = .ok (.aload_n 0, 1) := by decide +kernel
theorem dJ2_getChar_3b067_47 : decode cJ2_getChar_3b067 47 = .ok (.iload_n 1, 1) := by decide +kernel
theorem dJ2_getChar_3b067_48 : decode cJ2_getChar_3b067 48 = .ok (.baload, 1) := by decide +kernel
theorem dJ2_getChar_3b067_49 : decode cJ2_getChar_3b067 49 = .ok (.sipush 255, 3) := by decide +kernel
theorem dJ2_getChar_3b067_52 : decode cJ2_getChar_3b067 52 = .ok (.iand, 1) := by decide +kernel
theorem dJ2_getChar_3b067_53 : decode cJ2_getChar_3b067 53 = .ok (.getstatic 63, 3) := by decide +kernel
theorem dJ2_getChar_3b067_56 : decode cJ2_getChar_3b067 56 = .ok (.ishl, 1) := by decide +kernel
theorem dJ2_getChar_3b067_57 : decode cJ2_getChar_3b067 57 = .ok (.ior, 1) := by decide +kernel
theorem dJ2_getChar_3b067_58 : decode cJ2_getChar_3b067 58 = .ok (.i2c, 1) := by decide +kernel
theorem dJ2_getChar_3b067_59 : decode cJ2_getChar_3b067 59 = .ok (.ireturn, 1) := by decide +kernel
theorem dJ2_length_9d52b_0 : decode cJ2_length_9d52b 0 = .ok (.aload_n 0, 1) := by decide +kernel
theorem dJ2_length_9d52b_1 : decode cJ2_length_9d52b 1 = .ok (.arraylength, 1) := by decide +kernel
theorem dJ2_length_9d52b_2 : decode cJ2_length_9d52b 2 = .ok (.iconst 1, 1) := by decide +kernel
theorem dJ2_length_9d52b_3 : decode cJ2_length_9d52b 3 = .ok (.ishr, 1) := by decide +kernel
theorem dJ2_length_9d52b_4 : decode cJ2_length_9d52b 4 = .ok (.ireturn, 1) := by decide +kernel
theorem dJ2_charAt_3b067_0 : decode cJ2_charAt_3b067 0 = .ok (.iload_n 1, 1) := by decide +kernel
theorem dJ2_charAt_3b067_1 : decode cJ2_charAt_3b067 1 = .ok (.aload_n 0, 1) := by decide +kernel
theorem dJ2_charAt_3b067_2 : decode cJ2_charAt_3b067 2 = .ok (.invokestatic 67, 3) := by decide +kernel
theorem dJ2_charAt_3b067_5 : decode cJ2_charAt_3b067 5 = .ok (.aload_n 0, 1) := by decide +kernel
theorem dJ2_charAt_3b067_6 : decode cJ2_charAt_3b067 6 = .ok (.iload_n 1, 1) := by decide +kernel
theorem dJ2_charAt_3b067_7 : decode cJ2_charAt_3b067 7 = .ok (.invokestatic 71, 3) := by decide +kernel
theorem dJ2_charAt_3b067_10 : decode cJ2_charAt_3b067 10 = .ok (.ireturn, 1) := by decide +kernel
theorem dJ2_checkIndex_2214a_0 : decode cJ2_checkIndex_2214a 0 = .ok (.iload_n 0, 1) := by decide +kernel
theorem dJ2_checkIndex_2214a_1 : decode cJ2_checkIndex_2214a 1 = .ok (.aload_n 1, 1) := by decide +kernel
theorem dJ2_checkIndex_2214a_2 : decode cJ2_checkIndex_2214a 2 = .ok (.invokestatic 48, 3) := by decide +kernel
theorem dJ2_checkIndex_2214a_5 : decode cJ2_checkIndex_2214a 5 = .ok (.invokestatic 414, 3) := by decide +kernel
theorem dJ2_checkIndex_2214a_8 : decode cJ2_checkIndex_2214a 8 = .ok (.return_, 1) := by decide +kernel
theorem dJ3_checkIndex_8e157_0 : decode cJ3_checkIndex_8e157 0 = .ok (.iload_n 0, 1) := by decide +kernel
theorem dJ3_checkIndex_8e157_1 : decode cJ3_checkIndex_8e157 1 = .ok (.ifCond .lt 8, 3) := by decide +kernel
theorem dJ3_checkIndex_8e157_4 : decode cJ3_checkIndex_8e157 4 = .ok (.iload_n 0, 1) := by decide +kernel
theorem dJ3_checkIndex_8e157_5 : decode cJ3_checkIndex_8e157 5 = .ok (.iload_n 1, 1) := by decide +kernel
theorem dJ3_checkIndex_8e157_6 : decode cJ3_checkIndex_8e157 6 = .ok (.if_icmp .lt 10, 3) := by decide +kernel
theorem dJ3_checkIndex_8e157_9 : decode cJ3_checkIndex_8e157 9 = .ok (.aload_n 2, 1) := by decide +kernel
theorem dJ3_checkIndex_8e157_10 : decode cJ3_checkIndex_8e157 10 = .ok (.iload_n 0, 1) := by decide +kernel
theorem dJ3_checkIndex_8e157_11 : decode cJ3_checkIndex_8e157 11 = .ok (.iload_n 1, 1) := by decide +kernel
theorem dJ3_checkIndex_8e157_12 : decode cJ3_checkIndex_8e157 12 = .ok (.invokestatic 95, 3) := by decide +kernel
theorem dJ3_checkIndex_8e157_15 : decode cJ3_checkIndex_8e157 15 = .ok (.athrow, 1) := by decide +kernel
theorem dJ3_checkIndex_8e157_16 : decode cJ3_checkIndex_8e157 16 = .ok (.iload_n 0, 1) := by decide +kernel
theorem dJ3_checkIndex_8e157_17 : decode cJ3_checkIndex_8e157 17 = .ok (.ireturn, 1) := by decide +kernel
theorem dL_law_0 : decode cL_law 0 = .ok (.new 7, 3) := by decide +kernel
theorem dL_law_3 : decode cL_law 3 = .ok (.dup, 1) := by decide +kernel
theorem dL_law_4 : decode cL_law 4 = .ok (.invokespecial 9, 3) := by decide +kernel
theorem dL_law_7 : decode cL_law 7 = .ok (.astore_n 1, 1) := by decide +kernel
theorem dL_law_8 : decode cL_law 8 = .ok (.new 10, 3) := by decide +kernel
theorem dL_law_11 : decode cL_law 11 = .ok (.dup, 1) := by decide +kernel
theorem dL_law_12 : decode cL_law 12 = .ok (.invokespecial 12, 3) := by decide +kernel
theorem dL_law_15 : decode cL_law 15 = .ok (.astore_n 2, 1) := by decide +kernel
theorem dL_law_16 : decode cL_law 16 = .ok (.iconst 0, 1) := by decide +kernel
theorem dL_law_17 : decode cL_law 17 = .ok (.istore_n 3, 1) := by decide +kernel
theorem dL_law_18 : decode cL_law 18 = .ok (.iload_n 3, 1) := by decide +kernel
theorem dL_law_19 : decode cL_law 19 = .ok (.aload_n 0, 1) := by decide +kernel
theorem dL_law_20 : decode cL_law 20 = .ok (.arraylength, 1) := by decide +kernel
theorem dL_law_21 : decode cL_law 21 = .ok (.bipush 6, 2) := by decide +kernel
theorem dL_law_23 : decode cL_law 23 = .ok (.isub, 1) := by decide +kernel
theorem dL_law_24 : decode cL_law 24 = .ok (.if_icmp .gt 1437, 3) := by decide +kernel
theorem dL_law_27 : decode cL_law 27 = .ok (.aload_n 0, 1) := by decide +kernel
theorem dL_law_28 : decode cL_law 28 = .ok (.iload_n 3, 1) := by decide +kernel
theorem dL_law_29 : decode cL_law 29 = .ok (.iaload, 1) := by decide +kernel
theorem dL_law_30 : decode cL_law 30 = .ok (.bipush 63, 2) := by decide +kernel
theorem dL_law_32 : decode cL_law 32 = .ok (.iand, 1) := by decide +kernel
theorem dL_law_33 : decode cL_law 33 = .ok (.tableswitch 1422 0 41 #[183, 236, 299, 322, 335, 358, 381, 404, 417, 440, 473, 486, 509, 532, 565, 578, 611, 634, 667, 700, 753, 812, 835, 875, 898, 921, 996, 1029, 1088, 1101, 1114, 1127, 1176, 1199, 1222, 1235, 1268, 1317, 1340, 1373, 1386, 1399], 183) := by decide +kernel
theorem dL_law_216 : decode cL_law 216 = .ok (.aload_n 1, 1) := by decide +kernel
theorem dL_law_217 : decode cL_law 217 = .ok (.aload_n 0, 1) := by decide +kernel
theorem dL_law_218 : decode cL_law 218 = .ok (.iload_n 3, 1) := by decide +kernel
theorem dL_law_219 : decode cL_law 219 = .ok (.iconst 1, 1) := by decide +kernel
theorem dL_law_220 : decode cL_law 220 = .ok (.iadd, 1) := by decide +kernel
theorem dL_law_221 : decode cL_law 221 = .ok (.iaload, 1) := by decide +kernel
theorem dL_law_222 : decode cL_law 222 = .ok (.aload_n 0, 1) := by decide +kernel
theorem dL_law_223 : decode cL_law 223 = .ok (.iload_n 3, 1) := by decide +kernel
theorem dL_law_224 : decode cL_law 224 = .ok (.iconst 2, 1) := by decide +kernel
theorem dL_law_225 : decode cL_law 225 = .ok (.iadd, 1) := by decide +kernel
theorem dL_law_226 : decode cL_law 226 = .ok (.iaload, 1) := by decide +kernel
theorem dL_law_227 : decode cL_law 227 = .ok (.aload_n 0, 1) := by decide +kernel
theorem dL_law_228 : decode cL_law 228 = .ok (.iload_n 3, 1) := by decide +kernel
theorem dL_law_229 : decode cL_law 229 = .ok (.iconst 3, 1) := by decide +kernel
theorem dL_law_230 : decode cL_law 230 = .ok (.iadd, 1) := by decide +kernel
theorem dL_law_231 : decode cL_law 231 = .ok (.iaload, 1) := by decide +kernel
theorem dL_law_232 : decode cL_law 232 = .ok (.aload_n 0, 1) := by decide +kernel
theorem dL_law_233 : decode cL_law 233 = .ok (.iload_n 3, 1) := by decide +kernel
theorem dL_law_234 : decode cL_law 234 = .ok (.iconst 4, 1) := by decide +kernel
theorem dL_law_235 : decode cL_law 235 = .ok (.iadd, 1) := by decide +kernel
theorem dL_law_236 : decode cL_law 236 = .ok (.iaload, 1) := by decide +kernel
theorem dL_law_237 : decode cL_law 237 = .ok (.invokevirtual 13, 3) := by decide +kernel
theorem dL_law_240 : decode cL_law 240 = .ok (.aload_n 2, 1) := by decide +kernel
theorem dL_law_241 : decode cL_law 241 = .ok (.aload_n 0, 1) := by decide +kernel
theorem dL_law_242 : decode cL_law 242 = .ok (.iload_n 3, 1) := by decide +kernel
theorem dL_law_243 : decode cL_law 243 = .ok (.iconst 1, 1) := by decide +kernel
theorem dL_law_244 : decode cL_law 244 = .ok (.iadd, 1) := by decide +kernel
theorem dL_law_245 : decode cL_law 245 = .ok (.iaload, 1) := by decide +kernel
theorem dL_law_246 : decode cL_law 246 = .ok (.aload_n 0, 1) := by decide +kernel
theorem dL_law_247 : decode cL_law 247 = .ok (.iload_n 3, 1) := by decide +kernel
theorem dL_law_248 : decode cL_law 248 = .ok (.iconst 2, 1) := by decide +kernel
theorem dL_law_249 : decode cL_law 249 = .ok (.iadd, 1) := by decide +kernel
theorem dL_law_250 : decode cL_law 250 = .ok (.iaload, 1) := by decide +kernel
theorem dL_law_251 : decode cL_law 251 = .ok (.aload_n 0, 1) := by decide +kernel
theorem dL_law_252 : decode cL_law 252 = .ok (.iload_n 3, 1) := by decide +kernel
theorem dL_law_253 : decode cL_law 253 = .ok (.iconst 3, 1) := by decide +kernel
theorem dL_law_254 : decode cL_law 254 = .ok (.iadd, 1) := by decide +kernel
theorem dL_law_255 : decode cL_law 255 = .ok (.iaload, 1) := by decide +kernel
theorem dL_law_256 : decode cL_law 256 = .ok (.aload_n 0, 1) := by decide +kernel
theorem dL_law_257 : decode cL_law 257 = .ok (.iload_n 3, 1) := by decide +kernel
theorem dL_law_258 : decode cL_law 258 = .ok (.iconst 4, 1) := by decide +kernel
theorem dL_law_259 : decode cL_law 259 = .ok (.iadd, 1) := by decide +kernel
theorem dL_law_260 : decode cL_law 260 = .ok (.iaload, 1) := by decide +kernel
theorem dL_law_261 : decode cL_law 261 = .ok (.invokevirtual 17, 3) := by decide +kernel
theorem dL_law_264 : decode cL_law 264 = .ok (.if_icmp .eq 1191, 3) := by decide +kernel
theorem dL_law_267 : decode cL_law 267 = .ok (.iconst 0, 1) := by decide +kernel
theorem dL_law_268 : decode cL_law 268 = .ok (.ireturn, 1) := by decide +kernel
theorem dL_law_269 : decode cL_law 269 = .ok (.aload_n 1, 1) := by decide +kernel
theorem dL_law_270 : decode cL_law 270 = .ok (.aload_n 0, 1) := by decide +kernel
theorem dL_law_271 : decode cL_law 271 = .ok (.iload_n 3, 1) := by decide +kernel
theorem dL_law_272 : decode cL_law 272 = .ok (.iconst 1, 1) := by decide +kernel
theorem dL_law_273 : decode cL_law 273 = .ok (.iadd, 1) := by decide +kernel
theorem dL_law_274 : decode cL_law 274 = .ok (.iaload, 1) := by decide +kernel
theorem dL_law_275 : decode cL_law 275 = .ok (.aload_n 0, 1) := by decide +kernel
theorem dL_law_276 : decode cL_law 276 = .ok (.iload_n 3, 1) := by decide +kernel
theorem dL_law_277 : decode cL_law 277 = .ok (.iconst 2, 1) := by decide +kernel
theorem dL_law_278 : decode cL_law 278 = .ok (.iadd, 1) := by decide +kernel
theorem dL_law_279 : decode cL_law 279 = .ok (.iaload, 1) := by decide +kernel
theorem dL_law_280 : decode cL_law 280 = .ok (.aload_n 0, 1) := by decide +kernel
theorem dL_law_281 : decode cL_law 281 = .ok (.iload_n 3, 1) := by decide +kernel
theorem dL_law_282 : decode cL_law 282 = .ok (.iconst 3, 1) := by decide +kernel
theorem dL_law_283 : decode cL_law 283 = .ok (.iadd, 1) := by decide +kernel
theorem dL_law_284 : decode cL_law 284 = .ok (.iaload, 1) := by decide +kernel
theorem dL_law_285 : decode cL_law 285 = .ok (.aload_n 0, 1) := by decide +kernel
theorem dL_law_286 : decode cL_law 286 = .ok (.iload_n 3, 1) := by decide +kernel
theorem dL_law_287 : decode cL_law 287 = .ok (.iconst 4, 1) := by decide +kernel
theorem dL_law_288 : decode cL_law 288 = .ok (.iadd, 1) := by decide +kernel
theorem dL_law_289 : decode cL_law 289 = .ok (.iaload, 1) := by decide +kernel
theorem dL_law_290 : decode cL_law 290 = .ok (.aload_n 0, 1) := by decide +kernel
theorem dL_law_291 : decode cL_law 291 = .ok (.iload_n 3, 1) := by decide +kernel
theorem dL_law_292 : decode cL_law 292 = .ok (.iconst 5, 1) := by decide +kernel
theorem dL_law_293 : decode cL_law 293 = .ok (.iadd, 1) := by decide +kernel
theorem dL_law_294 : decode cL_law 294 = .ok (.iaload, 1) := by decide +kernel
theorem dL_law_295 : decode cL_law 295 = .ok (.invokevirtual 18, 3) := by decide +kernel
theorem dL_law_298 : decode cL_law 298 = .ok (.aload_n 2, 1) := by decide +kernel
theorem dL_law_299 : decode cL_law 299 = .ok (.aload_n 0, 1) := by decide +kernel
theorem dL_law_300 : decode cL_law 300 = .ok (.iload_n 3, 1) := by decide +kernel
theorem dL_law_301 : decode cL_law 301 = .ok (.iconst 1, 1) := by decide +kernel
theorem dL_law_302 : decode cL_law 302 = .ok (.iadd, 1) := by decide +kernel
theorem dL_law_303 : decode cL_law 303 = .ok (.iaload, 1) := by decide +kernel
theorem dL_law_304 : decode cL_law 304 = .ok (.aload_n 0, 1) := by decide +kernel
theorem dL_law_305 : decode cL_law 305 = .ok (.iload_n 3, 1) := by decide +kernel
theorem dL_law_306 : decode cL_law 306 = .ok (.iconst 2, 1) := by decide +kernel
theorem dL_law_307 : decode cL_law 307 = .ok (.iadd, 1) := by decide +kernel
theorem dL_law_308 : decode cL_law 308 = .ok (.iaload, 1) := by decide +kernel
theorem dL_law_309 : decode cL_law 309 = .ok (.aload_n 0, 1) := by decide +kernel
theorem dL_law_310 : decode cL_law 310 = .ok (.iload_n 3, 1) := by decide +kernel
theorem dL_law_311 : decode cL_law 311 = .ok (.iconst 3, 1) := by decide +kernel
theorem dL_law_312 : decode cL_law 312 = .ok (.iadd, 1) := by decide +kernel
theorem dL_law_313 : decode cL_law 313 = .ok (.iaload, 1) := by decide +kernel
theorem dL_law_314 : decode cL_law 314 = .ok (.aload_n 0, 1) := by decide +kernel
theorem dL_law_315 : decode cL_law 315 = .ok (.iload_n 3, 1) := by decide +kernel
theorem dL_law_316 : decode cL_law 316 = .ok (.iconst 4, 1) := by decide +kernel
theorem dL_law_317 : decode cL_law 317 = .ok (.iadd, 1) := by decide +kernel
theorem dL_law_318 : decode cL_law 318 = .ok (.iaload, 1) := by decide +kernel
theorem dL_law_319 : decode cL_law 319 = .ok (.aload_n 0, 1) := by decide +kernel
theorem dL_law_320 : decode cL_law 320 = .ok (.iload_n 3, 1) := by decide +kernel
theorem dL_law_321 : decode cL_law 321 = .ok (.iconst 5, 1) := by decide +kernel
theorem dL_law_322 : decode cL_law 322 = .ok (.iadd, 1) := by decide +kernel
theorem dL_law_323 : decode cL_law 323 = .ok (.iaload, 1) := by decide +kernel
theorem dL_law_324 : decode cL_law 324 = .ok (.invokevirtual 22, 3) := by decide +kernel
theorem dL_law_327 : decode cL_law 327 = .ok (.if_icmp .eq 1128, 3) := by decide +kernel
theorem dL_law_330 : decode cL_law 330 = .ok (.iconst 0, 1) := by decide +kernel
theorem dL_law_331 : decode cL_law 331 = .ok (.ireturn, 1) := by decide +kernel
theorem dL_law_332 : decode cL_law 332 = .ok (.aload_n 1, 1) := by decide +kernel
theorem dL_law_333 : decode cL_law 333 = .ok (.aload_n 0, 1) := by decide +kernel
theorem dL_law_334 : decode cL_law 334 = .ok (.iload_n 3, 1) := by decide +kernel
theorem dL_law_335 : decode cL_law 335 = .ok (.iconst 1, 1) := by decide +kernel
theorem dL_law_336 : decode cL_law 336 = .ok (.iadd, 1) := by decide +kernel
theorem dL_law_337 : decode cL_law 337 = .ok (.iaload, 1) := by decide +kernel
theorem dL_law_338 : decode cL_law 338 = .ok (.invokevirtual 23, 3) := by decide +kernel
theorem dL_law_341 : decode cL_law 341 = .ok (.aload_n 2, 1) := by decide +kernel
theorem dL_law_342 : decode cL_law 342 = .ok (.aload_n 0, 1) := by decide +kernel
theorem dL_law_343 : decode cL_law 343 = .ok (.iload_n 3, 1) := by decide +kernel
theorem dL_law_344 : decode cL_law 344 = .ok (.iconst 1, 1) := by decide +kernel
theorem dL_law_345 : decode cL_law 345 = .ok (.iadd, 1) := by decide +kernel
theorem dL_law_346 : decode cL_law 346 = .ok (.iaload, 1) := by decide +kernel
theorem dL_law_347 : decode cL_law 347 = .ok (.invokevirtual 27, 3) := by decide +kernel
theorem dL_law_350 : decode cL_law 350 = .ok (.if_icmp .eq 1105, 3) := by decide +kernel
theorem dL_law_353 : decode cL_law 353 = .ok (.iconst 0, 1) := by decide +kernel
theorem dL_law_354 : decode cL_law 354 = .ok (.ireturn, 1) := by decide +kernel
theorem dL_law_355 : decode cL_law 355 = .ok (.aload_n 1, 1) := by decide +kernel
theorem dL_law_356 : decode cL_law 356 = .ok (.invokevirtual 28, 3) := by decide +kernel
theorem dL_law_359 : decode cL_law 359 = .ok (.aload_n 2, 1) := by decide +kernel
theorem dL_law_360 : decode cL_law 360 = .ok (.invokevirtual 32, 3) := by decide +kernel
theorem dL_law_363 : decode cL_law 363 = .ok (.if_icmp .eq 1092, 3) := by decide +kernel
theorem dL_law_366 : decode cL_law 366 = .ok (.iconst 0, 1) := by decide +kernel
theorem dL_law_367 : decode cL_law 367 = .ok (.ireturn, 1) := by decide +kernel
theorem dL_law_368 : decode cL_law 368 = .ok (.aload_n 1, 1) := by decide +kernel
theorem dL_law_369 : decode cL_law 369 = .ok (.aload_n 0, 1) := by decide +kernel
theorem dL_law_370 : decode cL_law 370 = .ok (.iload_n 3, 1) := by decide +kernel
theorem dL_law_371 : decode cL_law 371 = .ok (.iconst 1, 1) := by decide +kernel
theorem dL_law_372 : decode cL_law 372 = .ok (.iadd, 1) := by decide +kernel
theorem dL_law_373 : decode cL_law 373 = .ok (.iaload, 1) := by decide +kernel
theorem dL_law_374 : decode cL_law 374 = .ok (.invokevirtual 33, 3) := by decide +kernel
theorem dL_law_377 : decode cL_law 377 = .ok (.aload_n 2, 1) := by decide +kernel
theorem dL_law_378 : decode cL_law 378 = .ok (.aload_n 0, 1) := by decide +kernel
theorem dL_law_379 : decode cL_law 379 = .ok (.iload_n 3, 1) := by decide +kernel
theorem dL_law_380 : decode cL_law 380 = .ok (.iconst 1, 1) := by decide +kernel
theorem dL_law_381 : decode cL_law 381 = .ok (.iadd, 1) := by decide +kernel
theorem dL_law_382 : decode cL_law 382 = .ok (.iaload, 1) := by decide +kernel
theorem dL_law_383 : decode cL_law 383 = .ok (.invokevirtual 36, 3) := by decide +kernel
theorem dL_law_386 : decode cL_law 386 = .ok (.if_icmp .eq 1069, 3) := by decide +kernel
theorem dL_law_389 : decode cL_law 389 = .ok (.iconst 0, 1) := by decide +kernel
theorem dL_law_390 : decode cL_law 390 = .ok (.ireturn, 1) := by decide +kernel
theorem dL_law_391 : decode cL_law 391 = .ok (.aload_n 1, 1) := by decide +kernel
theorem dL_law_392 : decode cL_law 392 = .ok (.aload_n 0, 1) := by decide +kernel
theorem dL_law_393 : decode cL_law 393 = .ok (.iload_n 3, 1) := by decide +kernel
theorem dL_law_394 : decode cL_law 394 = .ok (.iconst 1, 1) := by decide +kernel
theorem dL_law_395 : decode cL_law 395 = .ok (.iadd, 1) := by decide +kernel
theorem dL_law_396 : decode cL_law 396 = .ok (.iaload, 1) := by decide +kernel
theorem dL_law_397 : decode cL_law 397 = .ok (.invokevirtual 37, 3) := by decide +kernel
theorem dL_law_400 : decode cL_law 400 = .ok (.aload_n 2, 1) := by decide +kernel
theorem dL_law_401 : decode cL_law 401 = .ok (.aload_n 0, 1) := by decide +kernel
theorem dL_law_402 : decode cL_law 402 = .ok (.iload_n 3, 1) := by decide +kernel
theorem dL_law_403 : decode cL_law 403 = .ok (.iconst 1, 1) := by decide +kernel
theorem dL_law_404 : decode cL_law 404 = .ok (.iadd, 1) := by decide +kernel
theorem dL_law_405 : decode cL_law 405 = .ok (.iaload, 1) := by decide +kernel
theorem dL_law_406 : decode cL_law 406 = .ok (.invokevirtual 41, 3) := by decide +kernel
theorem dL_law_409 : decode cL_law 409 = .ok (.if_icmp .eq 1046, 3) := by decide +kernel
theorem dL_law_412 : decode cL_law 412 = .ok (.iconst 0, 1) := by decide +kernel
theorem dL_law_413 : decode cL_law 413 = .ok (.ireturn, 1) := by decide +kernel
theorem dL_law_414 : decode cL_law 414 = .ok (.aload_n 1, 1) := by decide +kernel
theorem dL_law_415 : decode cL_law 415 = .ok (.aload_n 0, 1) := by decide +kernel
theorem dL_law_416 : decode cL_law 416 = .ok (.iload_n 3, 1) := by decide +kernel
theorem dL_law_417 : decode cL_law 417 = .ok (.iconst 1, 1) := by decide +kernel
theorem dL_law_418 : decode cL_law 418 = .ok (.iadd, 1) := by decide +kernel
theorem dL_law_419 : decode cL_law 419 = .ok (.iaload, 1) := by decide +kernel
theorem dL_law_420 : decode cL_law 420 = .ok (.invokevirtual 42, 3) := by decide +kernel
theorem dL_law_423 : decode cL_law 423 = .ok (.aload_n 2, 1) := by decide +kernel
theorem dL_law_424 : decode cL_law 424 = .ok (.aload_n 0, 1) := by decide +kernel
theorem dL_law_425 : decode cL_law 425 = .ok (.iload_n 3, 1) := by decide +kernel
theorem dL_law_426 : decode cL_law 426 = .ok (.iconst 1, 1) := by decide +kernel
theorem dL_law_427 : decode cL_law 427 = .ok (.iadd, 1) := by decide +kernel
theorem dL_law_428 : decode cL_law 428 = .ok (.iaload, 1) := by decide +kernel
theorem dL_law_429 : decode cL_law 429 = .ok (.invokevirtual 45, 3) := by decide +kernel
theorem dL_law_432 : decode cL_law 432 = .ok (.if_icmp .eq 1023, 3) := by decide +kernel
theorem dL_law_435 : decode cL_law 435 = .ok (.iconst 0, 1) := by decide +kernel
theorem dL_law_436 : decode cL_law 436 = .ok (.ireturn, 1) := by decide +kernel
theorem dL_law_437 : decode cL_law 437 = .ok (.aload_n 1, 1) := by decide +kernel
theorem dL_law_438 : decode cL_law 438 = .ok (.invokevirtual 46, 3) := by decide +kernel
theorem dL_law_441 : decode cL_law 441 = .ok (.aload_n 2, 1) := by decide +kernel
theorem dL_law_442 : decode cL_law 442 = .ok (.invokevirtual 49, 3) := by decide +kernel
theorem dL_law_445 : decode cL_law 445 = .ok (.if_icmp .eq 1010, 3) := by decide +kernel
theorem dL_law_448 : decode cL_law 448 = .ok (.iconst 0, 1) := by decide +kernel
theorem dL_law_449 : decode cL_law 449 = .ok (.ireturn, 1) := by decide +kernel
theorem dL_law_450 : decode cL_law 450 = .ok (.aload_n 1, 1) := by decide +kernel
theorem dL_law_451 : decode cL_law 451 = .ok (.aload_n 0, 1) := by decide +kernel
theorem dL_law_452 : decode cL_law 452 = .ok (.iload_n 3, 1) := by decide +kernel
theorem dL_law_453 : decode cL_law 453 = .ok (.iconst 1, 1) := by decide +kernel
theorem dL_law_454 : decode cL_law 454 = .ok (.iadd, 1) := by decide +kernel
theorem dL_law_455 : decode cL_law 455 = .ok (.iaload, 1) := by decide +kernel
theorem dL_law_456 : decode cL_law 456 = .ok (.invokevirtual 50, 3) := by decide +kernel
theorem dL_law_459 : decode cL_law 459 = .ok (.aload_n 2, 1) := by decide +kernel
theorem dL_law_460 : decode cL_law 460 = .ok (.aload_n 0, 1) := by decide +kernel
theorem dL_law_461 : decode cL_law 461 = .ok (.iload_n 3, 1) := by decide +kernel
theorem dL_law_462 : decode cL_law 462 = .ok (.iconst 1, 1) := by decide +kernel
theorem dL_law_463 : decode cL_law 463 = .ok (.iadd, 1) := by decide +kernel
theorem dL_law_464 : decode cL_law 464 = .ok (.iaload, 1) := by decide +kernel
theorem dL_law_465 : decode cL_law 465 = .ok (.invokevirtual 53, 3) := by decide +kernel
theorem dL_law_468 : decode cL_law 468 = .ok (.if_icmp .eq 987, 3) := by decide +kernel
theorem dL_law_471 : decode cL_law 471 = .ok (.iconst 0, 1) := by decide +kernel
theorem dL_law_472 : decode cL_law 472 = .ok (.ireturn, 1) := by decide +kernel
theorem dL_law_473 : decode cL_law 473 = .ok (.aload_n 1, 1) := by decide +kernel
theorem dL_law_474 : decode cL_law 474 = .ok (.aload_n 0, 1) := by decide +kernel
theorem dL_law_475 : decode cL_law 475 = .ok (.iload_n 3, 1) := by decide +kernel
theorem dL_law_476 : decode cL_law 476 = .ok (.iconst 1, 1) := by decide +kernel
theorem dL_law_477 : decode cL_law 477 = .ok (.iadd, 1) := by decide +kernel
theorem dL_law_478 : decode cL_law 478 = .ok (.iaload, 1) := by decide +kernel
theorem dL_law_479 : decode cL_law 479 = .ok (.aload_n 0, 1) := by decide +kernel
theorem dL_law_480 : decode cL_law 480 = .ok (.iload_n 3, 1) := by decide +kernel
theorem dL_law_481 : decode cL_law 481 = .ok (.iconst 2, 1) := by decide +kernel
theorem dL_law_482 : decode cL_law 482 = .ok (.iadd, 1) := by decide +kernel
theorem dL_law_483 : decode cL_law 483 = .ok (.iaload, 1) := by decide +kernel
theorem dL_law_484 : decode cL_law 484 = .ok (.invokevirtual 54, 3) := by decide +kernel
theorem dL_law_487 : decode cL_law 487 = .ok (.aload_n 2, 1) := by decide +kernel
theorem dL_law_488 : decode cL_law 488 = .ok (.aload_n 0, 1) := by decide +kernel
theorem dL_law_489 : decode cL_law 489 = .ok (.iload_n 3, 1) := by decide +kernel
theorem dL_law_490 : decode cL_law 490 = .ok (.iconst 1, 1) := by decide +kernel
theorem dL_law_491 : decode cL_law 491 = .ok (.iadd, 1) := by decide +kernel
theorem dL_law_492 : decode cL_law 492 = .ok (.iaload, 1) := by decide +kernel
theorem dL_law_493 : decode cL_law 493 = .ok (.aload_n 0, 1) := by decide +kernel
theorem dL_law_494 : decode cL_law 494 = .ok (.iload_n 3, 1) := by decide +kernel
theorem dL_law_495 : decode cL_law 495 = .ok (.iconst 2, 1) := by decide +kernel
theorem dL_law_496 : decode cL_law 496 = .ok (.iadd, 1) := by decide +kernel
theorem dL_law_497 : decode cL_law 497 = .ok (.iaload, 1) := by decide +kernel
theorem dL_law_498 : decode cL_law 498 = .ok (.invokevirtual 58, 3) := by decide +kernel
theorem dL_law_501 : decode cL_law 501 = .ok (.if_icmp .eq 954, 3) := by decide +kernel
theorem dL_law_504 : decode cL_law 504 = .ok (.iconst 0, 1) := by decide +kernel
theorem dL_law_505 : decode cL_law 505 = .ok (.ireturn, 1) := by decide +kernel
theorem dL_law_506 : decode cL_law 506 = .ok (.aload_n 1, 1) := by decide +kernel
theorem dL_law_507 : decode cL_law 507 = .ok (.invokevirtual 59, 3) := by decide +kernel
theorem dL_law_510 : decode cL_law 510 = .ok (.aload_n 2, 1) := by decide +kernel
theorem dL_law_511 : decode cL_law 511 = .ok (.invokevirtual 62, 3) := by decide +kernel
theorem dL_law_514 : decode cL_law 514 = .ok (.if_icmp .eq 941, 3) := by decide +kernel
theorem dL_law_517 : decode cL_law 517 = .ok (.iconst 0, 1) := by decide +kernel
theorem dL_law_518 : decode cL_law 518 = .ok (.ireturn, 1) := by decide +kernel
theorem dL_law_519 : decode cL_law 519 = .ok (.aload_n 1, 1) := by decide +kernel
theorem dL_law_520 : decode cL_law 520 = .ok (.aload_n 0, 1) := by decide +kernel
theorem dL_law_521 : decode cL_law 521 = .ok (.iload_n 3, 1) := by decide +kernel
theorem dL_law_522 : decode cL_law 522 = .ok (.iconst 1, 1) := by decide +kernel
theorem dL_law_523 : decode cL_law 523 = .ok (.iadd, 1) := by decide +kernel
theorem dL_law_524 : decode cL_law 524 = .ok (.iaload, 1) := by decide +kernel
theorem dL_law_525 : decode cL_law 525 = .ok (.invokevirtual 63, 3) := by decide +kernel
theorem dL_law_528 : decode cL_law 528 = .ok (.aload_n 2, 1) := by decide +kernel
theorem dL_law_529 : decode cL_law 529 = .ok (.aload_n 0, 1) := by decide +kernel
theorem dL_law_530 : decode cL_law 530 = .ok (.iload_n 3, 1) := by decide +kernel
theorem dL_law_531 : decode cL_law 531 = .ok (.iconst 1, 1) := by decide +kernel
theorem dL_law_532 : decode cL_law 532 = .ok (.iadd, 1) := by decide +kernel
theorem dL_law_533 : decode cL_law 533 = .ok (.iaload, 1) := by decide +kernel
theorem dL_law_534 : decode cL_law 534 = .ok (.invokevirtual 66, 3) := by decide +kernel
theorem dL_law_537 : decode cL_law 537 = .ok (.if_icmp .eq 918, 3) := by decide +kernel
theorem dL_law_540 : decode cL_law 540 = .ok (.iconst 0, 1) := by decide +kernel
theorem dL_law_541 : decode cL_law 541 = .ok (.ireturn, 1) := by decide +kernel
theorem dL_law_542 : decode cL_law 542 = .ok (.aload_n 1, 1) := by decide +kernel
theorem dL_law_543 : decode cL_law 543 = .ok (.aload_n 0, 1) := by decide +kernel
theorem dL_law_544 : decode cL_law 544 = .ok (.iload_n 3, 1) := by decide +kernel
theorem dL_law_545 : decode cL_law 545 = .ok (.iconst 1, 1) := by decide +kernel
theorem dL_law_546 : decode cL_law 546 = .ok (.iadd, 1) := by decide +kernel
theorem dL_law_547 : decode cL_law 547 = .ok (.iaload, 1) := by decide +kernel
theorem dL_law_548 : decode cL_law 548 = .ok (.invokevirtual 67, 3) := by decide +kernel
theorem dL_law_551 : decode cL_law 551 = .ok (.aload_n 2, 1) := by decide +kernel
theorem dL_law_552 : decode cL_law 552 = .ok (.aload_n 0, 1) := by decide +kernel
theorem dL_law_553 : decode cL_law 553 = .ok (.iload_n 3, 1) := by decide +kernel
theorem dL_law_554 : decode cL_law 554 = .ok (.iconst 1, 1) := by decide +kernel
theorem dL_law_555 : decode cL_law 555 = .ok (.iadd, 1) := by decide +kernel
theorem dL_law_556 : decode cL_law 556 = .ok (.iaload, 1) := by decide +kernel
theorem dL_law_557 : decode cL_law 557 = .ok (.invokevirtual 70, 3) := by decide +kernel
theorem dL_law_560 : decode cL_law 560 = .ok (.if_icmp .eq 895, 3) := by decide +kernel
theorem dL_law_563 : decode cL_law 563 = .ok (.iconst 0, 1) := by decide +kernel
theorem dL_law_564 : decode cL_law 564 = .ok (.ireturn, 1) := by decide +kernel
theorem dL_law_565 : decode cL_law 565 = .ok (.aload_n 1, 1) := by decide +kernel
theorem dL_law_566 : decode cL_law 566 = .ok (.aload_n 0, 1) := by decide +kernel
theorem dL_law_567 : decode cL_law 567 = .ok (.iload_n 3, 1) := by decide +kernel
theorem dL_law_568 : decode cL_law 568 = .ok (.iconst 1, 1) := by decide +kernel
theorem dL_law_569 : decode cL_law 569 = .ok (.iadd, 1) := by decide +kernel
theorem dL_law_570 : decode cL_law 570 = .ok (.iaload, 1) := by decide +kernel
theorem dL_law_571 : decode cL_law 571 = .ok (.aload_n 0, 1) := by decide +kernel
theorem dL_law_572 : decode cL_law 572 = .ok (.iload_n 3, 1) := by decide +kernel
theorem dL_law_573 : decode cL_law 573 = .ok (.iconst 2, 1) := by decide +kernel
theorem dL_law_574 : decode cL_law 574 = .ok (.iadd, 1) := by decide +kernel
theorem dL_law_575 : decode cL_law 575 = .ok (.iaload, 1) := by decide +kernel
theorem dL_law_576 : decode cL_law 576 = .ok (.invokevirtual 71, 3) := by decide +kernel
theorem dL_law_579 : decode cL_law 579 = .ok (.aload_n 2, 1) := by decide +kernel
theorem dL_law_580 : decode cL_law 580 = .ok (.aload_n 0, 1) := by decide +kernel
theorem dL_law_581 : decode cL_law 581 = .ok (.iload_n 3, 1) := by decide +kernel
theorem dL_law_582 : decode cL_law 582 = .ok (.iconst 1, 1) := by decide +kernel
theorem dL_law_583 : decode cL_law 583 = .ok (.iadd, 1) := by decide +kernel
theorem dL_law_584 : decode cL_law 584 = .ok (.iaload, 1) := by decide +kernel
theorem dL_law_585 : decode cL_law 585 = .ok (.aload_n 0, 1) := by decide +kernel
theorem dL_law_586 : decode cL_law 586 = .ok (.iload_n 3, 1) := by decide +kernel
theorem dL_law_587 : decode cL_law 587 = .ok (.iconst 2, 1) := by decide +kernel
theorem dL_law_588 : decode cL_law 588 = .ok (.iadd, 1) := by decide +kernel
theorem dL_law_589 : decode cL_law 589 = .ok (.iaload, 1) := by decide +kernel
theorem dL_law_590 : decode cL_law 590 = .ok (.invokevirtual 75, 3) := by decide +kernel
theorem dL_law_593 : decode cL_law 593 = .ok (.if_icmp .eq 862, 3) := by decide +kernel
theorem dL_law_596 : decode cL_law 596 = .ok (.iconst 0, 1) := by decide +kernel
theorem dL_law_597 : decode cL_law 597 = .ok (.ireturn, 1) := by decide +kernel
theorem dL_law_598 : decode cL_law 598 = .ok (.aload_n 1, 1) := by decide +kernel
theorem dL_law_599 : decode cL_law 599 = .ok (.invokevirtual 76, 3) := by decide +kernel
theorem dL_law_602 : decode cL_law 602 = .ok (.aload_n 2, 1) := by decide +kernel
theorem dL_law_603 : decode cL_law 603 = .ok (.invokevirtual 79, 3) := by decide +kernel
theorem dL_law_606 : decode cL_law 606 = .ok (.if_icmp .eq 849, 3) := by decide +kernel
theorem dL_law_609 : decode cL_law 609 = .ok (.iconst 0, 1) := by decide +kernel
theorem dL_law_610 : decode cL_law 610 = .ok (.ireturn, 1) := by decide +kernel
theorem dL_law_611 : decode cL_law 611 = .ok (.aload_n 1, 1) := by decide +kernel
theorem dL_law_612 : decode cL_law 612 = .ok (.aload_n 0, 1) := by decide +kernel
theorem dL_law_613 : decode cL_law 613 = .ok (.iload_n 3, 1) := by decide +kernel
theorem dL_law_614 : decode cL_law 614 = .ok (.iconst 1, 1) := by decide +kernel
theorem dL_law_615 : decode cL_law 615 = .ok (.iadd, 1) := by decide +kernel
theorem dL_law_616 : decode cL_law 616 = .ok (.iaload, 1) := by decide +kernel
theorem dL_law_617 : decode cL_law 617 = .ok (.aload_n 0, 1) := by decide +kernel
theorem dL_law_618 : decode cL_law 618 = .ok (.iload_n 3, 1) := by decide +kernel
theorem dL_law_619 : decode cL_law 619 = .ok (.iconst 2, 1) := by decide +kernel
theorem dL_law_620 : decode cL_law 620 = .ok (.iadd, 1) := by decide +kernel
theorem dL_law_621 : decode cL_law 621 = .ok (.iaload, 1) := by decide +kernel
theorem dL_law_622 : decode cL_law 622 = .ok (.invokevirtual 80, 3) := by decide +kernel
theorem dL_law_625 : decode cL_law 625 = .ok (.aload_n 2, 1) := by decide +kernel
theorem dL_law_626 : decode cL_law 626 = .ok (.aload_n 0, 1) := by decide +kernel
theorem dL_law_627 : decode cL_law 627 = .ok (.iload_n 3, 1) := by decide +kernel
theorem dL_law_628 : decode cL_law 628 = .ok (.iconst 1, 1) := by decide +kernel
theorem dL_law_629 : decode cL_law 629 = .ok (.iadd, 1) := by decide +kernel
theorem dL_law_630 : decode cL_law 630 = .ok (.iaload, 1) := by decide +kernel
theorem dL_law_631 : decode cL_law 631 = .ok (.aload_n 0, 1) := by decide +kernel
theorem dL_law_632 : decode cL_law 632 = .ok (.iload_n 3, 1) := by decide +kernel
theorem dL_law_633 : decode cL_law 633 = .ok (.iconst 2, 1) := by decide +kernel
theorem dL_law_634 : decode cL_law 634 = .ok (.iadd, 1) := by decide +kernel
theorem dL_law_635 : decode cL_law 635 = .ok (.iaload, 1) := by decide +kernel
theorem dL_law_636 : decode cL_law 636 = .ok (.invokevirtual 83, 3) := by decide +kernel
theorem dL_law_639 : decode cL_law 639 = .ok (.if_icmp .eq 816, 3) := by decide +kernel
theorem dL_law_642 : decode cL_law 642 = .ok (.iconst 0, 1) := by decide +kernel
theorem dL_law_643 : decode cL_law 643 = .ok (.ireturn, 1) := by decide +kernel
theorem dL_law_644 : decode cL_law 644 = .ok (.aload_n 1, 1) := by decide +kernel
theorem dL_law_645 : decode cL_law 645 = .ok (.aload_n 0, 1) := by decide +kernel
theorem dL_law_646 : decode cL_law 646 = .ok (.iload_n 3, 1) := by decide +kernel
theorem dL_law_647 : decode cL_law 647 = .ok (.iconst 1, 1) := by decide +kernel
theorem dL_law_648 : decode cL_law 648 = .ok (.iadd, 1) := by decide +kernel
theorem dL_law_649 : decode cL_law 649 = .ok (.iaload, 1) := by decide +kernel
theorem dL_law_650 : decode cL_law 650 = .ok (.invokevirtual 84, 3) := by decide +kernel
theorem dL_law_653 : decode cL_law 653 = .ok (.aload_n 2, 1) := by decide +kernel
theorem dL_law_654 : decode cL_law 654 = .ok (.aload_n 0, 1) := by decide +kernel
theorem dL_law_655 : decode cL_law 655 = .ok (.iload_n 3, 1) := by decide +kernel
theorem dL_law_656 : decode cL_law 656 = .ok (.iconst 1, 1) := by decide +kernel
theorem dL_law_657 : decode cL_law 657 = .ok (.iadd, 1) := by decide +kernel
theorem dL_law_658 : decode cL_law 658 = .ok (.iaload, 1) := by decide +kernel
theorem dL_law_659 : decode cL_law 659 = .ok (.invokevirtual 87, 3) := by decide +kernel
theorem dL_law_662 : decode cL_law 662 = .ok (.if_icmp .eq 793, 3) := by decide +kernel
theorem dL_law_665 : decode cL_law 665 = .ok (.iconst 0, 1) := by decide +kernel
theorem dL_law_666 : decode cL_law 666 = .ok (.ireturn, 1) := by decide +kernel
theorem dL_law_667 : decode cL_law 667 = .ok (.aload_n 1, 1) := by decide +kernel
theorem dL_law_668 : decode cL_law 668 = .ok (.aload_n 0, 1) := by decide +kernel
theorem dL_law_669 : decode cL_law 669 = .ok (.iload_n 3, 1) := by decide +kernel
theorem dL_law_670 : decode cL_law 670 = .ok (.iconst 1, 1) := by decide +kernel
theorem dL_law_671 : decode cL_law 671 = .ok (.iadd, 1) := by decide +kernel
theorem dL_law_672 : decode cL_law 672 = .ok (.iaload, 1) := by decide +kernel
theorem dL_law_673 : decode cL_law 673 = .ok (.aload_n 0, 1) := by decide +kernel
theorem dL_law_674 : decode cL_law 674 = .ok (.iload_n 3, 1) := by decide +kernel
theorem dL_law_675 : decode cL_law 675 = .ok (.iconst 2, 1) := by decide +kernel
theorem dL_law_676 : decode cL_law 676 = .ok (.iadd, 1) := by decide +kernel
theorem dL_law_677 : decode cL_law 677 = .ok (.iaload, 1) := by decide +kernel
theorem dL_law_678 : decode cL_law 678 = .ok (.invokevirtual 88, 3) := by decide +kernel
theorem dL_law_681 : decode cL_law 681 = .ok (.aload_n 2, 1) := by decide +kernel
theorem dL_law_682 : decode cL_law 682 = .ok (.aload_n 0, 1) := by decide +kernel
theorem dL_law_683 : decode cL_law 683 = .ok (.iload_n 3, 1) := by decide +kernel
theorem dL_law_684 : decode cL_law 684 = .ok (.iconst 1, 1) := by decide +kernel
theorem dL_law_685 : decode cL_law 685 = .ok (.iadd, 1) := by decide +kernel
theorem dL_law_686 : decode cL_law 686 = .ok (.iaload, 1) := by decide +kernel
theorem dL_law_687 : decode cL_law 687 = .ok (.aload_n 0, 1) := by decide +kernel
theorem dL_law_688 : decode cL_law 688 = .ok (.iload_n 3, 1) := by decide +kernel
theorem dL_law_689 : decode cL_law 689 = .ok (.iconst 2, 1) := by decide +kernel
theorem dL_law_690 : decode cL_law 690 = .ok (.iadd, 1) := by decide +kernel
theorem dL_law_691 : decode cL_law 691 = .ok (.iaload, 1) := by decide +kernel
theorem dL_law_692 : decode cL_law 692 = .ok (.invokevirtual 91, 3) := by decide +kernel
theorem dL_law_695 : decode cL_law 695 = .ok (.if_icmp .eq 760, 3) := by decide +kernel
theorem dL_law_698 : decode cL_law 698 = .ok (.iconst 0, 1) := by decide +kernel
theorem dL_law_699 : decode cL_law 699 = .ok (.ireturn, 1) := by decide +kernel
theorem dL_law_700 : decode cL_law 700 = .ok (.aload_n 1, 1) := by decide +kernel
theorem dL_law_701 : decode cL_law 701 = .ok (.aload_n 0, 1) := by decide +kernel
theorem dL_law_702 : decode cL_law 702 = .ok (.iload_n 3, 1) := by decide +kernel
theorem dL_law_703 : decode cL_law 703 = .ok (.iconst 1, 1) := by decide +kernel
theorem dL_law_704 : decode cL_law 704 = .ok (.iadd, 1) := by decide +kernel
theorem dL_law_705 : decode cL_law 705 = .ok (.iaload, 1) := by decide +kernel
theorem dL_law_706 : decode cL_law 706 = .ok (.aload_n 0, 1) := by decide +kernel
theorem dL_law_707 : decode cL_law 707 = .ok (.iload_n 3, 1) := by decide +kernel
theorem dL_law_708 : decode cL_law 708 = .ok (.iconst 2, 1) := by decide +kernel
theorem dL_law_709 : decode cL_law 709 = .ok (.iadd, 1) := by decide +kernel
theorem dL_law_710 : decode cL_law 710 = .ok (.iaload, 1) := by decide +kernel
theorem dL_law_711 : decode cL_law 711 = .ok (.invokevirtual 92, 3) := by decide +kernel
theorem dL_law_714 : decode cL_law 714 = .ok (.aload_n 2, 1) := by decide +kernel
theorem dL_law_715 : decode cL_law 715 = .ok (.aload_n 0, 1) := by decide +kernel
theorem dL_law_716 : decode cL_law 716 = .ok (.iload_n 3, 1) := by decide +kernel
theorem dL_law_717 : decode cL_law 717 = .ok (.iconst 1, 1) := by decide +kernel
theorem dL_law_718 : decode cL_law 718 = .ok (.iadd, 1) := by decide +kernel
theorem dL_law_719 : decode cL_law 719 = .ok (.iaload, 1) := by decide +kernel
theorem dL_law_720 : decode cL_law 720 = .ok (.aload_n 0, 1) := by decide +kernel
theorem dL_law_721 : decode cL_law 721 = .ok (.iload_n 3, 1) := by decide +kernel
theorem dL_law_722 : decode cL_law 722 = .ok (.iconst 2, 1) := by decide +kernel
theorem dL_law_723 : decode cL_law 723 = .ok (.iadd, 1) := by decide +kernel
theorem dL_law_724 : decode cL_law 724 = .ok (.iaload, 1) := by decide +kernel
theorem dL_law_725 : decode cL_law 725 = .ok (.invokevirtual 95, 3) := by decide +kernel
theorem dL_law_728 : decode cL_law 728 = .ok (.if_icmp .eq 727, 3) := by decide +kernel
theorem dL_law_731 : decode cL_law 731 = .ok (.iconst 0, 1) := by decide +kernel
theorem dL_law_732 : decode cL_law 732 = .ok (.ireturn, 1) := by decide +kernel
theorem dL_law_733 : decode cL_law 733 = .ok (.aload_n 1, 1) := by decide +kernel
theorem dL_law_734 : decode cL_law 734 = .ok (.aload_n 0, 1) := by decide +kernel
theorem dL_law_735 : decode cL_law 735 = .ok (.iload_n 3, 1) := by decide +kernel
theorem dL_law_736 : decode cL_law 736 = .ok (.iconst 1, 1) := by decide +kernel
theorem dL_law_737 : decode cL_law 737 = .ok (.iadd, 1) := by decide +kernel
theorem dL_law_738 : decode cL_law 738 = .ok (.iaload, 1) := by decide +kernel
theorem dL_law_739 : decode cL_law 739 = .ok (.aload_n 0, 1) := by decide +kernel
theorem dL_law_740 : decode cL_law 740 = .ok (.iload_n 3, 1) := by decide +kernel
theorem dL_law_741 : decode cL_law 741 = .ok (.iconst 2, 1) := by decide +kernel
theorem dL_law_742 : decode cL_law 742 = .ok (.iadd, 1) := by decide +kernel
theorem dL_law_743 : decode cL_law 743 = .ok (.iaload, 1) := by decide +kernel
theorem dL_law_744 : decode cL_law 744 = .ok (.aload_n 0, 1) := by decide +kernel
theorem dL_law_745 : decode cL_law 745 = .ok (.iload_n 3, 1) := by decide +kernel
theorem dL_law_746 : decode cL_law 746 = .ok (.iconst 3, 1) := by decide +kernel
theorem dL_law_747 : decode cL_law 747 = .ok (.iadd, 1) := by decide +kernel
theorem dL_law_748 : decode cL_law 748 = .ok (.iaload, 1) := by decide +kernel
theorem dL_law_749 : decode cL_law 749 = .ok (.aload_n 0, 1) := by decide +kernel
theorem dL_law_750 : decode cL_law 750 = .ok (.iload_n 3, 1) := by decide +kernel
theorem dL_law_751 : decode cL_law 751 = .ok (.iconst 4, 1) := by decide +kernel
theorem dL_law_752 : decode cL_law 752 = .ok (.iadd, 1) := by decide +kernel
theorem dL_law_753 : decode cL_law 753 = .ok (.iaload, 1) := by decide +kernel
theorem dL_law_754 : decode cL_law 754 = .ok (.invokevirtual 96, 3) := by decide +kernel
theorem dL_law_757 : decode cL_law 757 = .ok (.aload_n 2, 1) := by decide +kernel
theorem dL_law_758 : decode cL_law 758 = .ok (.aload_n 0, 1) := by decide +kernel
theorem dL_law_759 : decode cL_law 759 = .ok (.iload_n 3, 1) := by decide +kernel
theorem dL_law_760 : decode cL_law 760 = .ok (.iconst 1, 1) := by decide +kernel
theorem dL_law_761 : decode cL_law 761 = .ok (.iadd, 1) := by decide +kernel
theorem dL_law_762 : decode cL_law 762 = .ok (.iaload, 1) := by decide +kernel
theorem dL_law_763 : decode cL_law 763 = .ok (.aload_n 0, 1) := by decide +kernel
theorem dL_law_764 : decode cL_law 764 = .ok (.iload_n 3, 1) := by decide +kernel
theorem dL_law_765 : decode cL_law 765 = .ok (.iconst 2, 1) := by decide +kernel
theorem dL_law_766 : decode cL_law 766 = .ok (.iadd, 1) := by decide +kernel
theorem dL_law_767 : decode cL_law 767 = .ok (.iaload, 1) := by decide +kernel
theorem dL_law_768 : decode cL_law 768 = .ok (.aload_n 0, 1) := by decide +kernel
theorem dL_law_769 : decode cL_law 769 = .ok (.iload_n 3, 1) := by decide +kernel
theorem dL_law_770 : decode cL_law 770 = .ok (.iconst 3, 1) := by decide +kernel
theorem dL_law_771 : decode cL_law 771 = .ok (.iadd, 1) := by decide +kernel
theorem dL_law_772 : decode cL_law 772 = .ok (.iaload, 1) := by decide +kernel
theorem dL_law_773 : decode cL_law 773 = .ok (.aload_n 0, 1) := by decide +kernel
theorem dL_law_774 : decode cL_law 774 = .ok (.iload_n 3, 1) := by decide +kernel
theorem dL_law_775 : decode cL_law 775 = .ok (.iconst 4, 1) := by decide +kernel
theorem dL_law_776 : decode cL_law 776 = .ok (.iadd, 1) := by decide +kernel
theorem dL_law_777 : decode cL_law 777 = .ok (.iaload, 1) := by decide +kernel
theorem dL_law_778 : decode cL_law 778 = .ok (.invokevirtual 99, 3) := by decide +kernel
theorem dL_law_781 : decode cL_law 781 = .ok (.if_icmp .eq 674, 3) := by decide +kernel
theorem dL_law_784 : decode cL_law 784 = .ok (.iconst 0, 1) := by decide +kernel
theorem dL_law_785 : decode cL_law 785 = .ok (.ireturn, 1) := by decide +kernel
theorem dL_law_786 : decode cL_law 786 = .ok (.aload_n 1, 1) := by decide +kernel
theorem dL_law_787 : decode cL_law 787 = .ok (.aload_n 0, 1) := by decide +kernel
theorem dL_law_788 : decode cL_law 788 = .ok (.iload_n 3, 1) := by decide +kernel
theorem dL_law_789 : decode cL_law 789 = .ok (.iconst 1, 1) := by decide +kernel
theorem dL_law_790 : decode cL_law 790 = .ok (.iadd, 1) := by decide +kernel
theorem dL_law_791 : decode cL_law 791 = .ok (.iaload, 1) := by decide +kernel
theorem dL_law_792 : decode cL_law 792 = .ok (.aload_n 0, 1) := by decide +kernel
theorem dL_law_793 : decode cL_law 793 = .ok (.iload_n 3, 1) := by decide +kernel
theorem dL_law_794 : decode cL_law 794 = .ok (.iconst 2, 1) := by decide +kernel
theorem dL_law_795 : decode cL_law 795 = .ok (.iadd, 1) := by decide +kernel
theorem dL_law_796 : decode cL_law 796 = .ok (.iaload, 1) := by decide +kernel
theorem dL_law_797 : decode cL_law 797 = .ok (.ifCond .eq 7, 3) := by decide +kernel
theorem dL_law_800 : decode cL_law 800 = .ok (.iconst 1, 1) := by decide +kernel
theorem dL_law_801 : decode cL_law 801 = .ok (.goto 4, 3) := by decide +kernel
theorem dL_law_804 : decode cL_law 804 = .ok (.iconst 0, 1) := by decide +kernel
theorem dL_law_805 : decode cL_law 805 = .ok (.aload_n 0, 1) := by decide +kernel
theorem dL_law_806 : decode cL_law 806 = .ok (.iload_n 3, 1) := by decide +kernel
theorem dL_law_807 : decode cL_law 807 = .ok (.iconst 3, 1) := by decide +kernel
theorem dL_law_808 : decode cL_law 808 = .ok (.iadd, 1) := by decide +kernel
theorem dL_law_809 : decode cL_law 809 = .ok (.iaload, 1) := by decide +kernel
theorem dL_law_810 : decode cL_law 810 = .ok (.invokevirtual 100, 3) := by decide +kernel
theorem dL_law_813 : decode cL_law 813 = .ok (.aload_n 2, 1) := by decide +kernel
theorem dL_law_814 : decode cL_law 814 = .ok (.aload_n 0, 1) := by decide +kernel
theorem dL_law_815 : decode cL_law 815 = .ok (.iload_n 3, 1) := by decide +kernel
theorem dL_law_816 : decode cL_law 816 = .ok (.iconst 1, 1) := by decide +kernel
theorem dL_law_817 : decode cL_law 817 = .ok (.iadd, 1) := by decide +kernel
theorem dL_law_818 : decode cL_law 818 = .ok (.iaload, 1) := by decide +kernel
theorem dL_law_819 : decode cL_law 819 = .ok (.aload_n 0, 1) := by decide +kernel
theorem dL_law_820 : decode cL_law 820 = .ok (.iload_n 3, 1) := by decide +kernel
theorem dL_law_821 : decode cL_law 821 = .ok (.iconst 2, 1) := by decide +kernel
theorem dL_law_822 : decode cL_law 822 = .ok (.iadd, 1) := by decide +kernel
theorem dL_law_823 : decode cL_law 823 = .ok (.iaload, 1) := by decide +kernel
theorem dL_law_824 : decode cL_law 824 = .ok (.ifCond .eq 7, 3) := by decide +kernel
theorem dL_law_827 : decode cL_law 827 = .ok (.iconst 1, 1) := by decide +kernel
theorem dL_law_828 : decode cL_law 828 = .ok (.goto 4, 3) := by decide +kernel
theorem dL_law_831 : decode cL_law 831 = .ok (.iconst 0, 1) := by decide +kernel
theorem dL_law_832 : decode cL_law 832 = .ok (.aload_n 0, 1) := by decide +kernel
theorem dL_law_833 : decode cL_law 833 = .ok (.iload_n 3, 1) := by decide +kernel
theorem dL_law_834 : decode cL_law 834 = .ok (.iconst 3, 1) := by decide +kernel
theorem dL_law_835 : decode cL_law 835 = .ok (.iadd, 1) := by decide +kernel
theorem dL_law_836 : decode cL_law 836 = .ok (.iaload, 1) := by decide +kernel
theorem dL_law_837 : decode cL_law 837 = .ok (.invokevirtual 104, 3) := by decide +kernel
theorem dL_law_840 : decode cL_law 840 = .ok (.if_icmp .eq 615, 3) := by decide +kernel
theorem dL_law_843 : decode cL_law 843 = .ok (.iconst 0, 1) := by decide +kernel
theorem dL_law_844 : decode cL_law 844 = .ok (.ireturn, 1) := by decide +kernel
theorem dL_law_845 : decode cL_law 845 = .ok (.aload_n 1, 1) := by decide +kernel
theorem dL_law_846 : decode cL_law 846 = .ok (.aload_n 0, 1) := by decide +kernel
theorem dL_law_847 : decode cL_law 847 = .ok (.iload_n 3, 1) := by decide +kernel
theorem dL_law_848 : decode cL_law 848 = .ok (.iconst 1, 1) := by decide +kernel
theorem dL_law_849 : decode cL_law 849 = .ok (.iadd, 1) := by decide +kernel
theorem dL_law_850 : decode cL_law 850 = .ok (.iaload, 1) := by decide +kernel
theorem dL_law_851 : decode cL_law 851 = .ok (.invokevirtual 105, 3) := by decide +kernel
theorem dL_law_854 : decode cL_law 854 = .ok (.aload_n 2, 1) := by decide +kernel
theorem dL_law_855 : decode cL_law 855 = .ok (.aload_n 0, 1) := by decide +kernel
theorem dL_law_856 : decode cL_law 856 = .ok (.iload_n 3, 1) := by decide +kernel
theorem dL_law_857 : decode cL_law 857 = .ok (.iconst 1, 1) := by decide +kernel
theorem dL_law_858 : decode cL_law 858 = .ok (.iadd, 1) := by decide +kernel
theorem dL_law_859 : decode cL_law 859 = .ok (.iaload, 1) := by decide +kernel
theorem dL_law_860 : decode cL_law 860 = .ok (.invokevirtual 108, 3) := by decide +kernel
theorem dL_law_863 : decode cL_law 863 = .ok (.if_icmp .eq 592, 3) := by decide +kernel
theorem dL_law_866 : decode cL_law 866 = .ok (.iconst 0, 1) := by decide +kernel
theorem dL_law_867 : decode cL_law 867 = .ok (.ireturn, 1) := by decide +kernel
theorem dL_law_868 : decode cL_law 868 = .ok (.aload_n 1, 1) := by decide +kernel
theorem dL_law_869 : decode cL_law 869 = .ok (.aload_n 0, 1) := by decide +kernel
theorem dL_law_870 : decode cL_law 870 = .ok (.iload_n 3, 1) := by decide +kernel
theorem dL_law_871 : decode cL_law 871 = .ok (.iconst 1, 1) := by decide +kernel
theorem dL_law_872 : decode cL_law 872 = .ok (.iadd, 1) := by decide +kernel
theorem dL_law_873 : decode cL_law 873 = .ok (.iaload, 1) := by decide +kernel
theorem dL_law_874 : decode cL_law 874 = .ok (.ifCond .eq 7, 3) := by decide +kernel
theorem dL_law_877 : decode cL_law 877 = .ok (.iconst 1, 1) := by decide +kernel
theorem dL_law_878 : decode cL_law 878 = .ok (.goto 4, 3) := by decide +kernel
theorem dL_law_881 : decode cL_law 881 = .ok (.iconst 0, 1) := by decide +kernel
theorem dL_law_882 : decode cL_law 882 = .ok (.invokevirtual 109, 3) := by decide +kernel
theorem dL_law_885 : decode cL_law 885 = .ok (.aload_n 2, 1) := by decide +kernel
theorem dL_law_886 : decode cL_law 886 = .ok (.aload_n 0, 1) := by decide +kernel
theorem dL_law_887 : decode cL_law 887 = .ok (.iload_n 3, 1) := by decide +kernel
theorem dL_law_888 : decode cL_law 888 = .ok (.iconst 1, 1) := by decide +kernel
theorem dL_law_889 : decode cL_law 889 = .ok (.iadd, 1) := by decide +kernel
theorem dL_law_890 : decode cL_law 890 = .ok (.iaload, 1) := by decide +kernel
theorem dL_law_891 : decode cL_law 891 = .ok (.ifCond .eq 7, 3) := by decide +kernel
theorem dL_law_894 : decode cL_law 894 = .ok (.iconst 1, 1) := by decide +kernel
theorem dL_law_895 : decode cL_law 895 = .ok (.goto 4, 3) := by decide +kernel
theorem dL_law_898 : decode cL_law 898 = .ok (.iconst 0, 1) := by decide +kernel
theorem dL_law_899 : decode cL_law 899 = .ok (.invokevirtual 113, 3) := by decide +kernel
theorem dL_law_902 : decode cL_law 902 = .ok (.lcmp, 1) := by decide +kernel
theorem dL_law_903 : decode cL_law 903 = .ok (.ifCond .eq 552, 3) := by decide +kernel
theorem dL_law_906 : decode cL_law 906 = .ok (.iconst 0, 1) := by decide +kernel
theorem dL_law_907 : decode cL_law 907 = .ok (.ireturn, 1) := by decide +kernel
theorem dL_law_908 : decode cL_law 908 = .ok (.aload_n 1, 1) := by decide +kernel
theorem dL_law_909 : decode cL_law 909 = .ok (.aload_n 0, 1) := by decide +kernel
theorem dL_law_910 : decode cL_law 910 = .ok (.iload_n 3, 1) := by decide +kernel
theorem dL_law_911 : decode cL_law 911 = .ok (.iconst 1, 1) := by decide +kernel
theorem dL_law_912 : decode cL_law 912 = .ok (.iadd, 1) := by decide +kernel
theorem dL_law_913 : decode cL_law 913 = .ok (.iaload, 1) := by decide +kernel
theorem dL_law_914 : decode cL_law 914 = .ok (.invokevirtual 114, 3) := by decide +kernel
theorem dL_law_917 : decode cL_law 917 = .ok (.aload_n 2, 1) := by decide +kernel
theorem dL_law_918 : decode cL_law 918 = .ok (.aload_n 0, 1) := by decide +kernel
theorem dL_law_919 : decode cL_law 919 = .ok (.iload_n 3, 1) := by decide +kernel
theorem dL_law_920 : decode cL_law 920 = .ok (.iconst 1, 1) := by decide +kernel
theorem dL_law_921 : decode cL_law 921 = .ok (.iadd, 1) := by decide +kernel
theorem dL_law_922 : decode cL_law 922 = .ok (.iaload, 1) := by decide +kernel
theorem dL_law_923 : decode cL_law 923 = .ok (.invokevirtual 117, 3) := by decide +kernel
theorem dL_law_926 : decode cL_law 926 = .ok (.if_icmp .eq 529, 3) := by decide +kernel
theorem dL_law_929 : decode cL_law 929 = .ok (.iconst 0, 1) := by decide +kernel
theorem dL_law_930 : decode cL_law 930 = .ok (.ireturn, 1) := by decide +kernel
theorem dL_law_931 : decode cL_law 931 = .ok (.aload_n 1, 1) := by decide +kernel
theorem dL_law_932 : decode cL_law 932 = .ok (.aload_n 0, 1) := by decide +kernel
theorem dL_law_933 : decode cL_law 933 = .ok (.iload_n 3, 1) := by decide +kernel
theorem dL_law_934 : decode cL_law 934 = .ok (.iconst 1, 1) := by decide +kernel
theorem dL_law_935 : decode cL_law 935 = .ok (.iadd, 1) := by decide +kernel
theorem dL_law_936 : decode cL_law 936 = .ok (.iaload, 1) := by decide +kernel
theorem dL_law_937 : decode cL_law 937 = .ok (.invokevirtual 118, 3) := by decide +kernel
theorem dL_law_940 : decode cL_law 940 = .ok (.aload_n 2, 1) := by decide +kernel
theorem dL_law_941 : decode cL_law 941 = .ok (.aload_n 0, 1) := by decide +kernel
theorem dL_law_942 : decode cL_law 942 = .ok (.iload_n 3, 1) := by decide +kernel
theorem dL_law_943 : decode cL_law 943 = .ok (.iconst 1, 1) := by decide +kernel
theorem dL_law_944 : decode cL_law 944 = .ok (.iadd, 1) := by decide +kernel
theorem dL_law_945 : decode cL_law 945 = .ok (.iaload, 1) := by decide +kernel
theorem dL_law_946 : decode cL_law 946 = .ok (.invokevirtual 121, 3) := by decide +kernel
theorem dL_law_949 : decode cL_law 949 = .ok (.if_icmp .eq 506, 3) := by decide +kernel
theorem dL_law_952 : decode cL_law 952 = .ok (.iconst 0, 1) := by decide +kernel
theorem dL_law_953 : decode cL_law 953 = .ok (.ireturn, 1) := by decide +kernel
theorem dL_law_954 : decode cL_law 954 = .ok (.aload_n 1, 1) := by decide +kernel
theorem dL_law_955 : decode cL_law 955 = .ok (.aload_n 0, 1) := by decide +kernel
theorem dL_law_956 : decode cL_law 956 = .ok (.iload_n 3, 1) := by decide +kernel
theorem dL_law_957 : decode cL_law 957 = .ok (.iconst 1, 1) := by decide +kernel
theorem dL_law_958 : decode cL_law 958 = .ok (.iadd, 1) := by decide +kernel
theorem dL_law_959 : decode cL_law 959 = .ok (.iaload, 1) := by decide +kernel
theorem dL_law_960 : decode cL_law 960 = .ok (.aload_n 0, 1) := by decide +kernel
theorem dL_law_961 : decode cL_law 961 = .ok (.iload_n 3, 1) := by decide +kernel
theorem dL_law_962 : decode cL_law 962 = .ok (.iconst 2, 1) := by decide +kernel
theorem dL_law_963 : decode cL_law 963 = .ok (.iadd, 1) := by decide +kernel
theorem dL_law_964 : decode cL_law 964 = .ok (.iaload, 1) := by decide +kernel
theorem dL_law_965 : decode cL_law 965 = .ok (.ifCond .eq 7, 3) := by decide +kernel
theorem dL_law_968 : decode cL_law 968 = .ok (.iconst 1, 1) := by decide +kernel
theorem dL_law_969 : decode cL_law 969 = .ok (.goto 4, 3) := by decide +kernel
theorem dL_law_972 : decode cL_law 972 = .ok (.iconst 0, 1) := by decide +kernel
theorem dL_law_973 : decode cL_law 973 = .ok (.aload_n 0, 1) := by decide +kernel
theorem dL_law_974 : decode cL_law 974 = .ok (.iload_n 3, 1) := by decide +kernel
theorem dL_law_975 : decode cL_law 975 = .ok (.iconst 3, 1) := by decide +kernel
theorem dL_law_976 : decode cL_law 976 = .ok (.iadd, 1) := by decide +kernel
theorem dL_law_977 : decode cL_law 977 = .ok (.iaload, 1) := by decide +kernel
theorem dL_law_978 : decode cL_law 978 = .ok (.ifCond .eq 7, 3) := by decide +kernel
theorem dL_law_981 : decode cL_law 981 = .ok (.iconst 1, 1) := by decide +kernel
theorem dL_law_982 : decode cL_law 982 = .ok (.goto 4, 3) := by decide +kernel
theorem dL_law_985 : decode cL_law 985 = .ok (.iconst 0, 1) := by decide +kernel
theorem dL_law_986 : decode cL_law 986 = .ok (.invokevirtual 122, 3) := by decide +kernel
theorem dL_law_989 : decode cL_law 989 = .ok (.aload_n 2, 1) := by decide +kernel
theorem dL_law_990 : decode cL_law 990 = .ok (.aload_n 0, 1) := by decide +kernel
theorem dL_law_991 : decode cL_law 991 = .ok (.iload_n 3, 1) := by decide +kernel
theorem dL_law_992 : decode cL_law 992 = .ok (.iconst 1, 1) := by decide +kernel
theorem dL_law_993 : decode cL_law 993 = .ok (.iadd, 1) := by decide +kernel
theorem dL_law_994 : decode cL_law 994 = .ok (.iaload, 1) := by decide +kernel
theorem dL_law_995 : decode cL_law 995 = .ok (.aload_n 0, 1) := by decide +kernel
theorem dL_law_996 : decode cL_law 996 = .ok (.iload_n 3, 1) := by decide +kernel
theorem dL_law_997 : decode cL_law 997 = .ok (.iconst 2, 1) := by decide +kernel
theorem dL_law_998 : decode cL_law 998 = .ok (.iadd, 1) := by decide +kernel
theorem dL_law_999 : decode cL_law 999 = .ok (.iaload, 1) := by decide +kernel
theorem dL_law_1000 : decode cL_law 1000 = .ok (.ifCond .eq 7, 3) := by decide +kernel
theorem dL_law_1003 : decode cL_law 1003 = .ok (.iconst 1, 1) := by decide +kernel
theorem dL_law_1004 : decode cL_law 1004 = .ok (.goto 4, 3) := by decide +kernel
theorem dL_law_1007 : decode cL_law 1007 = .ok (.iconst 0, 1) := by decide +kernel
theorem dL_law_1008 : decode cL_law 1008 = .ok (.aload_n 0, 1) := by decide +kernel
theorem dL_law_1009 : decode cL_law 1009 = .ok (.iload_n 3, 1) := by decide +kernel
theorem dL_law_1010 : decode cL_law 1010 = .ok (.iconst 3, 1) := by decide +kernel
theorem dL_law_1011 : decode cL_law 1011 = .ok (.iadd, 1) := by decide +kernel
theorem dL_law_1012 : decode cL_law 1012 = .ok (.iaload, 1) := by decide +kernel
theorem dL_law_1013 : decode cL_law 1013 = .ok (.ifCond .eq 7, 3) := by decide +kernel
theorem dL_law_1016 : decode cL_law 1016 = .ok (.iconst 1, 1) := by decide +kernel
theorem dL_law_1017 : decode cL_law 1017 = .ok (.goto 4, 3) := by decide +kernel
theorem dL_law_1020 : decode cL_law 1020 = .ok (.iconst 0, 1) := by decide +kernel
theorem dL_law_1021 : decode cL_law 1021 = .ok (.invokevirtual 126, 3) := by decide +kernel
theorem dL_law_1024 : decode cL_law 1024 = .ok (.if_icmp .eq 431, 3) := by decide +kernel
theorem dL_law_1027 : decode cL_law 1027 = .ok (.iconst 0, 1) := by decide +kernel
theorem dL_law_1028 : decode cL_law 1028 = .ok (.ireturn, 1) := by decide +kernel
theorem dL_law_1029 : decode cL_law 1029 = .ok (.aload_n 1, 1) := by decide +kernel
theorem dL_law_1030 : decode cL_law 1030 = .ok (.aload_n 0, 1) := by decide +kernel
theorem dL_law_1031 : decode cL_law 1031 = .ok (.iload_n 3, 1) := by decide +kernel
theorem dL_law_1032 : decode cL_law 1032 = .ok (.iconst 1, 1) := by decide +kernel
theorem dL_law_1033 : decode cL_law 1033 = .ok (.iadd, 1) := by decide +kernel
theorem dL_law_1034 : decode cL_law 1034 = .ok (.iaload, 1) := by decide +kernel
theorem dL_law_1035 : decode cL_law 1035 = .ok (.aload_n 0, 1) := by decide +kernel
theorem dL_law_1036 : decode cL_law 1036 = .ok (.iload_n 3, 1) := by decide +kernel
theorem dL_law_1037 : decode cL_law 1037 = .ok (.iconst 2, 1) := by decide +kernel
theorem dL_law_1038 : decode cL_law 1038 = .ok (.iadd, 1) := by decide +kernel
theorem dL_law_1039 : decode cL_law 1039 = .ok (.iaload, 1) := by decide +kernel
theorem dL_law_1040 : decode cL_law 1040 = .ok (.invokevirtual 127, 3) := by decide +kernel
theorem dL_law_1043 : decode cL_law 1043 = .ok (.aload_n 2, 1) := by decide +kernel
theorem dL_law_1044 : decode cL_law 1044 = .ok (.aload_n 0, 1) := by decide +kernel
theorem dL_law_1045 : decode cL_law 1045 = .ok (.iload_n 3, 1) := by decide +kernel
theorem dL_law_1046 : decode cL_law 1046 = .ok (.iconst 1, 1) := by decide +kernel
theorem dL_law_1047 : decode cL_law 1047 = .ok (.iadd, 1) := by decide +kernel
theorem dL_law_1048 : decode cL_law 1048 = .ok (.iaload, 1) := by decide +kernel
theorem dL_law_1049 : decode cL_law 1049 = .ok (.aload_n 0, 1) := by decide +kernel
theorem dL_law_1050 : decode cL_law 1050 = .ok (.iload_n 3, 1) := by decide +kernel
theorem dL_law_1051 : decode cL_law 1051 = .ok (.iconst 2, 1) := by decide +kernel
theorem dL_law_1052 : decode cL_law 1052 = .ok (.iadd, 1) := by decide +kernel
theorem dL_law_1053 : decode cL_law 1053 = .ok (.iaload, 1) := by decide +kernel
theorem dL_law_1054 : decode cL_law 1054 = .ok (.invokevirtual 130, 3) := by decide +kernel
theorem dL_law_1057 : decode cL_law 1057 = .ok (.if_icmp .eq 398, 3) := by decide +kernel
theorem dL_law_1060 : decode cL_law 1060 = .ok (.iconst 0, 1) := by decide +kernel
theorem dL_law_1061 : decode cL_law 1061 = .ok (.ireturn, 1) := by decide +kernel
theorem dL_law_1062 : decode cL_law 1062 = .ok (.aload_n 1, 1) := by decide +kernel
theorem dL_law_1063 : decode cL_law 1063 = .ok (.aload_n 0, 1) := by decide +kernel
theorem dL_law_1064 : decode cL_law 1064 = .ok (.iload_n 3, 1) := by decide +kernel
theorem dL_law_1065 : decode cL_law 1065 = .ok (.iconst 1, 1) := by decide +kernel
theorem dL_law_1066 : decode cL_law 1066 = .ok (.iadd, 1) := by decide +kernel
theorem dL_law_1067 : decode cL_law 1067 = .ok (.iaload, 1) := by decide +kernel
theorem dL_law_1068 : decode cL_law 1068 = .ok (.aload_n 0, 1) := by decide +kernel
theorem dL_law_1069 : decode cL_law 1069 = .ok (.iload_n 3, 1) := by decide +kernel
theorem dL_law_1070 : decode cL_law 1070 = .ok (.iconst 2, 1) := by decide +kernel
theorem dL_law_1071 : decode cL_law 1071 = .ok (.iadd, 1) := by decide +kernel
theorem dL_law_1072 : decode cL_law 1072 = .ok (.iaload, 1) := by decide +kernel
theorem dL_law_1073 : decode cL_law 1073 = .ok (.aload_n 0, 1) := by decide +kernel
theorem dL_law_1074 : decode cL_law 1074 = .ok (.iload_n 3, 1) := by decide +kernel
theorem dL_law_1075 : decode cL_law 1075 = .ok (.iconst 3, 1) := by decide +kernel
theorem dL_law_1076 : decode cL_law 1076 = .ok (.iadd, 1) := by decide +kernel
theorem dL_law_1077 : decode cL_law 1077 = .ok (.iaload, 1) := by decide +kernel
theorem dL_law_1078 : decode cL_law 1078 = .ok (.ifCond .eq 7, 3) := by decide +kernel
theorem dL_law_1081 : decode cL_law 1081 = .ok (.iconst 1, 1) := by decide +kernel
theorem dL_law_1082 : decode cL_law 1082 = .ok (.goto 4, 3) := by decide +kernel
theorem dL_law_1085 : decode cL_law 1085 = .ok (.iconst 0, 1) := by decide +kernel
theorem dL_law_1086 : decode cL_law 1086 = .ok (.invokevirtual 131, 3) := by decide +kernel
theorem dL_law_1089 : decode cL_law 1089 = .ok (.aload_n 2, 1) := by decide +kernel
theorem dL_law_1090 : decode cL_law 1090 = .ok (.aload_n 0, 1) := by decide +kernel
theorem dL_law_1091 : decode cL_law 1091 = .ok (.iload_n 3, 1) := by decide +kernel
theorem dL_law_1092 : decode cL_law 1092 = .ok (.iconst 1, 1) := by decide +kernel
theorem dL_law_1093 : decode cL_law 1093 = .ok (.iadd, 1) := by decide +kernel
theorem dL_law_1094 : decode cL_law 1094 = .ok (.iaload, 1) := by decide +kernel
theorem dL_law_1095 : decode cL_law 1095 = .ok (.aload_n 0, 1) := by decide +kernel
theorem dL_law_1096 : decode cL_law 1096 = .ok (.iload_n 3, 1) := by decide +kernel
theorem dL_law_1097 : decode cL_law 1097 = .ok (.iconst 2, 1) := by decide +kernel
theorem dL_law_1098 : decode cL_law 1098 = .ok (.iadd, 1) := by decide +kernel
theorem dL_law_1099 : decode cL_law 1099 = .ok (.iaload, 1) := by decide +kernel
theorem dL_law_1100 : decode cL_law 1100 = .ok (.aload_n 0, 1) := by decide +kernel
theorem dL_law_1101 : decode cL_law 1101 = .ok (.iload_n 3, 1) := by decide +kernel
theorem dL_law_1102 : decode cL_law 1102 = .ok (.iconst 3, 1) := by decide +kernel
theorem dL_law_1103 : decode cL_law 1103 = .ok (.iadd, 1) := by decide +kernel
theorem dL_law_1104 : decode cL_law 1104 = .ok (.iaload, 1) := by decide +kernel
theorem dL_law_1105 : decode cL_law 1105 = .ok (.ifCond .eq 7, 3) := by decide +kernel
theorem dL_law_1108 : decode cL_law 1108 = .ok (.iconst 1, 1) := by decide +kernel
theorem dL_law_1109 : decode cL_law 1109 = .ok (.goto 4, 3) := by decide +kernel
theorem dL_law_1112 : decode cL_law 1112 = .ok (.iconst 0, 1) := by decide +kernel
theorem dL_law_1113 : decode cL_law 1113 = .ok (.invokevirtual 135, 3) := by decide +kernel
theorem dL_law_1116 : decode cL_law 1116 = .ok (.if_icmp .eq 339, 3) := by decide +kernel
theorem dL_law_1119 : decode cL_law 1119 = .ok (.iconst 0, 1) := by decide +kernel
theorem dL_law_1120 : decode cL_law 1120 = .ok (.ireturn, 1) := by decide +kernel
theorem dL_law_1121 : decode cL_law 1121 = .ok (.aload_n 1, 1) := by decide +kernel
theorem dL_law_1122 : decode cL_law 1122 = .ok (.invokevirtual 136, 3) := by decide +kernel
theorem dL_law_1125 : decode cL_law 1125 = .ok (.aload_n 2, 1) := by decide +kernel
theorem dL_law_1126 : decode cL_law 1126 = .ok (.invokevirtual 139, 3) := by decide +kernel
theorem dL_law_1129 : decode cL_law 1129 = .ok (.if_icmp .eq 326, 3) := by decide +kernel
theorem dL_law_1132 : decode cL_law 1132 = .ok (.iconst 0, 1) := by decide +kernel
theorem dL_law_1133 : decode cL_law 1133 = .ok (.ireturn, 1) := by decide +kernel
theorem dL_law_1134 : decode cL_law 1134 = .ok (.aload_n 1, 1) := by decide +kernel
theorem dL_law_1135 : decode cL_law 1135 = .ok (.invokevirtual 140, 3) := by decide +kernel
theorem dL_law_1138 : decode cL_law 1138 = .ok (.aload_n 2, 1) := by decide +kernel
theorem dL_law_1139 : decode cL_law 1139 = .ok (.invokevirtual 143, 3) := by decide +kernel
theorem dL_law_1142 : decode cL_law 1142 = .ok (.if_icmp .eq 313, 3) := by decide +kernel
theorem dL_law_1145 : decode cL_law 1145 = .ok (.iconst 0, 1) := by decide +kernel
theorem dL_law_1146 : decode cL_law 1146 = .ok (.ireturn, 1) := by decide +kernel
theorem dL_law_1147 : decode cL_law 1147 = .ok (.aload_n 1, 1) := by decide +kernel
theorem dL_law_1148 : decode cL_law 1148 = .ok (.invokevirtual 144, 3) := by decide +kernel
theorem dL_law_1151 : decode cL_law 1151 = .ok (.aload_n 2, 1) := by decide +kernel
theorem dL_law_1152 : decode cL_law 1152 = .ok (.invokevirtual 147, 3) := by decide +kernel
theorem dL_law_1155 : decode cL_law 1155 = .ok (.if_icmp .eq 300, 3) := by decide +kernel
theorem dL_law_1158 : decode cL_law 1158 = .ok (.iconst 0, 1) := by decide +kernel
theorem dL_law_1159 : decode cL_law 1159 = .ok (.ireturn, 1) := by decide +kernel
theorem dL_law_1160 : decode cL_law 1160 = .ok (.aload_n 1, 1) := by decide +kernel
theorem dL_law_1161 : decode cL_law 1161 = .ok (.aload_n 0, 1) := by decide +kernel
theorem dL_law_1162 : decode cL_law 1162 = .ok (.iload_n 3, 1) := by decide +kernel
theorem dL_law_1163 : decode cL_law 1163 = .ok (.iconst 1, 1) := by decide +kernel
theorem dL_law_1164 : decode cL_law 1164 = .ok (.iadd, 1) := by decide +kernel
theorem dL_law_1165 : decode cL_law 1165 = .ok (.iaload, 1) := by decide +kernel
theorem dL_law_1166 : decode cL_law 1166 = .ok (.aload_n 0, 1) := by decide +kernel
theorem dL_law_1167 : decode cL_law 1167 = .ok (.iload_n 3, 1) := by decide +kernel
theorem dL_law_1168 : decode cL_law 1168 = .ok (.iconst 2, 1) := by decide +kernel
theorem dL_law_1169 : decode cL_law 1169 = .ok (.iadd, 1) := by decide +kernel
theorem dL_law_1170 : decode cL_law 1170 = .ok (.iaload, 1) := by decide +kernel
theorem dL_law_1171 : decode cL_law 1171 = .ok (.ifCond .eq 7, 3) := by decide +kernel
theorem dL_law_1174 : decode cL_law 1174 = .ok (.iconst 1, 1) := by decide +kernel
theorem dL_law_1175 : decode cL_law 1175 = .ok (.goto 4, 3) := by decide +kernel
theorem dL_law_1178 : decode cL_law 1178 = .ok (.iconst 0, 1) := by decide +kernel
theorem dL_law_1179 : decode cL_law 1179 = .ok (.invokevirtual 148, 3) := by decide +kernel
theorem dL_law_1182 : decode cL_law 1182 = .ok (.aload_n 2, 1) := by decide +kernel
theorem dL_law_1183 : decode cL_law 1183 = .ok (.aload_n 0, 1) := by decide +kernel
theorem dL_law_1184 : decode cL_law 1184 = .ok (.iload_n 3, 1) := by decide +kernel
theorem dL_law_1185 : decode cL_law 1185 = .ok (.iconst 1, 1) := by decide +kernel
theorem dL_law_1186 : decode cL_law 1186 = .ok (.iadd, 1) := by decide +kernel
theorem dL_law_1187 : decode cL_law 1187 = .ok (.iaload, 1) := by decide +kernel
theorem dL_law_1188 : decode cL_law 1188 = .ok (.aload_n 0, 1) := by decide +kernel
theorem dL_law_1189 : decode cL_law 1189 = .ok (.iload_n 3, 1) := by decide +kernel
theorem dL_law_1190 : decode cL_law 1190 = .ok (.iconst 2, 1) := by decide +kernel
theorem dL_law_1191 : decode cL_law 1191 = .ok (.iadd, 1) := by decide +kernel
theorem dL_law_1192 : decode cL_law 1192 = .ok (.iaload, 1) := by decide +kernel
theorem dL_law_1193 : decode cL_law 1193 = .ok (.ifCond .eq 7, 3) := by decide +kernel
theorem dL_law_1196 : decode cL_law 1196 = .ok (.iconst 1, 1) := by decide +kernel
theorem dL_law_1197 : decode cL_law 1197 = .ok (.goto 4, 3) := by decide +kernel
theorem dL_law_1200 : decode cL_law 1200 = .ok (.iconst 0, 1) := by decide +kernel
theorem dL_law_1201 : decode cL_law 1201 = .ok (.invokevirtual 152, 3) := by decide +kernel
theorem dL_law_1204 : decode cL_law 1204 = .ok (.if_icmp .eq 251, 3) := by decide +kernel
theorem dL_law_1207 : decode cL_law 1207 = .ok (.iconst 0, 1) := by decide +kernel
theorem dL_law_1208 : decode cL_law 1208 = .ok (.ireturn, 1) := by decide +kernel
theorem dL_law_1209 : decode cL_law 1209 = .ok (.aload_n 1, 1) := by decide +kernel
theorem dL_law_1210 : decode cL_law 1210 = .ok (.aload_n 0, 1) := by decide +kernel
theorem dL_law_1211 : decode cL_law 1211 = .ok (.iload_n 3, 1) := by decide +kernel
theorem dL_law_1212 : decode cL_law 1212 = .ok (.iconst 1, 1) := by decide +kernel
theorem dL_law_1213 : decode cL_law 1213 = .ok (.iadd, 1) := by decide +kernel
theorem dL_law_1214 : decode cL_law 1214 = .ok (.iaload, 1) := by decide +kernel
theorem dL_law_1215 : decode cL_law 1215 = .ok (.invokevirtual 153, 3) := by decide +kernel
theorem dL_law_1218 : decode cL_law 1218 = .ok (.aload_n 2, 1) := by decide +kernel
theorem dL_law_1219 : decode cL_law 1219 = .ok (.aload_n 0, 1) := by decide +kernel
theorem dL_law_1220 : decode cL_law 1220 = .ok (.iload_n 3, 1) := by decide +kernel
theorem dL_law_1221 : decode cL_law 1221 = .ok (.iconst 1, 1) := by decide +kernel
theorem dL_law_1222 : decode cL_law 1222 = .ok (.iadd, 1) := by decide +kernel
theorem dL_law_1223 : decode cL_law 1223 = .ok (.iaload, 1) := by decide +kernel
theorem dL_law_1224 : decode cL_law 1224 = .ok (.invokevirtual 156, 3) := by decide +kernel
theorem dL_law_1227 : decode cL_law 1227 = .ok (.if_icmp .eq 228, 3) := by decide +kernel
theorem dL_law_1230 : decode cL_law 1230 = .ok (.iconst 0, 1) := by decide +kernel
theorem dL_law_1231 : decode cL_law 1231 = .ok (.ireturn, 1) := by decide +kernel
theorem dL_law_1232 : decode cL_law 1232 = .ok (.aload_n 1, 1) := by decide +kernel
theorem dL_law_1233 : decode cL_law 1233 = .ok (.aload_n 0, 1) := by decide +kernel
theorem dL_law_1234 : decode cL_law 1234 = .ok (.iload_n 3, 1) := by decide +kernel
theorem dL_law_1235 : decode cL_law 1235 = .ok (.iconst 1, 1) := by decide +kernel
theorem dL_law_1236 : decode cL_law 1236 = .ok (.iadd, 1) := by decide +kernel
theorem dL_law_1237 : decode cL_law 1237 = .ok (.iaload, 1) := by decide +kernel
theorem dL_law_1238 : decode cL_law 1238 = .ok (.invokevirtual 157, 3) := by decide +kernel
theorem dL_law_1241 : decode cL_law 1241 = .ok (.aload_n 2, 1) := by decide +kernel
theorem dL_law_1242 : decode cL_law 1242 = .ok (.aload_n 0, 1) := by decide +kernel
theorem dL_law_1243 : decode cL_law 1243 = .ok (.iload_n 3, 1) := by decide +kernel
theorem dL_law_1244 : decode cL_law 1244 = .ok (.iconst 1, 1) := by decide +kernel
theorem dL_law_1245 : decode cL_law 1245 = .ok (.iadd, 1) := by decide +kernel
theorem dL_law_1246 : decode cL_law 1246 = .ok (.iaload, 1) := by decide +kernel
theorem dL_law_1247 : decode cL_law 1247 = .ok (.invokevirtual 160, 3) := by decide +kernel
theorem dL_law_1250 : decode cL_law 1250 = .ok (.if_icmp .eq 205, 3) := by decide +kernel
theorem dL_law_1253 : decode cL_law 1253 = .ok (.iconst 0, 1) := by decide +kernel
theorem dL_law_1254 : decode cL_law 1254 = .ok (.ireturn, 1) := by decide +kernel
theorem dL_law_1255 : decode cL_law 1255 = .ok (.aload_n 1, 1) := by decide +kernel
theorem dL_law_1256 : decode cL_law 1256 = .ok (.invokevirtual 161, 3) := by decide +kernel
theorem dL_law_1259 : decode cL_law 1259 = .ok (.aload_n 2, 1) := by decide +kernel
theorem dL_law_1260 : decode cL_law 1260 = .ok (.invokevirtual 164, 3) := by decide +kernel
theorem dL_law_1263 : decode cL_law 1263 = .ok (.if_icmp .eq 192, 3) := by decide +kernel
theorem dL_law_1266 : decode cL_law 1266 = .ok (.iconst 0, 1) := by decide +kernel
theorem dL_law_1267 : decode cL_law 1267 = .ok (.ireturn, 1) := by decide +kernel
theorem dL_law_1268 : decode cL_law 1268 = .ok (.aload_n 1, 1) := by decide +kernel
theorem dL_law_1269 : decode cL_law 1269 = .ok (.aload_n 0, 1) := by decide +kernel
theorem dL_law_1270 : decode cL_law 1270 = .ok (.iload_n 3, 1) := by decide +kernel
theorem dL_law_1271 : decode cL_law 1271 = .ok (.iconst 1, 1) := by decide +kernel
theorem dL_law_1272 : decode cL_law 1272 = .ok (.iadd, 1) := by decide +kernel
theorem dL_law_1273 : decode cL_law 1273 = .ok (.iaload, 1) := by decide +kernel
theorem dL_law_1274 : decode cL_law 1274 = .ok (.aload_n 0, 1) := by decide +kernel
theorem dL_law_1275 : decode cL_law 1275 = .ok (.iload_n 3, 1) := by decide +kernel
theorem dL_law_1276 : decode cL_law 1276 = .ok (.iconst 2, 1) := by decide +kernel
theorem dL_law_1277 : decode cL_law 1277 = .ok (.iadd, 1) := by decide +kernel
theorem dL_law_1278 : decode cL_law 1278 = .ok (.iaload, 1) := by decide +kernel
theorem dL_law_1279 : decode cL_law 1279 = .ok (.invokevirtual 165, 3) := by decide +kernel
theorem dL_law_1282 : decode cL_law 1282 = .ok (.aload_n 2, 1) := by decide +kernel
theorem dL_law_1283 : decode cL_law 1283 = .ok (.aload_n 0, 1) := by decide +kernel
theorem dL_law_1284 : decode cL_law 1284 = .ok (.iload_n 3, 1) := by decide +kernel
theorem dL_law_1285 : decode cL_law 1285 = .ok (.iconst 1, 1) := by decide +kernel
theorem dL_law_1286 : decode cL_law 1286 = .ok (.iadd, 1) := by decide +kernel
theorem dL_law_1287 : decode cL_law 1287 = .ok (.iaload, 1) := by decide +kernel
theorem dL_law_1288 : decode cL_law 1288 = .ok (.aload_n 0, 1) := by decide +kernel
theorem dL_law_1289 : decode cL_law 1289 = .ok (.iload_n 3, 1) := by decide +kernel
theorem dL_law_1290 : decode cL_law 1290 = .ok (.iconst 2, 1) := by decide +kernel
theorem dL_law_1291 : decode cL_law 1291 = .ok (.iadd, 1) := by decide +kernel
theorem dL_law_1292 : decode cL_law 1292 = .ok (.iaload, 1) := by decide +kernel
theorem dL_law_1293 : decode cL_law 1293 = .ok (.invokevirtual 168, 3) := by decide +kernel
theorem dL_law_1296 : decode cL_law 1296 = .ok (.if_icmp .eq 159, 3) := by decide +kernel
theorem dL_law_1299 : decode cL_law 1299 = .ok (.iconst 0, 1) := by decide +kernel
theorem dL_law_1300 : decode cL_law 1300 = .ok (.ireturn, 1) := by decide +kernel
theorem dL_law_1301 : decode cL_law 1301 = .ok (.aload_n 1, 1) := by decide +kernel
theorem dL_law_1302 : decode cL_law 1302 = .ok (.aload_n 0, 1) := by decide +kernel
theorem dL_law_1303 : decode cL_law 1303 = .ok (.iload_n 3, 1) := by decide +kernel
theorem dL_law_1304 : decode cL_law 1304 = .ok (.iconst 1, 1) := by decide +kernel
theorem dL_law_1305 : decode cL_law 1305 = .ok (.iadd, 1) := by decide +kernel
theorem dL_law_1306 : decode cL_law 1306 = .ok (.iaload, 1) := by decide +kernel
theorem dL_law_1307 : decode cL_law 1307 = .ok (.aload_n 0, 1) := by decide +kernel
theorem dL_law_1308 : decode cL_law 1308 = .ok (.iload_n 3, 1) := by decide +kernel
theorem dL_law_1309 : decode cL_law 1309 = .ok (.iconst 2, 1) := by decide +kernel
theorem dL_law_1310 : decode cL_law 1310 = .ok (.iadd, 1) := by decide +kernel
theorem dL_law_1311 : decode cL_law 1311 = .ok (.iaload, 1) := by decide +kernel
theorem dL_law_1312 : decode cL_law 1312 = .ok (.ifCond .eq 7, 3) := by decide +kernel
theorem dL_law_1315 : decode cL_law 1315 = .ok (.iconst 1, 1) := by decide +kernel
theorem dL_law_1316 : decode cL_law 1316 = .ok (.goto 4, 3) := by decide +kernel
theorem dL_law_1319 : decode cL_law 1319 = .ok (.iconst 0, 1) := by decide +kernel
theorem dL_law_1320 : decode cL_law 1320 = .ok (.invokevirtual 169, 3) := by decide +kernel
theorem dL_law_1323 : decode cL_law 1323 = .ok (.aload_n 2, 1) := by decide +kernel
theorem dL_law_1324 : decode cL_law 1324 = .ok (.aload_n 0, 1) := by decide +kernel
theorem dL_law_1325 : decode cL_law 1325 = .ok (.iload_n 3, 1) := by decide +kernel
theorem dL_law_1326 : decode cL_law 1326 = .ok (.iconst 1, 1) := by decide +kernel
theorem dL_law_1327 : decode cL_law 1327 = .ok (.iadd, 1) := by decide +kernel
theorem dL_law_1328 : decode cL_law 1328 = .ok (.iaload, 1) := by decide +kernel
theorem dL_law_1329 : decode cL_law 1329 = .ok (.aload_n 0, 1) := by decide +kernel
theorem dL_law_1330 : decode cL_law 1330 = .ok (.iload_n 3, 1) := by decide +kernel
theorem dL_law_1331 : decode cL_law 1331 = .ok (.iconst 2, 1) := by decide +kernel
theorem dL_law_1332 : decode cL_law 1332 = .ok (.iadd, 1) := by decide +kernel
theorem dL_law_1333 : decode cL_law 1333 = .ok (.iaload, 1) := by decide +kernel
theorem dL_law_1334 : decode cL_law 1334 = .ok (.ifCond .eq 7, 3) := by decide +kernel
theorem dL_law_1337 : decode cL_law 1337 = .ok (.iconst 1, 1) := by decide +kernel
theorem dL_law_1338 : decode cL_law 1338 = .ok (.goto 4, 3) := by decide +kernel
theorem dL_law_1341 : decode cL_law 1341 = .ok (.iconst 0, 1) := by decide +kernel
theorem dL_law_1342 : decode cL_law 1342 = .ok (.invokevirtual 172, 3) := by decide +kernel
theorem dL_law_1345 : decode cL_law 1345 = .ok (.if_icmp .eq 110, 3) := by decide +kernel
theorem dL_law_1348 : decode cL_law 1348 = .ok (.iconst 0, 1) := by decide +kernel
theorem dL_law_1349 : decode cL_law 1349 = .ok (.ireturn, 1) := by decide +kernel
theorem dL_law_1350 : decode cL_law 1350 = .ok (.aload_n 1, 1) := by decide +kernel
theorem dL_law_1351 : decode cL_law 1351 = .ok (.aload_n 0, 1) := by decide +kernel
theorem dL_law_1352 : decode cL_law 1352 = .ok (.iload_n 3, 1) := by decide +kernel
theorem dL_law_1353 : decode cL_law 1353 = .ok (.iconst 1, 1) := by decide +kernel
theorem dL_law_1354 : decode cL_law 1354 = .ok (.iadd, 1) := by decide +kernel
theorem dL_law_1355 : decode cL_law 1355 = .ok (.iaload, 1) := by decide +kernel
theorem dL_law_1356 : decode cL_law 1356 = .ok (.invokevirtual 173, 3) := by decide +kernel
theorem dL_law_1359 : decode cL_law 1359 = .ok (.aload_n 2, 1) := by decide +kernel
theorem dL_law_1360 : decode cL_law 1360 = .ok (.aload_n 0, 1) := by decide +kernel
theorem dL_law_1361 : decode cL_law 1361 = .ok (.iload_n 3, 1) := by decide +kernel
theorem dL_law_1362 : decode cL_law 1362 = .ok (.iconst 1, 1) := by decide +kernel
theorem dL_law_1363 : decode cL_law 1363 = .ok (.iadd, 1) := by decide +kernel
theorem dL_law_1364 : decode cL_law 1364 = .ok (.iaload, 1) := by decide +kernel
theorem dL_law_1365 : decode cL_law 1365 = .ok (.invokevirtual 176, 3) := by decide +kernel
theorem dL_law_1368 : decode cL_law 1368 = .ok (.if_icmp .eq 87, 3) := by decide +kernel
theorem dL_law_1371 : decode cL_law 1371 = .ok (.iconst 0, 1) := by decide +kernel
theorem dL_law_1372 : decode cL_law 1372 = .ok (.ireturn, 1) := by decide +kernel
theorem dL_law_1373 : decode cL_law 1373 = .ok (.aload_n 1, 1) := by decide +kernel
theorem dL_law_1374 : decode cL_law 1374 = .ok (.aload_n 0, 1) := by decide +kernel
theorem dL_law_1375 : decode cL_law 1375 = .ok (.iload_n 3, 1) := by decide +kernel
theorem dL_law_1376 : decode cL_law 1376 = .ok (.iconst 1, 1) := by decide +kernel
theorem dL_law_1377 : decode cL_law 1377 = .ok (.iadd, 1) := by decide +kernel
theorem dL_law_1378 : decode cL_law 1378 = .ok (.iaload, 1) := by decide +kernel
theorem dL_law_1379 : decode cL_law 1379 = .ok (.aload_n 0, 1) := by decide +kernel
theorem dL_law_1380 : decode cL_law 1380 = .ok (.iload_n 3, 1) := by decide +kernel
theorem dL_law_1381 : decode cL_law 1381 = .ok (.iconst 2, 1) := by decide +kernel
theorem dL_law_1382 : decode cL_law 1382 = .ok (.iadd, 1) := by decide +kernel
theorem dL_law_1383 : decode cL_law 1383 = .ok (.iaload, 1) := by decide +kernel
theorem dL_law_1384 : decode cL_law 1384 = .ok (.invokevirtual 177, 3) := by decide +kernel
theorem dL_law_1387 : decode cL_law 1387 = .ok (.aload_n 2, 1) := by decide +kernel
theorem dL_law_1388 : decode cL_law 1388 = .ok (.aload_n 0, 1) := by decide +kernel
theorem dL_law_1389 : decode cL_law 1389 = .ok (.iload_n 3, 1) := by decide +kernel
theorem dL_law_1390 : decode cL_law 1390 = .ok (.iconst 1, 1) := by decide +kernel
theorem dL_law_1391 : decode cL_law 1391 = .ok (.iadd, 1) := by decide +kernel
theorem dL_law_1392 : decode cL_law 1392 = .ok (.iaload, 1) := by decide +kernel
theorem dL_law_1393 : decode cL_law 1393 = .ok (.aload_n 0, 1) := by decide +kernel
theorem dL_law_1394 : decode cL_law 1394 = .ok (.iload_n 3, 1) := by decide +kernel
theorem dL_law_1395 : decode cL_law 1395 = .ok (.iconst 2, 1) := by decide +kernel
theorem dL_law_1396 : decode cL_law 1396 = .ok (.iadd, 1) := by decide +kernel
theorem dL_law_1397 : decode cL_law 1397 = .ok (.iaload, 1) := by decide +kernel
theorem dL_law_1398 : decode cL_law 1398 = .ok (.invokevirtual 180, 3) := by decide +kernel
theorem dL_law_1401 : decode cL_law 1401 = .ok (.if_icmp .eq 54, 3) := by decide +kernel
theorem dL_law_1404 : decode cL_law 1404 = .ok (.iconst 0, 1) := by decide +kernel
theorem dL_law_1405 : decode cL_law 1405 = .ok (.ireturn, 1) := by decide +kernel
theorem dL_law_1406 : decode cL_law 1406 = .ok (.aload_n 1, 1) := by decide +kernel
theorem dL_law_1407 : decode cL_law 1407 = .ok (.invokevirtual 181, 3) := by decide +kernel
theorem dL_law_1410 : decode cL_law 1410 = .ok (.aload_n 2, 1) := by decide +kernel
theorem dL_law_1411 : decode cL_law 1411 = .ok (.invokevirtual 184, 3) := by decide +kernel
theorem dL_law_1414 : decode cL_law 1414 = .ok (.if_icmp .eq 41, 3) := by decide +kernel
theorem dL_law_1417 : decode cL_law 1417 = .ok (.iconst 0, 1) := by decide +kernel
theorem dL_law_1418 : decode cL_law 1418 = .ok (.ireturn, 1) := by decide +kernel
theorem dL_law_1419 : decode cL_law 1419 = .ok (.aload_n 1, 1) := by decide +kernel
theorem dL_law_1420 : decode cL_law 1420 = .ok (.invokevirtual 185, 3) := by decide +kernel
theorem dL_law_1423 : decode cL_law 1423 = .ok (.aload_n 2, 1) := by decide +kernel
theorem dL_law_1424 : decode cL_law 1424 = .ok (.invokevirtual 188, 3) := by decide +kernel
theorem dL_law_1427 : decode cL_law 1427 = .ok (.if_icmp .eq 28, 3) := by decide +kernel
theorem dL_law_1430 : decode cL_law 1430 = .ok (.iconst 0, 1) := by decide +kernel
theorem dL_law_1431 : decode cL_law 1431 = .ok (.ireturn, 1) := by decide +kernel
theorem dL_law_1432 : decode cL_law 1432 = .ok (.aload_n 1, 1) := by decide +kernel
theorem dL_law_1433 : decode cL_law 1433 = .ok (.aload_n 0, 1) := by decide +kernel
theorem dL_law_1434 : decode cL_law 1434 = .ok (.iload_n 3, 1) := by decide +kernel
theorem dL_law_1435 : decode cL_law 1435 = .ok (.iconst 1, 1) := by decide +kernel
theorem dL_law_1436 : decode cL_law 1436 = .ok (.iadd, 1) := by decide +kernel
theorem dL_law_1437 : decode cL_law 1437 = .ok (.iaload, 1) := by decide +kernel
theorem dL_law_1438 : decode cL_law 1438 = .ok (.invokevirtual 189, 3) := by decide +kernel
theorem dL_law_1441 : decode cL_law 1441 = .ok (.aload_n 2, 1) := by decide +kernel
theorem dL_law_1442 : decode cL_law 1442 = .ok (.aload_n 0, 1) := by decide +kernel
theorem dL_law_1443 : decode cL_law 1443 = .ok (.iload_n 3, 1) := by decide +kernel
theorem dL_law_1444 : decode cL_law 1444 = .ok (.iconst 1, 1) := by decide +kernel
theorem dL_law_1445 : decode cL_law 1445 = .ok (.iadd, 1) := by decide +kernel
theorem dL_law_1446 : decode cL_law 1446 = .ok (.iaload, 1) := by decide +kernel
theorem dL_law_1447 : decode cL_law 1447 = .ok (.invokevirtual 192, 3) := by decide +kernel
theorem dL_law_1450 : decode cL_law 1450 = .ok (.if_icmp .eq 5, 3) := by decide +kernel
theorem dL_law_1453 : decode cL_law 1453 = .ok (.iconst 0, 1) := by decide +kernel
theorem dL_law_1454 : decode cL_law 1454 = .ok (.ireturn, 1) := by decide +kernel
theorem dL_law_1455 : decode cL_law 1455 = .ok (.iinc 3 6, 3) := by decide +kernel
theorem dL_law_1458 : decode cL_law 1458 = .ok (.goto (-1440), 3) := by decide +kernel
theorem dL_law_1461 : decode cL_law 1461 = .ok (.iconst 1, 1) := by decide +kernel
theorem dL_law_1462 : decode cL_law 1462 = .ok (.ireturn, 1) := by decide +kernel
