theorem dX10_factAt_66 : decode cX10_factAt 66 = .ok (.putfield 165, 3) := by decide +kernel
theorem dX10_factAt_69 : decode cX10_factAt 69 = .ok (.aload_n 0, 1) := by decide +kernel
theorem dX10_factAt_70 : decode cX10_factAt 70 = .ok (.iconst 1, 1) := by decide +kernel
theorem dX10_factAt_71 : decode cX10_factAt 71 = .ok (.putfield 195, 3) := by decide +kernel
theorem dX10_factAt_74 : decode cX10_factAt 74 = .ok (.iconst 0, 1) := by decide +kernel
theorem dX10_factAt_75 : decode cX10_factAt 75 = .ok (.ireturn, 1) := by decide +kernel
theorem dX10_beginOne_0 : decode cX10_beginOne 0 = .ok (.aload_n 0, 1) := by decide +kernel
theorem dX10_beginOne_1 : decode cX10_beginOne 1 = .ok (.getfield 107, 3) := by decide +kernel
theorem dX10_beginOne_4 : decode cX10_beginOne 4 = .ok (.iconst 1, 1) := by decide +kernel
theorem dX10_beginOne_5 : decode cX10_beginOne 5 = .ok (.if_icmp .ne 15, 3) := by decide +kernel
theorem dX10_beginOne_8 : decode cX10_beginOne 8 = .ok (.aload_n 0, 1) := by decide +kernel
theorem dX10_beginOne_9 : decode cX10_beginOne 9 = .ok (.getfield 113, 3) := by decide +kernel
theorem dX10_beginOne_12 : decode cX10_beginOne 12 = .ok (.sipush 9999, 3) := by decide +kernel
theorem dX10_beginOne_15 : decode cX10_beginOne 15 = .ok (.if_icmp .le 5, 3) := by decide +kernel
theorem dX10_beginOne_18 : decode cX10_beginOne 18 = .ok (.iconst 2, 1) := by decide +kernel
theorem dX10_beginOne_19 : decode cX10_beginOne 19 = .ok (.ireturn, 1) := by decide +kernel
theorem dX10_beginOne_20 : decode cX10_beginOne 20 = .ok (.aload_n 0, 1) := by decide +kernel
theorem dX10_beginOne_21 : decode cX10_beginOne 21 = .ok (.invokevirtual 198, 3) := by decide +kernel
theorem dX10_beginOne_24 : decode cX10_beginOne 24 = .ok (.istore_n 1, 1) := by decide +kernel
theorem dX10_beginOne_25 : decode cX10_beginOne 25 = .ok (.iload_n 1, 1) := by decide +kernel
theorem dX10_beginOne_26 : decode cX10_beginOne 26 = .ok (.ifCond .lt 13, 3) := by decide +kernel
theorem dX10_beginOne_29 : decode cX10_beginOne 29 = .ok (.aload_n 0, 1) := by decide +kernel
theorem dX10_beginOne_30 : decode cX10_beginOne 30 = .ok (.iload_n 1, 1) := by decide +kernel
theorem dX10_beginOne_31 : decode cX10_beginOne 31 = .ok (.invokevirtual 201, 3) := by decide +kernel
theorem dX10_beginOne_34 : decode cX10_beginOne 34 = .ok (.ifCond .ne 5, 3) := by decide +kernel
theorem dX10_beginOne_37 : decode cX10_beginOne 37 = .ok (.iconst 5, 1) := by decide +kernel
theorem dX10_beginOne_38 : decode cX10_beginOne 38 = .ok (.ireturn, 1) := by decide +kernel
theorem dX10_beginOne_39 : decode cX10_beginOne 39 = .ok (.aload_n 0, 1) := by decide +kernel
theorem dX10_beginOne_40 : decode cX10_beginOne 40 = .ok (.getfield 107, 3) := by decide +kernel
theorem dX10_beginOne_43 : decode cX10_beginOne 43 = .ok (.iconst 1, 1) := by decide +kernel
theorem dX10_beginOne_44 : decode cX10_beginOne 44 = .ok (.if_icmp .eq 7, 3) := by decide +kernel
theorem dX10_beginOne_47 : decode cX10_beginOne 47 = .ok (.iload_n 1, 1) := by decide +kernel
theorem dX10_beginOne_48 : decode cX10_beginOne 48 = .ok (.ifCond .lt 53, 3) := by decide +kernel
theorem dX10_beginOne_51 : decode cX10_beginOne 51 = .ok (.aload_n 0, 1) := by decide +kernel
theorem dX10_beginOne_52 : decode cX10_beginOne 52 = .ok (.aload_n 0, 1) := by decide +kernel
theorem dX10_beginOne_53 : decode cX10_beginOne 53 = .ok (.getfield 107, 3) := by decide +kernel
theorem dX10_beginOne_56 : decode cX10_beginOne 56 = .ok (.iconst 1, 1) := by decide +kernel
theorem dX10_beginOne_57 : decode cX10_beginOne 57 = .ok (.if_icmp .ne 7, 3) := by decide +kernel
theorem dX10_beginOne_60 : decode cX10_beginOne 60 = .ok (.iconst 0, 1) := by decide +kernel
theorem dX10_beginOne_61 : decode cX10_beginOne 61 = .ok (.goto 4, 3) := by decide +kernel
theorem dX10_beginOne_64 : decode cX10_beginOne 64 = .ok (.iconst 1, 1) := by decide +kernel
theorem dX10_beginOne_65 : decode cX10_beginOne 65 = .ok (.aload_n 0, 1) := by decide +kernel
theorem dX10_beginOne_66 : decode cX10_beginOne 66 = .ok (.getfield 107, 3) := by decide +kernel
theorem dX10_beginOne_69 : decode cX10_beginOne 69 = .ok (.iconst 1, 1) := by decide +kernel
theorem dX10_beginOne_70 : decode cX10_beginOne 70 = .ok (.if_icmp .ne 10, 3) := by decide +kernel
theorem dX10_beginOne_73 : decode cX10_beginOne 73 = .ok (.aload_n 0, 1) := by decide +kernel
theorem dX10_beginOne_74 : decode cX10_beginOne 74 = .ok (.getfield 113, 3) := by decide +kernel
theorem dX10_beginOne_77 : decode cX10_beginOne 77 = .ok (.goto 4, 3) := by decide +kernel
theorem dX10_beginOne_80 : decode cX10_beginOne 80 = .ok (.iload_n 1, 1) := by decide +kernel
theorem dX10_beginOne_81 : decode cX10_beginOne 81 = .ok (.invokevirtual 171, 3) := by decide +kernel
theorem dX10_beginOne_84 : decode cX10_beginOne 84 = .ok (.aload_n 0, 1) := by decide +kernel
theorem dX10_beginOne_85 : decode cX10_beginOne 85 = .ok (.invokevirtual 189, 3) := by decide +kernel
theorem dX10_beginOne_88 : decode cX10_beginOne 88 = .ok (.aload_n 0, 1) := by decide +kernel
theorem dX10_beginOne_89 : decode cX10_beginOne 89 = .ok (.iconst 1, 1) := by decide +kernel
theorem dX10_beginOne_90 : decode cX10_beginOne 90 = .ok (.putfield 195, 3) := by decide +kernel
theorem dX10_beginOne_93 : decode cX10_beginOne 93 = .ok (.aload_n 0, 1) := by decide +kernel
theorem dX10_beginOne_94 : decode cX10_beginOne 94 = .ok (.bipush 8, 2) := by decide +kernel
theorem dX10_beginOne_96 : decode cX10_beginOne 96 = .ok (.invokevirtual 204, 3) := by decide +kernel
theorem dX10_beginOne_99 : decode cX10_beginOne 99 = .ok (.iconst 0, 1) := by decide +kernel
theorem dX10_beginOne_100 : decode cX10_beginOne 100 = .ok (.ireturn, 1) := by decide +kernel
theorem dX10_beginOne_101 : decode cX10_beginOne 101 = .ok (.aload_n 0, 1) := by decide +kernel
theorem dX10_beginOne_102 : decode cX10_beginOne 102 = .ok (.getfield 107, 3) := by decide +kernel
theorem dX10_beginOne_105 : decode cX10_beginOne 105 = .ok (.bipush 40, 2) := by decide +kernel
theorem dX10_beginOne_107 : decode cX10_beginOne 107 = .ok (.if_icmp .ne 10, 3) := by decide +kernel
theorem dX10_beginOne_110 : decode cX10_beginOne 110 = .ok (.aload_n 0, 1) := by decide +kernel
theorem dX10_beginOne_111 : decode cX10_beginOne 111 = .ok (.bipush 40, 2) := by decide +kernel
theorem dX10_beginOne_113 : decode cX10_beginOne 113 = .ok (.invokevirtual 207, 3) := by decide +kernel
theorem dX10_beginOne_116 : decode cX10_beginOne 116 = .ok (.ireturn, 1) := by decide +kernel
theorem dX10_beginOne_117 : decode cX10_beginOne 117 = .ok (.aload_n 0, 1) := by decide +kernel
theorem dX10_beginOne_118 : decode cX10_beginOne 118 = .ok (.getfield 107, 3) := by decide +kernel
theorem dX10_beginOne_121 : decode cX10_beginOne 121 = .ok (.bipush 45, 2) := by decide +kernel
theorem dX10_beginOne_123 : decode cX10_beginOne 123 = .ok (.if_icmp .ne 9, 3) := by decide +kernel
theorem dX10_beginOne_126 : decode cX10_beginOne 126 = .ok (.aload_n 0, 1) := by decide +kernel
theorem dX10_beginOne_127 : decode cX10_beginOne 127 = .ok (.iconst 4, 1) := by decide +kernel
theorem dX10_beginOne_128 : decode cX10_beginOne 128 = .ok (.invokevirtual 207, 3) := by decide +kernel
theorem dX10_beginOne_131 : decode cX10_beginOne 131 = .ok (.ireturn, 1) := by decide +kernel
theorem dX10_beginOne_132 : decode cX10_beginOne 132 = .ok (.aload_n 0, 1) := by decide +kernel
theorem dX10_beginOne_133 : decode cX10_beginOne 133 = .ok (.invokevirtual 210, 3) := by decide +kernel
theorem dX10_beginOne_136 : decode cX10_beginOne 136 = .ok (.ifCond .ne 5, 3) := by decide +kernel
theorem dX10_beginOne_139 : decode cX10_beginOne 139 = .ok (.iconst 1, 1) := by decide +kernel
theorem dX10_beginOne_140 : decode cX10_beginOne 140 = .ok (.ireturn, 1) := by decide +kernel
theorem dX10_beginOne_141 : decode cX10_beginOne 141 = .ok (.aload_n 0, 1) := by decide +kernel
theorem dX10_beginOne_142 : decode cX10_beginOne 142 = .ok (.bipush 110, 2) := by decide +kernel
theorem dX10_beginOne_144 : decode cX10_beginOne 144 = .ok (.bipush 111, 2) := by decide +kernel
theorem dX10_beginOne_146 : decode cX10_beginOne 146 = .ok (.bipush 116, 2) := by decide +kernel
theorem dX10_beginOne_148 : decode cX10_beginOne 148 = .ok (.invokestatic 133, 3) := by decide +kernel
theorem dX10_beginOne_151 : decode cX10_beginOne 151 = .ok (.invokevirtual 213, 3) := by decide +kernel
theorem dX10_beginOne_154 : decode cX10_beginOne 154 = .ok (.ifCond .eq 10, 3) := by decide +kernel
theorem dX10_beginOne_157 : decode cX10_beginOne 157 = .ok (.aload_n 0, 1) := by decide +kernel
theorem dX10_beginOne_158 : decode cX10_beginOne 158 = .ok (.bipush 20, 2) := by decide +kernel
theorem dX10_beginOne_160 : decode cX10_beginOne 160 = .ok (.invokevirtual 207, 3) := by decide +kernel
theorem dX10_beginOne_163 : decode cX10_beginOne 163 = .ok (.ireturn, 1) := by decide +kernel
theorem dX10_beginOne_164 : decode cX10_beginOne 164 = .ok (.aload_n 0, 1) := by decide +kernel
theorem dX10_beginOne_165 : decode cX10_beginOne 165 = .ok (.bipush 109, 2) := by decide +kernel
theorem dX10_beginOne_167 : decode cX10_beginOne 167 = .ok (.bipush 111, 2) := by decide +kernel
theorem dX10_beginOne_169 : decode cX10_beginOne 169 = .ok (.bipush 115, 2) := by decide +kernel
theorem dX10_beginOne_171 : decode cX10_beginOne 171 = .ok (.bipush 116, 2) := by decide +kernel
theorem dX10_beginOne_173 : decode cX10_beginOne 173 = .ok (.invokestatic 137, 3) := by decide +kernel
theorem dX10_beginOne_176 : decode cX10_beginOne 176 = .ok (.invokevirtual 213, 3) := by decide +kernel
theorem dX10_beginOne_179 : decode cX10_beginOne 179 = .ok (.ifCond .eq 10, 3) := by decide +kernel
theorem dX10_beginOne_182 : decode cX10_beginOne 182 = .ok (.aload_n 0, 1) := by decide +kernel
theorem dX10_beginOne_183 : decode cX10_beginOne 183 = .ok (.bipush 41, 2) := by decide +kernel
theorem dX10_beginOne_185 : decode cX10_beginOne 185 = .ok (.invokevirtual 207, 3) := by decide +kernel
theorem dX10_beginOne_188 : decode cX10_beginOne 188 = .ok (.ireturn, 1) := by decide +kernel
theorem dX10_beginOne_189 : decode cX10_beginOne 189 = .ok (.aload_n 0, 1) := by decide +kernel
theorem dX10_beginOne_190 : decode cX10_beginOne 190 = .ok (.bipush 102, 2) := by decide +kernel
theorem dX10_beginOne_192 : decode cX10_beginOne 192 = .ok (.bipush 97, 2) := by decide +kernel
theorem dX10_beginOne_194 : decode cX10_beginOne 194 = .ok (.bipush 99, 2) := by decide +kernel
theorem dX10_beginOne_196 : decode cX10_beginOne 196 = .ok (.bipush 116, 2) := by decide +kernel
theorem dX10_beginOne_198 : decode cX10_beginOne 198 = .ok (.invokestatic 137, 3) := by decide +kernel
theorem dX10_beginOne_201 : decode cX10_beginOne 201 = .ok (.invokevirtual 213, 3) := by decide +kernel
theorem dX10_beginOne_204 : decode cX10_beginOne 204 = .ok (.ifCond .eq 10, 3) := by decide +kernel
theorem dX10_beginOne_207 : decode cX10_beginOne 207 = .ok (.aload_n 0, 1) := by decide +kernel
theorem dX10_beginOne_208 : decode cX10_beginOne 208 = .ok (.invokevirtual 217, 3) := by decide +kernel
theorem dX10_beginOne_211 : decode cX10_beginOne 211 = .ok (.goto 4, 3) := by decide +kernel
theorem dX10_beginOne_214 : decode cX10_beginOne 214 = .ok (.iconst 1, 1) := by decide +kernel
theorem dX10_beginOne_215 : decode cX10_beginOne 215 = .ok (.ireturn, 1) := by decide +kernel
theorem dX10_compareOf_0 : decode cX10_compareOf 0 = .ok (.aload_n 0, 1) := by decide +kernel
theorem dX10_compareOf_1 : decode cX10_compareOf 1 = .ok (.getfield 107, 3) := by decide +kernel
theorem dX10_compareOf_4 : decode cX10_compareOf 4 = .ok (.bipush 60, 2) := by decide +kernel
theorem dX10_compareOf_6 : decode cX10_compareOf 6 = .ok (.if_icmp .ne 8, 3) := by decide +kernel
theorem dX10_compareOf_9 : decode cX10_compareOf 9 = .ok (.bipush 10, 2) := by decide +kernel
theorem dX10_compareOf_11 : decode cX10_compareOf 11 = .ok (.goto 72, 3) := by decide +kernel
theorem dX10_compareOf_14 : decode cX10_compareOf 14 = .ok (.aload_n 0, 1) := by decide +kernel
theorem dX10_compareOf_15 : decode cX10_compareOf 15 = .ok (.getfield 107, 3) := by decide +kernel
theorem dX10_compareOf_18 : decode cX10_compareOf 18 = .ok (.iconst 4, 1) := by decide +kernel
theorem dX10_compareOf_19 : decode cX10_compareOf 19 = .ok (.if_icmp .ne 8, 3) := by decide +kernel
theorem dX10_compareOf_22 : decode cX10_compareOf 22 = .ok (.bipush 11, 2) := by decide +kernel
theorem dX10_compareOf_24 : decode cX10_compareOf 24 = .ok (.goto 59, 3) := by decide +kernel
theorem dX10_compareOf_27 : decode cX10_compareOf 27 = .ok (.aload_n 0, 1) := by decide +kernel
theorem dX10_compareOf_28 : decode cX10_compareOf 28 = .ok (.getfield 107, 3) := by decide +kernel
theorem dX10_compareOf_31 : decode cX10_compareOf 31 = .ok (.bipush 62, 2) := by decide +kernel
theorem dX10_compareOf_33 : decode cX10_compareOf 33 = .ok (.if_icmp .ne 8, 3) := by decide +kernel
theorem dX10_compareOf_36 : decode cX10_compareOf 36 = .ok (.bipush 12, 2) := by decide +kernel
theorem dX10_compareOf_38 : decode cX10_compareOf 38 = .ok (.goto 45, 3) := by decide +kernel
theorem dX10_compareOf_41 : decode cX10_compareOf 41 = .ok (.aload_n 0, 1) := by decide +kernel
theorem dX10_compareOf_42 : decode cX10_compareOf 42 = .ok (.getfield 107, 3) := by decide +kernel
theorem dX10_compareOf_45 : decode cX10_compareOf 45 = .ok (.iconst 5, 1) := by decide +kernel
theorem dX10_compareOf_46 : decode cX10_compareOf 46 = .ok (.if_icmp .ne 8, 3) := by decide +kernel
theorem dX10_compareOf_49 : decode cX10_compareOf 49 = .ok (.bipush 13, 2) := by decide +kernel
theorem dX10_compareOf_51 : decode cX10_compareOf 51 = .ok (.goto 32, 3) := by decide +kernel
theorem dX10_compareOf_54 : decode cX10_compareOf 54 = .ok (.aload_n 0, 1) := by decide +kernel
theorem dX10_compareOf_55 : decode cX10_compareOf 55 = .ok (.getfield 107, 3) := by decide +kernel
theorem dX10_compareOf_58 : decode cX10_compareOf 58 = .ok (.bipush 61, 2) := by decide +kernel
theorem dX10_compareOf_60 : decode cX10_compareOf 60 = .ok (.if_icmp .ne 8, 3) := by decide +kernel
theorem dX10_compareOf_63 : decode cX10_compareOf 63 = .ok (.bipush 14, 2) := by decide +kernel
theorem dX10_compareOf_65 : decode cX10_compareOf 65 = .ok (.goto 18, 3) := by decide +kernel
theorem dX10_compareOf_68 : decode cX10_compareOf 68 = .ok (.aload_n 0, 1) := by decide +kernel
theorem dX10_compareOf_69 : decode cX10_compareOf 69 = .ok (.getfield 107, 3) := by decide +kernel
theorem dX10_compareOf_72 : decode cX10_compareOf 72 = .ok (.bipush 35, 2) := by decide +kernel
theorem dX10_compareOf_74 : decode cX10_compareOf 74 = .ok (.if_icmp .ne 8, 3) := by decide +kernel
theorem dX10_compareOf_77 : decode cX10_compareOf 77 = .ok (.bipush 15, 2) := by decide +kernel
theorem dX10_compareOf_79 : decode cX10_compareOf 79 = .ok (.goto 4, 3) := by decide +kernel
theorem dX10_compareOf_82 : decode cX10_compareOf 82 = .ok (.iconst (-1), 1) := by decide +kernel
theorem dX10_compareOf_83 : decode cX10_compareOf 83 = .ok (.ireturn, 1) := by decide +kernel
theorem dX10_betweenOf_0 : decode cX10_betweenOf 0 = .ok (.aload_n 0, 1) := by decide +kernel
theorem dX10_betweenOf_1 : decode cX10_betweenOf 1 = .ok (.getfield 165, 3) := by decide +kernel
theorem dX10_betweenOf_4 : decode cX10_betweenOf 4 = .ok (.ifCond .le 23, 3) := by decide +kernel
theorem dX10_betweenOf_7 : decode cX10_betweenOf 7 = .ok (.aload_n 0, 1) := by decide +kernel
theorem dX10_betweenOf_8 : decode cX10_betweenOf 8 = .ok (.getfield 29, 3) := by decide +kernel
theorem dX10_betweenOf_11 : decode cX10_betweenOf 11 = .ok (.aload_n 0, 1) := by decide +kernel
theorem dX10_betweenOf_12 : decode cX10_betweenOf 12 = .ok (.getfield 165, 3) := by decide +kernel
theorem dX10_betweenOf_15 : decode cX10_betweenOf 15 = .ok (.iconst 1, 1) := by decide +kernel
theorem dX10_betweenOf_16 : decode cX10_betweenOf 16 = .ok (.isub, 1) := by decide +kernel
theorem dX10_betweenOf_17 : decode cX10_betweenOf 17 = .ok (.iaload, 1) := by decide +kernel
theorem dX10_betweenOf_18 : decode cX10_betweenOf 18 = .ok (.bipush 16, 2) := by decide +kernel
theorem dX10_betweenOf_20 : decode cX10_betweenOf 20 = .ok (.if_icmp .ne 7, 3) := by decide +kernel
theorem dX10_betweenOf_23 : decode cX10_betweenOf 23 = .ok (.iconst 1, 1) := by decide +kernel
theorem dX10_betweenOf_24 : decode cX10_betweenOf 24 = .ok (.goto 4, 3) := by decide +kernel
theorem dX10_betweenOf_27 : decode cX10_betweenOf 27 = .ok (.iconst 0, 1) := by decide +kernel
theorem dX10_betweenOf_28 : decode cX10_betweenOf 28 = .ok (.istore_n 1, 1) := by decide +kernel
theorem dX10_betweenOf_29 : decode cX10_betweenOf 29 = .ok (.iload_n 1, 1) := by decide +kernel
theorem dX10_betweenOf_30 : decode cX10_betweenOf 30 = .ok (.ifCond .ne 14, 3) := by decide +kernel
theorem dX10_betweenOf_33 : decode cX10_betweenOf 33 = .ok (.aload_n 0, 1) := by decide +kernel
theorem dX10_betweenOf_34 : decode cX10_betweenOf 34 = .ok (.getfield 107, 3) := by decide +kernel
theorem dX10_betweenOf_37 : decode cX10_betweenOf 37 = .ok (.bipush 43, 2) := by decide +kernel
theorem dX10_betweenOf_39 : decode cX10_betweenOf 39 = .ok (.if_icmp .ne 5, 3) := by decide +kernel
theorem dX10_betweenOf_42 : decode cX10_betweenOf 42 = .ok (.iconst 5, 1) := by decide +kernel
theorem dX10_betweenOf_43 : decode cX10_betweenOf 43 = .ok (.ireturn, 1) := by decide +kernel
theorem dX10_betweenOf_44 : decode cX10_betweenOf 44 = .ok (.iload_n 1, 1) := by decide +kernel
theorem dX10_betweenOf_45 : decode cX10_betweenOf 45 = .ok (.ifCond .ne 15, 3) := by decide +kernel
theorem dX10_betweenOf_48 : decode cX10_betweenOf 48 = .ok (.aload_n 0, 1) := by decide +kernel
theorem dX10_betweenOf_49 : decode cX10_betweenOf 49 = .ok (.getfield 107, 3) := by decide +kernel
theorem dX10_betweenOf_52 : decode cX10_betweenOf 52 = .ok (.bipush 45, 2) := by decide +kernel
theorem dX10_betweenOf_54 : decode cX10_betweenOf 54 = .ok (.if_icmp .ne 6, 3) := by decide +kernel
theorem dX10_betweenOf_57 : decode cX10_betweenOf 57 = .ok (.bipush 6, 2) := by decide +kernel
theorem dX10_betweenOf_59 : decode cX10_betweenOf 59 = .ok (.ireturn, 1) := by decide +kernel
theorem dX10_betweenOf_60 : decode cX10_betweenOf 60 = .ok (.iload_n 1, 1) := by decide +kernel
theorem dX10_betweenOf_61 : decode cX10_betweenOf 61 = .ok (.ifCond .ne 15, 3) := by decide +kernel
theorem dX10_betweenOf_64 : decode cX10_betweenOf 64 = .ok (.aload_n 0, 1) := by decide +kernel
theorem dX10_betweenOf_65 : decode cX10_betweenOf 65 = .ok (.getfield 107, 3) := by decide +kernel
theorem dX10_betweenOf_68 : decode cX10_betweenOf 68 = .ok (.bipush 42, 2) := by decide +kernel
theorem dX10_betweenOf_70 : decode cX10_betweenOf 70 = .ok (.if_icmp .ne 6, 3) := by decide +kernel
theorem dX10_betweenOf_73 : decode cX10_betweenOf 73 = .ok (.bipush 7, 2) := by decide +kernel
theorem dX10_betweenOf_75 : decode cX10_betweenOf 75 = .ok (.ireturn, 1) := by decide +kernel
theorem dX10_betweenOf_76 : decode cX10_betweenOf 76 = .ok (.iload_n 1, 1) := by decide +kernel
theorem dX10_betweenOf_77 : decode cX10_betweenOf 77 = .ok (.ifCond .ne 15, 3) := by decide +kernel
theorem dX10_betweenOf_80 : decode cX10_betweenOf 80 = .ok (.aload_n 0, 1) := by decide +kernel
theorem dX10_betweenOf_81 : decode cX10_betweenOf 81 = .ok (.getfield 107, 3) := by decide +kernel
theorem dX10_betweenOf_84 : decode cX10_betweenOf 84 = .ok (.bipush 47, 2) := by decide +kernel
theorem dX10_betweenOf_86 : decode cX10_betweenOf 86 = .ok (.if_icmp .ne 6, 3) := by decide +kernel
theorem dX10_betweenOf_89 : decode cX10_betweenOf 89 = .ok (.bipush 8, 2) := by decide +kernel
theorem dX10_betweenOf_91 : decode cX10_betweenOf 91 = .ok (.ireturn, 1) := by decide +kernel
theorem dX10_betweenOf_92 : decode cX10_betweenOf 92 = .ok (.aload_n 0, 1) := by decide +kernel
theorem dX10_betweenOf_93 : decode cX10_betweenOf 93 = .ok (.invokevirtual 186, 3) := by decide +kernel
theorem dX10_betweenOf_96 : decode cX10_betweenOf 96 = .ok (.ifCond .ne 5, 3) := by decide +kernel
theorem dX10_betweenOf_99 : decode cX10_betweenOf 99 = .ok (.iconst (-1), 1) := by decide +kernel
theorem dX10_betweenOf_100 : decode cX10_betweenOf 100 = .ok (.ireturn, 1) := by decide +kernel
theorem dX10_betweenOf_101 : decode cX10_betweenOf 101 = .ok (.aload_n 0, 1) := by decide +kernel
theorem dX10_betweenOf_102 : decode cX10_betweenOf 102 = .ok (.invokevirtual 220, 3) := by decide +kernel
theorem dX10_betweenOf_105 : decode cX10_betweenOf 105 = .ok (.ifCond .ne 8, 3) := by decide +kernel
theorem dX10_betweenOf_108 : decode cX10_betweenOf 108 = .ok (.aload_n 0, 1) := by decide +kernel
theorem dX10_betweenOf_109 : decode cX10_betweenOf 109 = .ok (.invokevirtual 223, 3) := by decide +kernel
theorem dX10_betweenOf_112 : decode cX10_betweenOf 112 = .ok (.ireturn, 1) := by decide +kernel
theorem dX10_betweenOf_113 : decode cX10_betweenOf 113 = .ok (.aload_n 0, 1) := by decide +kernel
theorem dX10_betweenOf_114 : decode cX10_betweenOf 114 = .ok (.bipush 97, 2) := by decide +kernel
theorem dX10_betweenOf_116 : decode cX10_betweenOf 116 = .ok (.bipush 110, 2) := by decide +kernel
theorem dX10_betweenOf_118 : decode cX10_betweenOf 118 = .ok (.bipush 100, 2) := by decide +kernel
theorem dX10_betweenOf_120 : decode cX10_betweenOf 120 = .ok (.invokestatic 133, 3) := by decide +kernel
theorem dX10_betweenOf_123 : decode cX10_betweenOf 123 = .ok (.invokevirtual 213, 3) := by decide +kernel
theorem dX10_betweenOf_126 : decode cX10_betweenOf 126 = .ok (.ifCond .eq 6, 3) := by decide +kernel
theorem dX10_betweenOf_129 : decode cX10_betweenOf 129 = .ok (.bipush 21, 2) := by decide +kernel
theorem dX10_betweenOf_131 : decode cX10_betweenOf 131 = .ok (.ireturn, 1) := by decide +kernel
theorem dX10_betweenOf_132 : decode cX10_betweenOf 132 = .ok (.aload_n 0, 1) := by decide +kernel
theorem dX10_betweenOf_133 : decode cX10_betweenOf 133 = .ok (.bipush 111, 2) := by decide +kernel
theorem dX10_betweenOf_135 : decode cX10_betweenOf 135 = .ok (.bipush 114, 2) := by decide +kernel
theorem dX10_betweenOf_137 : decode cX10_betweenOf 137 = .ok (.invokestatic 129, 3) := by decide +kernel
theorem dX10_betweenOf_140 : decode cX10_betweenOf 140 = .ok (.invokevirtual 213, 3) := by decide +kernel
theorem dX10_betweenOf_143 : decode cX10_betweenOf 143 = .ok (.ifCond .eq 6, 3) := by decide +kernel
theorem dX10_betweenOf_146 : decode cX10_betweenOf 146 = .ok (.bipush 22, 2) := by decide +kernel
theorem dX10_betweenOf_148 : decode cX10_betweenOf 148 = .ok (.ireturn, 1) := by decide +kernel
theorem dX10_betweenOf_149 : decode cX10_betweenOf 149 = .ok (.aload_n 0, 1) := by decide +kernel
theorem dX10_betweenOf_150 : decode cX10_betweenOf 150 = .ok (.bipush 117, 2) := by decide +kernel
theorem dX10_betweenOf_152 : decode cX10_betweenOf 152 = .ok (.bipush 110, 2) := by decide +kernel
theorem dX10_betweenOf_154 : decode cX10_betweenOf 154 = .ok (.bipush 108, 2) := by decide +kernel
theorem dX10_betweenOf_156 : decode cX10_betweenOf 156 = .ok (.bipush 101, 2) := by decide +kernel
theorem dX10_betweenOf_158 : decode cX10_betweenOf 158 = .ok (.bipush 115, 2) := by decide +kernel
theorem dX10_betweenOf_160 : decode cX10_betweenOf 160 = .ok (.bipush 115, 2) := by decide +kernel
theorem dX10_betweenOf_162 : decode cX10_betweenOf 162 = .ok (.invokestatic 226, 3) := by decide +kernel
theorem dX10_betweenOf_165 : decode cX10_betweenOf 165 = .ok (.invokevirtual 213, 3) := by decide +kernel
theorem dX10_betweenOf_168 : decode cX10_betweenOf 168 = .ok (.ifCond .eq 23, 3) := by decide +kernel
theorem dX10_betweenOf_171 : decode cX10_betweenOf 171 = .ok (.aload_n 0, 1) := by decide +kernel
theorem dX10_betweenOf_172 : decode cX10_betweenOf 172 = .ok (.invokevirtual 182, 3) := by decide +kernel
theorem dX10_betweenOf_175 : decode cX10_betweenOf 175 = .ok (.iconst (-1), 1) := by decide +kernel
theorem dX10_betweenOf_176 : decode cX10_betweenOf 176 = .ok (.if_icmp .ne 15, 3) := by decide +kernel
theorem dX10_betweenOf_179 : decode cX10_betweenOf 179 = .ok (.aload_n 0, 1) := by decide +kernel
theorem dX10_betweenOf_180 : decode cX10_betweenOf 180 = .ok (.getfield 230, 3) := by decide +kernel
theorem dX10_betweenOf_183 : decode cX10_betweenOf 183 = .ok (.ifCond .ne 8, 3) := by decide +kernel
theorem dX10_betweenOf_186 : decode cX10_betweenOf 186 = .ok (.bipush 23, 2) := by decide +kernel
theorem dX10_betweenOf_188 : decode cX10_betweenOf 188 = .ok (.goto 4, 3) := by decide +kernel
theorem dX10_betweenOf_191 : decode cX10_betweenOf 191 = .ok (.iconst (-1), 1) := by decide +kernel
theorem dX10_betweenOf_192 : decode cX10_betweenOf 192 = .ok (.ireturn, 1) := by decide +kernel
theorem dX10_nextOfMost_0 : decode cX10_nextOfMost 0 = .ok (.aload_n 0, 1) := by decide +kernel
theorem dX10_nextOfMost_1 : decode cX10_nextOfMost 1 = .ok (.getfield 32, 3) := by decide +kernel
theorem dX10_nextOfMost_4 : decode cX10_nextOfMost 4 = .ok (.aload_n 0, 1) := by decide +kernel
theorem dX10_nextOfMost_5 : decode cX10_nextOfMost 5 = .ok (.getfield 192, 3) := by decide +kernel
theorem dX10_nextOfMost_8 : decode cX10_nextOfMost 8 = .ok (.iconst 1, 1) := by decide +kernel
theorem dX10_nextOfMost_9 : decode cX10_nextOfMost 9 = .ok (.isub, 1) := by decide +kernel
theorem dX10_nextOfMost_10 : decode cX10_nextOfMost 10 = .ok (.iaload, 1) := by decide +kernel
theorem dX10_nextOfMost_11 : decode cX10_nextOfMost 11 = .ok (.bipush 6, 2) := by decide +kernel
theorem dX10_nextOfMost_13 : decode cX10_nextOfMost 13 = .ok (.if_icmp .ne 6, 3) := by decide +kernel
theorem dX10_nextOfMost_16 : decode cX10_nextOfMost 16 = .ok (.bipush 7, 2) := by decide +kernel
theorem dX10_nextOfMost_18 : decode cX10_nextOfMost 18 = .ok (.ireturn, 1) := by decide +kernel
theorem dX10_nextOfMost_19 : decode cX10_nextOfMost 19 = .ok (.aload_n 0, 1) := by decide +kernel
theorem dX10_nextOfMost_20 : decode cX10_nextOfMost 20 = .ok (.iconst 1, 1) := by decide +kernel
theorem dX10_nextOfMost_21 : decode cX10_nextOfMost 21 = .ok (.invokevirtual 204, 3) := by decide +kernel
theorem dX10_nextOfMost_24 : decode cX10_nextOfMost 24 = .ok (.aload_n 0, 1) := by decide +kernel
theorem dX10_nextOfMost_25 : decode cX10_nextOfMost 25 = .ok (.getfield 32, 3) := by decide +kernel
theorem dX10_nextOfMost_28 : decode cX10_nextOfMost 28 = .ok (.aload_n 0, 1) := by decide +kernel
theorem dX10_nextOfMost_29 : decode cX10_nextOfMost 29 = .ok (.getfield 192, 3) := by decide +kernel
theorem dX10_nextOfMost_32 : decode cX10_nextOfMost 32 = .ok (.iconst 1, 1) := by decide +kernel
theorem dX10_nextOfMost_33 : decode cX10_nextOfMost 33 = .ok (.isub, 1) := by decide +kernel
theorem dX10_nextOfMost_34 : decode cX10_nextOfMost 34 = .ok (.dup2, 1) := by decide +kernel
theorem dX10_nextOfMost_35 : decode cX10_nextOfMost 35 = .ok (.iaload, 1) := by decide +kernel
theorem dX10_nextOfMost_36 : decode cX10_nextOfMost 36 = .ok (.iconst 1, 1) := by decide +kernel
theorem dX10_nextOfMost_37 : decode cX10_nextOfMost 37 = .ok (.iadd, 1) := by decide +kernel
theorem dX10_nextOfMost_38 : decode cX10_nextOfMost 38 = .ok (.iastore, 1) := by decide +kernel
theorem dX10_nextOfMost_39 : decode cX10_nextOfMost 39 = .ok (.aload_n 0, 1) := by decide +kernel
theorem dX10_nextOfMost_40 : decode cX10_nextOfMost 40 = .ok (.iconst 0, 1) := by decide +kernel
theorem dX10_nextOfMost_41 : decode cX10_nextOfMost 41 = .ok (.putfield 195, 3) := by decide +kernel
theorem dX10_nextOfMost_44 : decode cX10_nextOfMost 44 = .ok (.aload_n 0, 1) := by decide +kernel
theorem dX10_nextOfMost_45 : decode cX10_nextOfMost 45 = .ok (.invokevirtual 189, 3) := by decide +kernel
theorem dX10_nextOfMost_48 : decode cX10_nextOfMost 48 = .ok (.iconst 0, 1) := by decide +kernel
theorem dX10_nextOfMost_49 : decode cX10_nextOfMost 49 = .ok (.ireturn, 1) := by decide +kernel
theorem dX10_shut_0 : decode cX10_shut 0 = .ok (.aload_n 0, 1) := by decide +kernel
theorem dX10_shut_1 : decode cX10_shut 1 = .ok (.iconst 1, 1) := by decide +kernel
theorem dX10_shut_2 : decode cX10_shut 2 = .ok (.invokevirtual 204, 3) := by decide +kernel
theorem dX10_shut_5 : decode cX10_shut 5 = .ok (.aload_n 0, 1) := by decide +kernel
theorem dX10_shut_6 : decode cX10_shut 6 = .ok (.dup, 1) := by decide +kernel
theorem dX10_shut_7 : decode cX10_shut 7 = .ok (.getfield 175, 3) := by decide +kernel
theorem dX10_shut_10 : decode cX10_shut 10 = .ok (.iconst 1, 1) := by decide +kernel
theorem dX10_shut_11 : decode cX10_shut 11 = .ok (.isub, 1) := by decide +kernel
theorem dX10_shut_12 : decode cX10_shut 12 = .ok (.putfield 175, 3) := by decide +kernel
theorem dX10_shut_15 : decode cX10_shut 15 = .ok (.iload_n 1, 1) := by decide +kernel
theorem dX10_shut_16 : decode cX10_shut 16 = .ok (.bipush 41, 2) := by decide +kernel
theorem dX10_shut_18 : decode cX10_shut 18 = .ok (.if_icmp .ne 45, 3) := by decide +kernel
theorem dX10_shut_21 : decode cX10_shut 21 = .ok (.aload_n 0, 1) := by decide +kernel
theorem dX10_shut_22 : decode cX10_shut 22 = .ok (.dup, 1) := by decide +kernel
theorem dX10_shut_23 : decode cX10_shut 23 = .ok (.getfield 192, 3) := by decide +kernel
theorem dX10_shut_26 : decode cX10_shut 26 = .ok (.iconst 1, 1) := by decide +kernel
theorem dX10_shut_27 : decode cX10_shut 27 = .ok (.isub, 1) := by decide +kernel
theorem dX10_shut_28 : decode cX10_shut 28 = .ok (.putfield 192, 3) := by decide +kernel
theorem dX10_shut_31 : decode cX10_shut 31 = .ok (.aload_n 0, 1) := by decide +kernel
theorem dX10_shut_32 : decode cX10_shut 32 = .ok (.iconst 3, 1) := by decide +kernel
theorem dX10_shut_33 : decode cX10_shut 33 = .ok (.aload_n 0, 1) := by decide +kernel
theorem dX10_shut_34 : decode cX10_shut 34 = .ok (.getfield 32, 3) := by decide +kernel
theorem dX10_shut_37 : decode cX10_shut 37 = .ok (.aload_n 0, 1) := by decide +kernel
theorem dX10_shut_38 : decode cX10_shut 38 = .ok (.getfield 192, 3) := by decide +kernel
theorem dX10_shut_41 : decode cX10_shut 41 = .ok (.iaload, 1) := by decide +kernel
theorem dX10_shut_42 : decode cX10_shut 42 = .ok (.invokevirtual 171, 3) := by decide +kernel
theorem dX10_shut_45 : decode cX10_shut 45 = .ok (.aload_n 0, 1) := by decide +kernel
theorem dX10_shut_46 : decode cX10_shut 46 = .ok (.getfield 29, 3) := by decide +kernel
theorem dX10_shut_49 : decode cX10_shut 49 = .ok (.aload_n 0, 1) := by decide +kernel
theorem dX10_shut_50 : decode cX10_shut 50 = .ok (.getfield 165, 3) := by decide +kernel
theorem dX10_shut_53 : decode cX10_shut 53 = .ok (.iconst 1, 1) := by decide +kernel
theorem dX10_shut_54 : decode cX10_shut 54 = .ok (.isub, 1) := by decide +kernel
theorem dX10_shut_55 : decode cX10_shut 55 = .ok (.bipush 16, 2) := by decide +kernel
theorem dX10_shut_57 : decode cX10_shut 57 = .ok (.iastore, 1) := by decide +kernel
theorem dX10_shut_58 : decode cX10_shut 58 = .ok (.aload_n 0, 1) := by decide +kernel
theorem dX10_shut_59 : decode cX10_shut 59 = .ok (.invokevirtual 189, 3) := by decide +kernel
theorem dX10_shut_62 : decode cX10_shut 62 = .ok (.return_, 1) := by decide +kernel
theorem dX10_shut_63 : decode cX10_shut 63 = .ok (.aload_n 0, 1) := by decide +kernel
theorem dX10_shut_64 : decode cX10_shut 64 = .ok (.dup, 1) := by decide +kernel
theorem dX10_shut_65 : decode cX10_shut 65 = .ok (.getfield 165, 3) := by decide +kernel
theorem dX10_shut_68 : decode cX10_shut 68 = .ok (.iconst 1, 1) := by decide +kernel
theorem dX10_shut_69 : decode cX10_shut 69 = .ok (.isub, 1) := by decide +kernel
theorem dX10_shut_70 : decode cX10_shut 70 = .ok (.putfield 165, 3) := by decide +kernel
theorem dX10_shut_73 : decode cX10_shut 73 = .ok (.aload_n 0, 1) := by decide +kernel
theorem dX10_shut_74 : decode cX10_shut 74 = .ok (.invokevirtual 189, 3) := by decide +kernel
theorem dX10_shut_77 : decode cX10_shut 77 = .ok (.aload_n 0, 1) := by decide +kernel
theorem dX10_shut_78 : decode cX10_shut 78 = .ok (.bipush 8, 2) := by decide +kernel
theorem dX10_shut_80 : decode cX10_shut 80 = .ok (.invokevirtual 204, 3) := by decide +kernel
theorem dX10_shut_83 : decode cX10_shut 83 = .ok (.return_, 1) := by decide +kernel
theorem dX10_behindOne_0 : decode cX10_behindOne 0 = .ok (.aload_n 0, 1) := by decide +kernel
theorem dX10_behindOne_1 : decode cX10_behindOne 1 = .ok (.invokevirtual 233, 3) := by decide +kernel
theorem dX10_behindOne_4 : decode cX10_behindOne 4 = .ok (.istore_n 1, 1) := by decide +kernel
theorem dX10_behindOne_5 : decode cX10_behindOne 5 = .ok (.iload_n 1, 1) := by decide +kernel
theorem dX10_behindOne_6 : decode cX10_behindOne 6 = .ok (.ifCond .lt 62, 3) := by decide +kernel
theorem dX10_behindOne_9 : decode cX10_behindOne 9 = .ok (.aload_n 0, 1) := by decide +kernel
theorem dX10_behindOne_10 : decode cX10_behindOne 10 = .ok (.iload_n 1, 1) := by decide +kernel
theorem dX10_behindOne_11 : decode cX10_behindOne 11 = .ok (.invokestatic 168, 3) := by decide +kernel
theorem dX10_behindOne_14 : decode cX10_behindOne 14 = .ok (.invokevirtual 204, 3) := by decide +kernel
theorem dX10_behindOne_17 : decode cX10_behindOne 17 = .ok (.aload_n 0, 1) := by decide +kernel
theorem dX10_behindOne_18 : decode cX10_behindOne 18 = .ok (.getfield 29, 3) := by decide +kernel
theorem dX10_behindOne_21 : decode cX10_behindOne 21 = .ok (.aload_n 0, 1) := by decide +kernel
theorem dX10_behindOne_22 : decode cX10_behindOne 22 = .ok (.getfield 165, 3) := by decide +kernel
theorem dX10_behindOne_25 : decode cX10_behindOne 25 = .ok (.iload_n 1, 1) := by decide +kernel
theorem dX10_behindOne_26 : decode cX10_behindOne 26 = .ok (.iastore, 1) := by decide +kernel
theorem dX10_behindOne_27 : decode cX10_behindOne 27 = .ok (.aload_n 0, 1) := by decide +kernel
theorem dX10_behindOne_28 : decode cX10_behindOne 28 = .ok (.dup, 1) := by decide +kernel
theorem dX10_behindOne_29 : decode cX10_behindOne 29 = .ok (.getfield 165, 3) := by decide +kernel
theorem dX10_behindOne_32 : decode cX10_behindOne 32 = .ok (.iconst 1, 1) := by decide +kernel
theorem dX10_behindOne_33 : decode cX10_behindOne 33 = .ok (.iadd, 1) := by decide +kernel
theorem dX10_behindOne_34 : decode cX10_behindOne 34 = .ok (.putfield 165, 3) := by decide +kernel
theorem dX10_behindOne_37 : decode cX10_behindOne 37 = .ok (.aload_n 0, 1) := by decide +kernel
theorem dX10_behindOne_38 : decode cX10_behindOne 38 = .ok (.dup, 1) := by decide +kernel
theorem dX10_behindOne_39 : decode cX10_behindOne 39 = .ok (.getfield 230, 3) := by decide +kernel
theorem dX10_behindOne_42 : decode cX10_behindOne 42 = .ok (.iload_n 1, 1) := by decide +kernel
theorem dX10_behindOne_43 : decode cX10_behindOne 43 = .ok (.bipush 23, 2) := by decide +kernel
theorem dX10_behindOne_45 : decode cX10_behindOne 45 = .ok (.if_icmp .ne 7, 3) := by decide +kernel
theorem dX10_behindOne_48 : decode cX10_behindOne 48 = .ok (.iconst 1, 1) := by decide +kernel
theorem dX10_behindOne_49 : decode cX10_behindOne 49 = .ok (.goto 4, 3) := by decide +kernel
theorem dX10_behindOne_52 : decode cX10_behindOne 52 = .ok (.iconst 0, 1) := by decide +kernel
theorem dX10_behindOne_53 : decode cX10_behindOne 53 = .ok (.ior, 1) := by decide +kernel
theorem dX10_behindOne_54 : decode cX10_behindOne 54 = .ok (.putfield 230, 3) := by decide +kernel
theorem dX10_behindOne_57 : decode cX10_behindOne 57 = .ok (.aload_n 0, 1) := by decide +kernel
theorem dX10_behindOne_58 : decode cX10_behindOne 58 = .ok (.iconst 0, 1) := by decide +kernel
theorem dX10_behindOne_59 : decode cX10_behindOne 59 = .ok (.putfield 195, 3) := by decide +kernel
theorem dX10_behindOne_62 : decode cX10_behindOne 62 = .ok (.aload_n 0, 1) := by decide +kernel
theorem dX10_behindOne_63 : decode cX10_behindOne 63 = .ok (.invokevirtual 189, 3) := by decide +kernel
theorem dX10_behindOne_66 : decode cX10_behindOne 66 = .ok (.iconst 0, 1) := by decide +kernel
theorem dX10_behindOne_67 : decode cX10_behindOne 67 = .ok (.ireturn, 1) := by decide +kernel
theorem dX10_behindOne_68 : decode cX10_behindOne 68 = .ok (.aload_n 0, 1) := by decide +kernel
theorem dX10_behindOne_69 : decode cX10_behindOne 69 = .ok (.invokevirtual 182, 3) := by decide +kernel
theorem dX10_behindOne_72 : decode cX10_behindOne 72 = .ok (.istore_n 2, 1) := by decide +kernel
theorem dX10_behindOne_73 : decode cX10_behindOne 73 = .ok (.iload_n 2, 1) := by decide +kernel
theorem dX10_behindOne_74 : decode cX10_behindOne 74 = .ok (.bipush 41, 2) := by decide +kernel
theorem dX10_behindOne_76 : decode cX10_behindOne 76 = .ok (.if_icmp .ne 12, 3) := by decide +kernel
theorem dX10_behindOne_79 : decode cX10_behindOne 79 = .ok (.aload_n 0, 1) := by decide +kernel
theorem dX10_behindOne_80 : decode cX10_behindOne 80 = .ok (.invokevirtual 220, 3) := by decide +kernel
theorem dX10_behindOne_83 : decode cX10_behindOne 83 = .ok (.ifCond .ne 5, 3) := by decide +kernel
theorem dX10_behindOne_86 : decode cX10_behindOne 86 = .ok (.iconst (-1), 1) := by decide +kernel
theorem dX10_behindOne_87 : decode cX10_behindOne 87 = .ok (.ireturn, 1) := by decide +kernel
theorem dX10_behindOne_88 : decode cX10_behindOne 88 = .ok (.iload_n 2, 1) := by decide +kernel
theorem dX10_behindOne_89 : decode cX10_behindOne 89 = .ok (.bipush 41, 2) := by decide +kernel
theorem dX10_behindOne_91 : decode cX10_behindOne 91 = .ok (.if_icmp .ne 17, 3) := by decide +kernel
theorem dX10_behindOne_94 : decode cX10_behindOne 94 = .ok (.aload_n 0, 1) := by decide +kernel
theorem dX10_behindOne_95 : decode cX10_behindOne 95 = .ok (.getfield 107, 3) := by decide +kernel
theorem dX10_behindOne_98 : decode cX10_behindOne 98 = .ok (.bipush 44, 2) := by decide +kernel
theorem dX10_behindOne_100 : decode cX10_behindOne 100 = .ok (.if_icmp .ne 8, 3) := by decide +kernel
theorem dX10_behindOne_103 : decode cX10_behindOne 103 = .ok (.aload_n 0, 1) := by decide +kernel
theorem dX10_behindOne_104 : decode cX10_behindOne 104 = .ok (.invokevirtual 236, 3) := by decide +kernel
theorem dX10_behindOne_107 : decode cX10_behindOne 107 = .ok (.ireturn, 1) := by decide +kernel
theorem dX10_behindOne_108 : decode cX10_behindOne 108 = .ok (.iload_n 2, 1) := by decide +kernel
theorem dX10_behindOne_109 : decode cX10_behindOne 109 = .ok (.iconst (-1), 1) := by decide +kernel
theorem dX10_behindOne_110 : decode cX10_behindOne 110 = .ok (.if_icmp .eq 12, 3) := by decide +kernel
theorem dX10_behindOne_113 : decode cX10_behindOne 113 = .ok (.aload_n 0, 1) := by decide +kernel
theorem dX10_behindOne_114 : decode cX10_behindOne 114 = .ok (.getfield 107, 3) := by decide +kernel
theorem dX10_behindOne_117 : decode cX10_behindOne 117 = .ok (.bipush 41, 2) := by decide +kernel
theorem dX10_behindOne_119 : decode cX10_behindOne 119 = .ok (.if_icmp .eq 5, 3) := by decide +kernel
theorem dX10_behindOne_122 : decode cX10_behindOne 122 = .ok (.iconst (-1), 1) := by decide +kernel
theorem dX10_behindOne_123 : decode cX10_behindOne 123 = .ok (.ireturn, 1) := by decide +kernel
theorem dX10_behindOne_124 : decode cX10_behindOne 124 = .ok (.aload_n 0, 1) := by decide +kernel
theorem dX10_behindOne_125 : decode cX10_behindOne 125 = .ok (.iload_n 2, 1) := by decide +kernel
theorem dX10_behindOne_126 : decode cX10_behindOne 126 = .ok (.invokevirtual 239, 3) := by decide +kernel
theorem dX10_behindOne_129 : decode cX10_behindOne 129 = .ok (.iconst 0, 1) := by decide +kernel
theorem dX10_behindOne_130 : decode cX10_behindOne 130 = .ok (.ireturn, 1) := by decide +kernel
theorem dX10_parsed_0 : decode cX10_parsed 0 = .ok (.aload_n 0, 1) := by decide +kernel
theorem dX10_parsed_1 : decode cX10_parsed 1 = .ok (.iconst 0, 1) := by decide +kernel
theorem dX10_parsed_2 : decode cX10_parsed 2 = .ok (.putfield 165, 3) := by decide +kernel
theorem dX10_parsed_5 : decode cX10_parsed 5 = .ok (.aload_n 0, 1) := by decide +kernel
theorem dX10_parsed_6 : decode cX10_parsed 6 = .ok (.iconst 0, 1) := by decide +kernel
theorem dX10_parsed_7 : decode cX10_parsed 7 = .ok (.putfield 175, 3) := by decide +kernel
theorem dX10_parsed_10 : decode cX10_parsed 10 = .ok (.aload_n 0, 1) := by decide +kernel
theorem dX10_parsed_11 : decode cX10_parsed 11 = .ok (.iconst 0, 1) := by decide +kernel
theorem dX10_parsed_12 : decode cX10_parsed 12 = .ok (.putfield 192, 3) := by decide +kernel
theorem dX10_parsed_15 : decode cX10_parsed 15 = .ok (.aload_n 0, 1) := by decide +kernel
theorem dX10_parsed_16 : decode cX10_parsed 16 = .ok (.iconst 0, 1) := by decide +kernel
theorem dX10_parsed_17 : decode cX10_parsed 17 = .ok (.putfield 195, 3) := by decide +kernel
theorem dX10_parsed_20 : decode cX10_parsed 20 = .ok (.aload_n 0, 1) := by decide +kernel
theorem dX10_parsed_21 : decode cX10_parsed 21 = .ok (.iload_n 1, 1) := by decide +kernel
theorem dX10_parsed_22 : decode cX10_parsed 22 = .ok (.putfield 178, 3) := by decide +kernel
theorem dX10_parsed_25 : decode cX10_parsed 25 = .ok (.aload_n 0, 1) := by decide +kernel
theorem dX10_parsed_26 : decode cX10_parsed 26 = .ok (.iconst 0, 1) := by decide +kernel
theorem dX10_parsed_27 : decode cX10_parsed 27 = .ok (.putfield 230, 3) := by decide +kernel
theorem dX10_parsed_30 : decode cX10_parsed 30 = .ok (.aload_n 0, 1) := by decide +kernel
theorem dX10_parsed_31 : decode cX10_parsed 31 = .ok (.getfield 195, 3) := by decide +kernel
theorem dX10_parsed_34 : decode cX10_parsed 34 = .ok (.ifCond .eq 10, 3) := by decide +kernel
theorem dX10_parsed_37 : decode cX10_parsed 37 = .ok (.aload_n 0, 1) := by decide +kernel
theorem dX10_parsed_38 : decode cX10_parsed 38 = .ok (.invokevirtual 242, 3) := by decide +kernel
theorem dX10_parsed_41 : decode cX10_parsed 41 = .ok (.goto 7, 3) := by decide +kernel
theorem dX10_parsed_44 : decode cX10_parsed 44 = .ok (.aload_n 0, 1) := by decide +kernel
theorem dX10_parsed_45 : decode cX10_parsed 45 = .ok (.invokevirtual 245, 3) := by decide +kernel
theorem dX10_parsed_48 : decode cX10_parsed 48 = .ok (.istore_n 2, 1) := by decide +kernel
theorem dX10_parsed_49 : decode cX10_parsed 49 = .ok (.iload_n 2, 1) := by decide +kernel
theorem dX10_parsed_50 : decode cX10_parsed 50 = .ok (.ifCond .le 5, 3) := by decide +kernel
theorem dX10_parsed_53 : decode cX10_parsed 53 = .ok (.iload_n 2, 1) := by decide +kernel
theorem dX10_parsed_54 : decode cX10_parsed 54 = .ok (.ireturn, 1) := by decide +kernel
theorem dX10_parsed_55 : decode cX10_parsed 55 = .ok (.iload_n 2, 1) := by decide +kernel
theorem dX10_parsed_56 : decode cX10_parsed 56 = .ok (.ifCond .ne 6, 3) := by decide +kernel
theorem dX10_parsed_59 : decode cX10_parsed 59 = .ok (.goto (-29), 3) := by decide +kernel
theorem dX10_parsed_62 : decode cX10_parsed 62 = .ok (.aload_n 0, 1) := by decide +kernel
theorem dX10_parsed_63 : decode cX10_parsed 63 = .ok (.invokevirtual 182, 3) := by decide +kernel
theorem dX10_parsed_66 : decode cX10_parsed 66 = .ok (.ifCond .ge 14, 3) := by decide +kernel
theorem dX10_parsed_69 : decode cX10_parsed 69 = .ok (.iload_n 1, 1) := by decide +kernel
theorem dX10_parsed_70 : decode cX10_parsed 70 = .ok (.ifCond .eq 12, 3) := by decide +kernel
theorem dX10_parsed_73 : decode cX10_parsed 73 = .ok (.aload_n 0, 1) := by decide +kernel
theorem dX10_parsed_74 : decode cX10_parsed 74 = .ok (.invokevirtual 220, 3) := by decide +kernel
theorem dX10_parsed_77 : decode cX10_parsed 77 = .ok (.ifCond .ne 5, 3) := by decide +kernel
theorem dX10_parsed_80 : decode cX10_parsed 80 = .ok (.iconst 1, 1) := by decide +kernel
theorem dX10_parsed_81 : decode cX10_parsed 81 = .ok (.ireturn, 1) := by decide +kernel
theorem dX10_parsed_82 : decode cX10_parsed 82 = .ok (.aload_n 0, 1) := by decide +kernel
theorem dX10_parsed_83 : decode cX10_parsed 83 = .ok (.iconst 1, 1) := by decide +kernel
theorem dX10_parsed_84 : decode cX10_parsed 84 = .ok (.invokevirtual 204, 3) := by decide +kernel
theorem dX10_parsed_87 : decode cX10_parsed 87 = .ok (.iconst 0, 1) := by decide +kernel
theorem dX10_parsed_88 : decode cX10_parsed 88 = .ok (.ireturn, 1) := by decide +kernel
theorem dX10_figure_0 : decode cX10_figure 0 = .ok (.aload_n 0, 1) := by decide +kernel
theorem dX10_figure_1 : decode cX10_figure 1 = .ok (.getfield 107, 3) := by decide +kernel
theorem dX10_figure_4 : decode cX10_figure 4 = .ok (.iconst 1, 1) := by decide +kernel
theorem dX10_figure_5 : decode cX10_figure 5 = .ok (.if_icmp .eq 5, 3) := by decide +kernel
theorem dX10_figure_8 : decode cX10_figure 8 = .ok (.iconst 1, 1) := by decide +kernel
theorem dX10_figure_9 : decode cX10_figure 9 = .ok (.ireturn, 1) := by decide +kernel
theorem dX10_figure_10 : decode cX10_figure 10 = .ok (.aload_n 0, 1) := by decide +kernel
theorem dX10_figure_11 : decode cX10_figure 11 = .ok (.getfield 113, 3) := by decide +kernel
theorem dX10_figure_14 : decode cX10_figure 14 = .ok (.iload_n 2, 1) := by decide +kernel
theorem dX10_figure_15 : decode cX10_figure 15 = .ok (.iload_n 3, 1) := by decide +kernel
theorem dX10_figure_16 : decode cX10_figure 16 = .ok (.invokestatic 74, 3) := by decide +kernel
theorem dX10_figure_19 : decode cX10_figure 19 = .ok (.ifCond .ne 5, 3) := by decide +kernel
theorem dX10_figure_22 : decode cX10_figure 22 = .ok (.iconst 2, 1) := by decide +kernel
theorem dX10_figure_23 : decode cX10_figure 23 = .ok (.ireturn, 1) := by decide +kernel
theorem dX10_figure_24 : decode cX10_figure 24 = .ok (.aload_n 0, 1) := by decide +kernel
theorem dX10_figure_25 : decode cX10_figure 25 = .ok (.getfield 16, 3) := by decide +kernel
theorem dX10_figure_28 : decode cX10_figure 28 = .ok (.iload_n 1, 1) := by decide +kernel
theorem dX10_figure_29 : decode cX10_figure 29 = .ok (.aload_n 0, 1) := by decide +kernel
theorem dX10_figure_30 : decode cX10_figure 30 = .ok (.getfield 113, 3) := by decide +kernel
theorem dX10_figure_33 : decode cX10_figure 33 = .ok (.iastore, 1) := by decide +kernel
theorem dX10_figure_34 : decode cX10_figure 34 = .ok (.aload_n 0, 1) := by decide +kernel
theorem dX10_figure_35 : decode cX10_figure 35 = .ok (.invokevirtual 189, 3) := by decide +kernel
theorem dX10_figure_38 : decode cX10_figure 38 = .ok (.iconst 0, 1) := by decide +kernel
theorem dX10_figure_39 : decode cX10_figure 39 = .ok (.ireturn, 1) := by decide +kernel
theorem dX10_lawClause_0 : decode cX10_lawClause 0 = .ok (.aload_n 0, 1) := by decide +kernel
theorem dX10_lawClause_1 : decode cX10_lawClause 1 = .ok (.getfield 16, 3) := by decide +kernel
theorem dX10_lawClause_4 : decode cX10_lawClause 4 = .ok (.iload_n 1, 1) := by decide +kernel
theorem dX10_lawClause_5 : decode cX10_lawClause 5 = .ok (.iconst 1, 1) := by decide +kernel
theorem dX10_lawClause_6 : decode cX10_lawClause 6 = .ok (.iadd, 1) := by decide +kernel
theorem dX10_lawClause_7 : decode cX10_lawClause 7 = .ok (.aload_n 0, 1) := by decide +kernel
theorem dX10_lawClause_8 : decode cX10_lawClause 8 = .ok (.getfield 148, 3) := by decide +kernel
theorem dX10_lawClause_11 : decode cX10_lawClause 11 = .ok (.iastore, 1) := by decide +kernel
theorem dX10_lawClause_12 : decode cX10_lawClause 12 = .ok (.aload_n 0, 1) := by decide +kernel
theorem dX10_lawClause_13 : decode cX10_lawClause 13 = .ok (.iload_n 2, 1) := by decide +kernel
theorem dX10_lawClause_14 : decode cX10_lawClause 14 = .ok (.invokevirtual 248, 3) := by decide +kernel
theorem dX10_lawClause_17 : decode cX10_lawClause 17 = .ok (.istore_n 3, 1) := by decide +kernel
theorem dX10_lawClause_18 : decode cX10_lawClause 18 = .ok (.aload_n 0, 1) := by decide +kernel
theorem dX10_lawClause_19 : decode cX10_lawClause 19 = .ok (.getfield 16, 3) := by decide +kernel
theorem dX10_lawClause_22 : decode cX10_lawClause 22 = .ok (.iload_n 1, 1) := by decide +kernel
theorem dX10_lawClause_23 : decode cX10_lawClause 23 = .ok (.iconst 2, 1) := by decide +kernel
theorem dX10_lawClause_24 : decode cX10_lawClause 24 = .ok (.iadd, 1) := by decide +kernel
theorem dX10_lawClause_25 : decode cX10_lawClause 25 = .ok (.aload_n 0, 1) := by decide +kernel
theorem dX10_lawClause_26 : decode cX10_lawClause 26 = .ok (.getfield 148, 3) := by decide +kernel
theorem dX10_lawClause_29 : decode cX10_lawClause 29 = .ok (.iastore, 1) := by decide +kernel
theorem dX10_lawClause_30 : decode cX10_lawClause 30 = .ok (.iload_n 3, 1) := by decide +kernel
theorem dX10_lawClause_31 : decode cX10_lawClause 31 = .ok (.ireturn, 1) := by decide +kernel
theorem dX10_codeClause_0 : decode cX10_codeClause 0 = .ok (.aload_n 0, 1) := by decide +kernel
theorem dX10_codeClause_1 : decode cX10_codeClause 1 = .ok (.getfield 107, 3) := by decide +kernel
theorem dX10_codeClause_4 : decode cX10_codeClause 4 = .ok (.iconst 1, 1) := by decide +kernel
theorem dX10_codeClause_5 : decode cX10_codeClause 5 = .ok (.if_icmp .ne 27, 3) := by decide +kernel
theorem dX10_codeClause_8 : decode cX10_codeClause 8 = .ok (.aload_n 0, 1) := by decide +kernel
theorem dX10_codeClause_9 : decode cX10_codeClause 9 = .ok (.getfield 113, 3) := by decide +kernel
theorem dX10_codeClause_12 : decode cX10_codeClause 12 = .ok (.iconst 4, 1) := by decide +kernel
theorem dX10_codeClause_13 : decode cX10_codeClause 13 = .ok (.if_icmp .ge 19, 3) := by decide +kernel
theorem dX10_codeClause_16 : decode cX10_codeClause 16 = .ok (.aload_n 0, 1) := by decide +kernel
theorem dX10_codeClause_17 : decode cX10_codeClause 17 = .ok (.getfield 252, 3) := by decide +kernel
theorem dX10_codeClause_20 : decode cX10_codeClause 20 = .ok (.aload_n 0, 1) := by decide +kernel
theorem dX10_codeClause_21 : decode cX10_codeClause 21 = .ok (.getfield 113, 3) := by decide +kernel
theorem dX10_codeClause_24 : decode cX10_codeClause 24 = .ok (.invokestatic 255, 3) := by decide +kernel
theorem dX10_codeClause_27 : decode cX10_codeClause 27 = .ok (.ifCond .eq 5, 3) := by decide +kernel
theorem dX10_codeClause_30 : decode cX10_codeClause 30 = .ok (.iconst 4, 1) := by decide +kernel
theorem dX10_codeClause_31 : decode cX10_codeClause 31 = .ok (.ireturn, 1) := by decide +kernel
theorem dX10_codeClause_32 : decode cX10_codeClause 32 = .ok (.aload_n 0, 1) := by decide +kernel
theorem dX10_codeClause_33 : decode cX10_codeClause 33 = .ok (.iload_n 1, 1) := by decide +kernel
theorem dX10_codeClause_34 : decode cX10_codeClause 34 = .ok (.iconst 3, 1) := by decide +kernel
theorem dX10_codeClause_35 : decode cX10_codeClause 35 = .ok (.iadd, 1) := by decide +kernel
theorem dX10_codeClause_36 : decode cX10_codeClause 36 = .ok (.iconst 0, 1) := by decide +kernel
theorem dX10_codeClause_37 : decode cX10_codeClause 37 = .ok (.iconst 3, 1) := by decide +kernel
theorem dX10_codeClause_38 : decode cX10_codeClause 38 = .ok (.invokevirtual 259, 3) := by decide +kernel
theorem dX10_codeClause_41 : decode cX10_codeClause 41 = .ok (.istore_n 2, 1) := by decide +kernel
theorem dX10_codeClause_42 : decode cX10_codeClause 42 = .ok (.iload_n 2, 1) := by decide +kernel
theorem dX10_codeClause_43 : decode cX10_codeClause 43 = .ok (.ifCond .eq 5, 3) := by decide +kernel
theorem dX10_codeClause_46 : decode cX10_codeClause 46 = .ok (.iload_n 2, 1) := by decide +kernel
theorem dX10_codeClause_47 : decode cX10_codeClause 47 = .ok (.ireturn, 1) := by decide +kernel
theorem dX10_codeClause_48 : decode cX10_codeClause 48 = .ok (.aload_n 0, 1) := by decide +kernel
theorem dX10_codeClause_49 : decode cX10_codeClause 49 = .ok (.dup, 1) := by decide +kernel
theorem dX10_codeClause_50 : decode cX10_codeClause 50 = .ok (.getfield 252, 3) := by decide +kernel
theorem dX10_codeClause_53 : decode cX10_codeClause 53 = .ok (.iconst 1, 1) := by decide +kernel
theorem dX10_codeClause_54 : decode cX10_codeClause 54 = .ok (.aload_n 0, 1) := by decide +kernel
theorem dX10_codeClause_55 : decode cX10_codeClause 55 = .ok (.getfield 16, 3) := by decide +kernel
theorem dX10_codeClause_58 : decode cX10_codeClause 58 = .ok (.iload_n 1, 1) := by decide +kernel
theorem dX10_codeClause_59 : decode cX10_codeClause 59 = .ok (.iconst 3, 1) := by decide +kernel
theorem dX10_codeClause_60 : decode cX10_codeClause 60 = .ok (.iadd, 1) := by decide +kernel
theorem dX10_codeClause_61 : decode cX10_codeClause 61 = .ok (.iaload, 1) := by decide +kernel
theorem dX10_codeClause_62 : decode cX10_codeClause 62 = .ok (.ishl, 1) := by decide +kernel
theorem dX10_codeClause_63 : decode cX10_codeClause 63 = .ok (.ior, 1) := by decide +kernel
theorem dX10_codeClause_64 : decode cX10_codeClause 64 = .ok (.putfield 252, 3) := by decide +kernel
theorem dX10_codeClause_67 : decode cX10_codeClause 67 = .ok (.aload_n 0, 1) := by decide +kernel
theorem dX10_codeClause_68 : decode cX10_codeClause 68 = .ok (.getfield 107, 3) := by decide +kernel
theorem dX10_codeClause_71 : decode cX10_codeClause 71 = .ok (.bipush 58, 2) := by decide +kernel
theorem dX10_codeClause_73 : decode cX10_codeClause 73 = .ok (.if_icmp .eq 5, 3) := by decide +kernel
theorem dX10_codeClause_76 : decode cX10_codeClause 76 = .ok (.iconst 1, 1) := by decide +kernel
theorem dX10_codeClause_77 : decode cX10_codeClause 77 = .ok (.ireturn, 1) := by decide +kernel
theorem dX10_codeClause_78 : decode cX10_codeClause 78 = .ok (.aload_n 0, 1) := by decide +kernel
theorem dX10_codeClause_79 : decode cX10_codeClause 79 = .ok (.invokevirtual 189, 3) := by decide +kernel
theorem dX10_codeClause_82 : decode cX10_codeClause 82 = .ok (.aload_n 0, 1) := by decide +kernel
theorem dX10_codeClause_83 : decode cX10_codeClause 83 = .ok (.iload_n 1, 1) := by decide +kernel
theorem dX10_codeClause_84 : decode cX10_codeClause 84 = .ok (.iconst 1, 1) := by decide +kernel
theorem dX10_codeClause_85 : decode cX10_codeClause 85 = .ok (.invokevirtual 263, 3) := by decide +kernel
theorem dX10_codeClause_88 : decode cX10_codeClause 88 = .ok (.ireturn, 1) := by decide +kernel
theorem dX10_caseClause_0 : decode cX10_caseClause 0 = .ok (.aload_n 0, 1) := by decide +kernel
theorem dX10_caseClause_1 : decode cX10_caseClause 1 = .ok (.iload_n 1, 1) := by decide +kernel
theorem dX10_caseClause_2 : decode cX10_caseClause 2 = .ok (.iconst 1, 1) := by decide +kernel
theorem dX10_caseClause_3 : decode cX10_caseClause 3 = .ok (.iadd, 1) := by decide +kernel
theorem dX10_caseClause_4 : decode cX10_caseClause 4 = .ok (.iconst 0, 1) := by decide +kernel
theorem dX10_caseClause_5 : decode cX10_caseClause 5 = .ok (.iconst 5, 1) := by decide +kernel
theorem dX10_caseClause_6 : decode cX10_caseClause 6 = .ok (.invokevirtual 259, 3) := by decide +kernel
theorem dX10_caseClause_9 : decode cX10_caseClause 9 = .ok (.istore_n 2, 1) := by decide +kernel
theorem dX10_caseClause_10 : decode cX10_caseClause 10 = .ok (.iload_n 2, 1) := by decide +kernel
theorem dX10_caseClause_11 : decode cX10_caseClause 11 = .ok (.ifCond .eq 5, 3) := by decide +kernel
theorem dX10_caseClause_14 : decode cX10_caseClause 14 = .ok (.iload_n 2, 1) := by decide +kernel
theorem dX10_caseClause_15 : decode cX10_caseClause 15 = .ok (.ireturn, 1) := by decide +kernel
theorem dX10_caseClause_16 : decode cX10_caseClause 16 = .ok (.aload_n 0, 1) := by decide +kernel
theorem dX10_caseClause_17 : decode cX10_caseClause 17 = .ok (.invokevirtual 159, 3) := by decide +kernel
theorem dX10_caseClause_20 : decode cX10_caseClause 20 = .ok (.ifCond .ne 5, 3) := by decide +kernel
theorem dX10_caseClause_23 : decode cX10_caseClause 23 = .ok (.iconst 1, 1) := by decide +kernel
theorem dX10_caseClause_24 : decode cX10_caseClause 24 = .ok (.ireturn, 1) := by decide +kernel
theorem dX10_caseClause_25 : decode cX10_caseClause 25 = .ok (.aload_n 0, 1) := by decide +kernel
theorem dX10_caseClause_26 : decode cX10_caseClause 26 = .ok (.invokevirtual 189, 3) := by decide +kernel
theorem dX10_caseClause_29 : decode cX10_caseClause 29 = .ok (.aload_n 0, 1) := by decide +kernel
theorem dX10_caseClause_30 : decode cX10_caseClause 30 = .ok (.iload_n 1, 1) := by decide +kernel
theorem dX10_caseClause_31 : decode cX10_caseClause 31 = .ok (.iconst 2, 1) := by decide +kernel
theorem dX10_caseClause_32 : decode cX10_caseClause 32 = .ok (.iadd, 1) := by decide +kernel
theorem dX10_caseClause_33 : decode cX10_caseClause 33 = .ok (.iconst 1, 1) := by decide +kernel
theorem dX10_caseClause_34 : decode cX10_caseClause 34 = .ok (.bipush 9, 2) := by decide +kernel
theorem dX10_caseClause_36 : decode cX10_caseClause 36 = .ok (.invokevirtual 259, 3) := by decide +kernel
theorem dX10_caseClause_39 : decode cX10_caseClause 39 = .ok (.istore_n 2, 1) := by decide +kernel
theorem dX10_caseClause_40 : decode cX10_caseClause 40 = .ok (.iload_n 2, 1) := by decide +kernel
theorem dX10_caseClause_41 : decode cX10_caseClause 41 = .ok (.ifCond .eq 5, 3) := by decide +kernel
theorem dX10_caseClause_44 : decode cX10_caseClause 44 = .ok (.iload_n 2, 1) := by decide +kernel
theorem dX10_caseClause_45 : decode cX10_caseClause 45 = .ok (.ireturn, 1) := by decide +kernel
theorem dX10_caseClause_46 : decode cX10_caseClause 46 = .ok (.aload_n 0, 1) := by decide +kernel
theorem dX10_caseClause_47 : decode cX10_caseClause 47 = .ok (.bipush 110, 2) := by decide +kernel
theorem dX10_caseClause_49 : decode cX10_caseClause 49 = .ok (.bipush 101, 2) := by decide +kernel
theorem dX10_caseClause_51 : decode cX10_caseClause 51 = .ok (.bipush 101, 2) := by decide +kernel
theorem dX10_caseClause_53 : decode cX10_caseClause 53 = .ok (.bipush 100, 2) := by decide +kernel
theorem dX10_caseClause_55 : decode cX10_caseClause 55 = .ok (.bipush 115, 2) := by decide +kernel
theorem dX10_caseClause_57 : decode cX10_caseClause 57 = .ok (.invokestatic 141, 3) := by decide +kernel
theorem dX10_caseClause_60 : decode cX10_caseClause 60 = .ok (.invokevirtual 213, 3) := by decide +kernel
theorem dX10_caseClause_63 : decode cX10_caseClause 63 = .ok (.ifCond .ne 5, 3) := by decide +kernel
theorem dX10_caseClause_66 : decode cX10_caseClause 66 = .ok (.iconst 1, 1) := by decide +kernel
theorem dX10_caseClause_67 : decode cX10_caseClause 67 = .ok (.ireturn, 1) := by decide +kernel
theorem dX10_caseClause_68 : decode cX10_caseClause 68 = .ok (.aload_n 0, 1) := by decide +kernel
theorem dX10_caseClause_69 : decode cX10_caseClause 69 = .ok (.invokevirtual 189, 3) := by decide +kernel
theorem dX10_caseClause_72 : decode cX10_caseClause 72 = .ok (.aload_n 0, 1) := by decide +kernel
theorem dX10_caseClause_73 : decode cX10_caseClause 73 = .ok (.iload_n 1, 1) := by decide +kernel
theorem dX10_caseClause_74 : decode cX10_caseClause 74 = .ok (.iconst 3, 1) := by decide +kernel
theorem dX10_caseClause_75 : decode cX10_caseClause 75 = .ok (.iadd, 1) := by decide +kernel
theorem dX10_caseClause_76 : decode cX10_caseClause 76 = .ok (.iconst 1, 1) := by decide +kernel
theorem dX10_caseClause_77 : decode cX10_caseClause 77 = .ok (.bipush 9, 2) := by decide +kernel
theorem dX10_caseClause_79 : decode cX10_caseClause 79 = .ok (.invokevirtual 259, 3) := by decide +kernel
theorem dX10_caseClause_82 : decode cX10_caseClause 82 = .ok (.ireturn, 1) := by decide +kernel
theorem dX10_gustClause_0 : decode cX10_gustClause 0 = .ok (.aload_n 0, 1) := by decide +kernel
theorem dX10_gustClause_1 : decode cX10_gustClause 1 = .ok (.iload_n 1, 1) := by decide +kernel
theorem dX10_gustClause_2 : decode cX10_gustClause 2 = .ok (.iconst 1, 1) := by decide +kernel
theorem dX10_gustClause_3 : decode cX10_gustClause 3 = .ok (.iadd, 1) := by decide +kernel
theorem dX10_gustClause_4 : decode cX10_gustClause 4 = .ok (.iconst 0, 1) := by decide +kernel
theorem dX10_gustClause_5 : decode cX10_gustClause 5 = .ok (.iconst 3, 1) := by decide +kernel
theorem dX10_gustClause_6 : decode cX10_gustClause 6 = .ok (.invokevirtual 259, 3) := by decide +kernel
theorem dX10_gustClause_9 : decode cX10_gustClause 9 = .ok (.istore_n 2, 1) := by decide +kernel
theorem dX10_gustClause_10 : decode cX10_gustClause 10 = .ok (.iload_n 2, 1) := by decide +kernel
theorem dX10_gustClause_11 : decode cX10_gustClause 11 = .ok (.ifCond .eq 5, 3) := by decide +kernel
theorem dX10_gustClause_14 : decode cX10_gustClause 14 = .ok (.iload_n 2, 1) := by decide +kernel
theorem dX10_gustClause_15 : decode cX10_gustClause 15 = .ok (.ireturn, 1) := by decide +kernel
theorem dX10_gustClause_16 : decode cX10_gustClause 16 = .ok (.aload_n 0, 1) := by decide +kernel
theorem dX10_gustClause_17 : decode cX10_gustClause 17 = .ok (.bipush 102, 2) := by decide +kernel
theorem dX10_gustClause_19 : decode cX10_gustClause 19 = .ok (.bipush 111, 2) := by decide +kernel
theorem dX10_gustClause_21 : decode cX10_gustClause 21 = .ok (.bipush 114, 2) := by decide +kernel
theorem dX10_gustClause_23 : decode cX10_gustClause 23 = .ok (.bipush 99, 2) := by decide +kernel
theorem dX10_gustClause_25 : decode cX10_gustClause 25 = .ok (.bipush 101, 2) := by decide +kernel
theorem dX10_gustClause_27 : decode cX10_gustClause 27 = .ok (.invokestatic 141, 3) := by decide +kernel
theorem dX10_gustClause_30 : decode cX10_gustClause 30 = .ok (.invokevirtual 213, 3) := by decide +kernel
theorem dX10_gustClause_33 : decode cX10_gustClause 33 = .ok (.ifCond .ne 5, 3) := by decide +kernel
theorem dX10_gustClause_36 : decode cX10_gustClause 36 = .ok (.iconst 1, 1) := by decide +kernel
theorem dX10_gustClause_37 : decode cX10_gustClause 37 = .ok (.ireturn, 1) := by decide +kernel
theorem dX10_gustClause_38 : decode cX10_gustClause 38 = .ok (.aload_n 0, 1) := by decide +kernel
theorem dX10_gustClause_39 : decode cX10_gustClause 39 = .ok (.invokevirtual 189, 3) := by decide +kernel
theorem dX10_gustClause_42 : decode cX10_gustClause 42 = .ok (.aload_n 0, 1) := by decide +kernel
theorem dX10_gustClause_43 : decode cX10_gustClause 43 = .ok (.iload_n 1, 1) := by decide +kernel
theorem dX10_gustClause_44 : decode cX10_gustClause 44 = .ok (.iconst 2, 1) := by decide +kernel
theorem dX10_gustClause_45 : decode cX10_gustClause 45 = .ok (.iadd, 1) := by decide +kernel
theorem dX10_gustClause_46 : decode cX10_gustClause 46 = .ok (.iconst 0, 1) := by decide +kernel
theorem dX10_gustClause_47 : decode cX10_gustClause 47 = .ok (.bipush 9, 2) := by decide +kernel
theorem dX10_gustClause_49 : decode cX10_gustClause 49 = .ok (.invokevirtual 259, 3) := by decide +kernel
theorem dX10_gustClause_52 : decode cX10_gustClause 52 = .ok (.ireturn, 1) := by decide +kernel
theorem dX10_body_0 : decode cX10_body 0 = .ok (.iload_n 1, 1) := by decide +kernel
theorem dX10_body_1 : decode cX10_body 1 = .ok (.tableswitch 102 4 11 #[47, 53, 59, 70, 72, 83, 89, 91], 47) := by decide +kernel
theorem dX10_body_48 : decode cX10_body 48 = .ok (.aload_n 0, 1) := by decide +kernel
theorem dX10_body_49 : decode cX10_body 49 = .ok (.iload_n 2, 1) := by decide +kernel
theorem dX10_body_50 : decode cX10_body 50 = .ok (.invokevirtual 267, 3) := by decide +kernel
theorem dX10_body_53 : decode cX10_body 53 = .ok (.ireturn, 1) := by decide +kernel
theorem dX10_body_54 : decode cX10_body 54 = .ok (.aload_n 0, 1) := by decide +kernel
theorem dX10_body_55 : decode cX10_body 55 = .ok (.iload_n 2, 1) := by decide +kernel
theorem dX10_body_56 : decode cX10_body 56 = .ok (.invokevirtual 270, 3) := by decide +kernel
theorem dX10_body_59 : decode cX10_body 59 = .ok (.ireturn, 1) := by decide +kernel
theorem dX10_body_60 : decode cX10_body 60 = .ok (.aload_n 0, 1) := by decide +kernel
theorem dX10_body_61 : decode cX10_body 61 = .ok (.iload_n 2, 1) := by decide +kernel
theorem dX10_body_62 : decode cX10_body 62 = .ok (.iconst 1, 1) := by decide +kernel
theorem dX10_body_63 : decode cX10_body 63 = .ok (.iadd, 1) := by decide +kernel
theorem dX10_body_64 : decode cX10_body 64 = .ok (.iconst 0, 1) := by decide +kernel
theorem dX10_body_65 : decode cX10_body 65 = .ok (.bipush 7, 2) := by decide +kernel
theorem dX10_body_67 : decode cX10_body 67 = .ok (.invokevirtual 259, 3) := by decide +kernel
theorem dX10_body_70 : decode cX10_body 70 = .ok (.ireturn, 1) := by decide +kernel
theorem dX10_body_71 : decode cX10_body 71 = .ok (.iconst 0, 1) := by decide +kernel
theorem dX10_body_72 : decode cX10_body 72 = .ok (.ireturn, 1) := by decide +kernel
theorem dX10_body_73 : decode cX10_body 73 = .ok (.aload_n 0, 1) := by decide +kernel
theorem dX10_body_74 : decode cX10_body 74 = .ok (.iload_n 2, 1) := by decide +kernel
theorem dX10_body_75 : decode cX10_body 75 = .ok (.iconst 1, 1) := by decide +kernel
theorem dX10_body_76 : decode cX10_body 76 = .ok (.iadd, 1) := by decide +kernel
theorem dX10_body_77 : decode cX10_body 77 = .ok (.iconst 0, 1) := by decide +kernel
theorem dX10_body_78 : decode cX10_body 78 = .ok (.bipush 7, 2) := by decide +kernel
theorem dX10_body_80 : decode cX10_body 80 = .ok (.invokevirtual 259, 3) := by decide +kernel
theorem dX10_body_83 : decode cX10_body 83 = .ok (.ireturn, 1) := by decide +kernel
theorem dX10_body_84 : decode cX10_body 84 = .ok (.aload_n 0, 1) := by decide +kernel
theorem dX10_body_85 : decode cX10_body 85 = .ok (.iload_n 2, 1) := by decide +kernel
theorem dX10_body_86 : decode cX10_body 86 = .ok (.invokevirtual 273, 3) := by decide +kernel
theorem dX10_body_89 : decode cX10_body 89 = .ok (.ireturn, 1) := by decide +kernel
theorem dX10_body_90 : decode cX10_body 90 = .ok (.iconst 0, 1) := by decide +kernel
theorem dX10_body_91 : decode cX10_body 91 = .ok (.ireturn, 1) := by decide +kernel
theorem dX10_body_92 : decode cX10_body 92 = .ok (.aload_n 0, 1) := by decide +kernel
theorem dX10_body_93 : decode cX10_body 93 = .ok (.iload_n 2, 1) := by decide +kernel
theorem dX10_body_94 : decode cX10_body 94 = .ok (.iconst 1, 1) := by decide +kernel
theorem dX10_body_95 : decode cX10_body 95 = .ok (.iadd, 1) := by decide +kernel
theorem dX10_body_96 : decode cX10_body 96 = .ok (.iconst 1, 1) := by decide +kernel
theorem dX10_body_97 : decode cX10_body 97 = .ok (.bipush 60, 2) := by decide +kernel
theorem dX10_body_99 : decode cX10_body 99 = .ok (.invokevirtual 259, 3) := by decide +kernel
theorem dX10_body_102 : decode cX10_body 102 = .ok (.ireturn, 1) := by decide +kernel
theorem dX10_body_103 : decode cX10_body 103 = .ok (.aload_n 0, 1) := by decide +kernel
theorem dX10_body_104 : decode cX10_body 104 = .ok (.iload_n 2, 1) := by decide +kernel
theorem dX10_body_105 : decode cX10_body 105 = .ok (.iload_n 1, 1) := by decide +kernel
theorem dX10_body_106 : decode cX10_body 106 = .ok (.iconst 2, 1) := by decide +kernel
theorem dX10_body_107 : decode cX10_body 107 = .ok (.if_icmp .ne 7, 3) := by decide +kernel
theorem dX10_body_110 : decode cX10_body 110 = .ok (.iconst 1, 1) := by decide +kernel
theorem dX10_body_111 : decode cX10_body 111 = .ok (.goto 4, 3) := by decide +kernel
theorem dX10_body_114 : decode cX10_body 114 = .ok (.iconst 0, 1) := by decide +kernel
theorem dX10_body_115 : decode cX10_body 115 = .ok (.invokevirtual 263, 3) := by decide +kernel
theorem dX10_body_118 : decode cX10_body 118 = .ok (.ireturn, 1) := by decide +kernel
theorem dX10_sortOf_0 : decode cX10_sortOf 0 = .ok (.aload_n 0, 1) := by decide +kernel
theorem dX10_sortOf_1 : decode cX10_sortOf 1 = .ok (.bipush 118, 2) := by decide +kernel
theorem dX10_sortOf_3 : decode cX10_sortOf 3 = .ok (.bipush 101, 2) := by decide +kernel
theorem dX10_sortOf_5 : decode cX10_sortOf 5 = .ok (.bipush 101, 2) := by decide +kernel
theorem dX10_sortOf_7 : decode cX10_sortOf 7 = .ok (.bipush 114, 2) := by decide +kernel
theorem dX10_sortOf_9 : decode cX10_sortOf 9 = .ok (.bipush 115, 2) := by decide +kernel
theorem dX10_sortOf_11 : decode cX10_sortOf 11 = .ok (.invokestatic 141, 3) := by decide +kernel
theorem dX10_sortOf_14 : decode cX10_sortOf 14 = .ok (.invokevirtual 213, 3) := by decide +kernel
theorem dX10_sortOf_17 : decode cX10_sortOf 17 = .ok (.ifCond .eq 5, 3) := by decide +kernel
theorem dX10_sortOf_20 : decode cX10_sortOf 20 = .ok (.iconst 0, 1) := by decide +kernel
theorem dX10_sortOf_21 : decode cX10_sortOf 21 = .ok (.ireturn, 1) := by decide +kernel
theorem dX10_sortOf_22 : decode cX10_sortOf 22 = .ok (.aload_n 0, 1) := by decide +kernel
theorem dX10_sortOf_23 : decode cX10_sortOf 23 = .ok (.bipush 98, 2) := by decide +kernel
theorem dX10_sortOf_25 : decode cX10_sortOf 25 = .ok (.bipush 108, 2) := by decide +kernel
theorem dX10_sortOf_27 : decode cX10_sortOf 27 = .ok (.bipush 111, 2) := by decide +kernel
theorem dX10_sortOf_29 : decode cX10_sortOf 29 = .ok (.bipush 119, 2) := by decide +kernel
theorem dX10_sortOf_31 : decode cX10_sortOf 31 = .ok (.bipush 115, 2) := by decide +kernel
theorem dX10_sortOf_33 : decode cX10_sortOf 33 = .ok (.invokestatic 141, 3) := by decide +kernel
theorem dX10_sortOf_36 : decode cX10_sortOf 36 = .ok (.invokevirtual 213, 3) := by decide +kernel
theorem dX10_sortOf_39 : decode cX10_sortOf 39 = .ok (.ifCond .eq 5, 3) := by decide +kernel
theorem dX10_sortOf_42 : decode cX10_sortOf 42 = .ok (.iconst 1, 1) := by decide +kernel
theorem dX10_sortOf_43 : decode cX10_sortOf 43 = .ok (.ireturn, 1) := by decide +kernel
theorem dX10_sortOf_44 : decode cX10_sortOf 44 = .ok (.aload_n 0, 1) := by decide +kernel
theorem dX10_sortOf_45 : decode cX10_sortOf 45 = .ok (.bipush 102, 2) := by decide +kernel
theorem dX10_sortOf_47 : decode cX10_sortOf 47 = .ok (.bipush 111, 2) := by decide +kernel
theorem dX10_sortOf_49 : decode cX10_sortOf 49 = .ok (.bipush 103, 2) := by decide +kernel
theorem dX10_sortOf_51 : decode cX10_sortOf 51 = .ok (.bipush 115, 2) := by decide +kernel
theorem dX10_sortOf_53 : decode cX10_sortOf 53 = .ok (.invokestatic 137, 3) := by decide +kernel
theorem dX10_sortOf_56 : decode cX10_sortOf 56 = .ok (.invokevirtual 213, 3) := by decide +kernel
theorem dX10_sortOf_59 : decode cX10_sortOf 59 = .ok (.ifCond .eq 5, 3) := by decide +kernel
theorem dX10_sortOf_62 : decode cX10_sortOf 62 = .ok (.iconst 2, 1) := by decide +kernel
theorem dX10_sortOf_63 : decode cX10_sortOf 63 = .ok (.ireturn, 1) := by decide +kernel
theorem dX10_sortOf_64 : decode cX10_sortOf 64 = .ok (.aload_n 0, 1) := by decide +kernel
theorem dX10_sortOf_65 : decode cX10_sortOf 65 = .ok (.invokevirtual 276, 3) := by decide +kernel
theorem dX10_sortOf_68 : decode cX10_sortOf 68 = .ok (.ifCond .eq 5, 3) := by decide +kernel
theorem dX10_sortOf_71 : decode cX10_sortOf 71 = .ok (.iconst 3, 1) := by decide +kernel
theorem dX10_sortOf_72 : decode cX10_sortOf 72 = .ok (.ireturn, 1) := by decide +kernel
theorem dX10_sortOf_73 : decode cX10_sortOf 73 = .ok (.aload_n 0, 1) := by decide +kernel
theorem dX10_sortOf_74 : decode cX10_sortOf 74 = .ok (.bipush 99, 2) := by decide +kernel
theorem dX10_sortOf_76 : decode cX10_sortOf 76 = .ok (.bipush 111, 2) := by decide +kernel
theorem dX10_sortOf_78 : decode cX10_sortOf 78 = .ok (.bipush 100, 2) := by decide +kernel
theorem dX10_sortOf_80 : decode cX10_sortOf 80 = .ok (.bipush 101, 2) := by decide +kernel
theorem dX10_sortOf_82 : decode cX10_sortOf 82 = .ok (.invokestatic 137, 3) := by decide +kernel
theorem dX10_sortOf_85 : decode cX10_sortOf 85 = .ok (.invokevirtual 213, 3) := by decide +kernel
theorem dX10_sortOf_88 : decode cX10_sortOf 88 = .ok (.ifCond .eq 5, 3) := by decide +kernel
theorem dX10_sortOf_91 : decode cX10_sortOf 91 = .ok (.iconst 4, 1) := by decide +kernel
theorem dX10_sortOf_92 : decode cX10_sortOf 92 = .ok (.ireturn, 1) := by decide +kernel
theorem dX10_sortOf_93 : decode cX10_sortOf 93 = .ok (.aload_n 0, 1) := by decide +kernel
theorem dX10_sortOf_94 : decode cX10_sortOf 94 = .ok (.bipush 99, 2) := by decide +kernel
theorem dX10_sortOf_96 : decode cX10_sortOf 96 = .ok (.bipush 97, 2) := by decide +kernel
theorem dX10_sortOf_98 : decode cX10_sortOf 98 = .ok (.bipush 115, 2) := by decide +kernel
theorem dX10_sortOf_100 : decode cX10_sortOf 100 = .ok (.bipush 101, 2) := by decide +kernel
theorem dX10_sortOf_102 : decode cX10_sortOf 102 = .ok (.invokestatic 137, 3) := by decide +kernel
theorem dX10_sortOf_105 : decode cX10_sortOf 105 = .ok (.invokevirtual 213, 3) := by decide +kernel
theorem dX10_sortOf_108 : decode cX10_sortOf 108 = .ok (.ifCond .eq 5, 3) := by decide +kernel
theorem dX10_sortOf_111 : decode cX10_sortOf 111 = .ok (.iconst 5, 1) := by decide +kernel
theorem dX10_sortOf_112 : decode cX10_sortOf 112 = .ok (.ireturn, 1) := by decide +kernel
theorem dX10_sortOf_113 : decode cX10_sortOf 113 = .ok (.aload_n 0, 1) := by decide +kernel
theorem dX10_sortOf_114 : decode cX10_sortOf 114 = .ok (.bipush 99, 2) := by decide +kernel
theorem dX10_sortOf_116 : decode cX10_sortOf 116 = .ok (.bipush 97, 2) := by decide +kernel
theorem dX10_sortOf_118 : decode cX10_sortOf 118 = .ok (.bipush 108, 2) := by decide +kernel
theorem dX10_sortOf_120 : decode cX10_sortOf 120 = .ok (.bipush 108, 2) := by decide +kernel
theorem dX10_sortOf_122 : decode cX10_sortOf 122 = .ok (.invokestatic 137, 3) := by decide +kernel
theorem dX10_sortOf_125 : decode cX10_sortOf 125 = .ok (.invokevirtual 213, 3) := by decide +kernel
theorem dX10_sortOf_128 : decode cX10_sortOf 128 = .ok (.ifCond .eq 6, 3) := by decide +kernel
theorem dX10_sortOf_131 : decode cX10_sortOf 131 = .ok (.bipush 6, 2) := by decide +kernel
theorem dX10_sortOf_133 : decode cX10_sortOf 133 = .ok (.ireturn, 1) := by decide +kernel
theorem dX10_sortOf_134 : decode cX10_sortOf 134 = .ok (.aload_n 0, 1) := by decide +kernel
theorem dX10_sortOf_135 : decode cX10_sortOf 135 = .ok (.bipush 100, 2) := by decide +kernel
theorem dX10_sortOf_137 : decode cX10_sortOf 137 = .ok (.bipush 101, 2) := by decide +kernel
theorem dX10_sortOf_139 : decode cX10_sortOf 139 = .ok (.bipush 108, 2) := by decide +kernel
theorem dX10_sortOf_141 : decode cX10_sortOf 141 = .ok (.bipush 97, 2) := by decide +kernel
theorem dX10_sortOf_143 : decode cX10_sortOf 143 = .ok (.bipush 121, 2) := by decide +kernel
theorem dX10_sortOf_145 : decode cX10_sortOf 145 = .ok (.invokestatic 141, 3) := by decide +kernel
theorem dX10_sortOf_148 : decode cX10_sortOf 148 = .ok (.invokevirtual 213, 3) := by decide +kernel
theorem dX10_sortOf_151 : decode cX10_sortOf 151 = .ok (.ifCond .eq 6, 3) := by decide +kernel
theorem dX10_sortOf_154 : decode cX10_sortOf 154 = .ok (.bipush 7, 2) := by decide +kernel
theorem dX10_sortOf_156 : decode cX10_sortOf 156 = .ok (.ireturn, 1) := by decide +kernel
theorem dX10_sortOf_157 : decode cX10_sortOf 157 = .ok (.aload_n 0, 1) := by decide +kernel
theorem dX10_sortOf_158 : decode cX10_sortOf 158 = .ok (.bipush 97, 2) := by decide +kernel
theorem dX10_sortOf_160 : decode cX10_sortOf 160 = .ok (.bipush 112, 2) := by decide +kernel
theorem dX10_sortOf_162 : decode cX10_sortOf 162 = .ok (.bipush 112, 2) := by decide +kernel
theorem dX10_sortOf_164 : decode cX10_sortOf 164 = .ok (.bipush 101, 2) := by decide +kernel
theorem dX10_sortOf_166 : decode cX10_sortOf 166 = .ok (.bipush 97, 2) := by decide +kernel
theorem dX10_sortOf_168 : decode cX10_sortOf 168 = .ok (.bipush 108, 2) := by decide +kernel
theorem dX10_sortOf_170 : decode cX10_sortOf 170 = .ok (.invokestatic 226, 3) := by decide +kernel
theorem dX10_sortOf_173 : decode cX10_sortOf 173 = .ok (.invokevirtual 213, 3) := by decide +kernel
theorem dX10_sortOf_176 : decode cX10_sortOf 176 = .ok (.ifCond .eq 6, 3) := by decide +kernel
theorem dX10_sortOf_179 : decode cX10_sortOf 179 = .ok (.bipush 8, 2) := by decide +kernel
theorem dX10_sortOf_181 : decode cX10_sortOf 181 = .ok (.ireturn, 1) := by decide +kernel
theorem dX10_sortOf_182 : decode cX10_sortOf 182 = .ok (.aload_n 0, 1) := by decide +kernel
theorem dX10_sortOf_183 : decode cX10_sortOf 183 = .ok (.bipush 103, 2) := by decide +kernel
theorem dX10_sortOf_185 : decode cX10_sortOf 185 = .ok (.bipush 117, 2) := by decide +kernel
theorem dX10_sortOf_187 : decode cX10_sortOf 187 = .ok (.bipush 115, 2) := by decide +kernel
theorem dX10_sortOf_189 : decode cX10_sortOf 189 = .ok (.bipush 116, 2) := by decide +kernel
theorem dX10_sortOf_191 : decode cX10_sortOf 191 = .ok (.invokestatic 137, 3) := by decide +kernel
theorem dX10_sortOf_194 : decode cX10_sortOf 194 = .ok (.invokevirtual 213, 3) := by decide +kernel
theorem dX10_sortOf_197 : decode cX10_sortOf 197 = .ok (.ifCond .eq 6, 3) := by decide +kernel
theorem dX10_sortOf_200 : decode cX10_sortOf 200 = .ok (.bipush 9, 2) := by decide +kernel
theorem dX10_sortOf_202 : decode cX10_sortOf 202 = .ok (.ireturn, 1) := by decide +kernel
theorem dX10_sortOf_203 : decode cX10_sortOf 203 = .ok (.aload_n 0, 1) := by decide +kernel
theorem dX10_sortOf_204 : decode cX10_sortOf 204 = .ok (.invokevirtual 279, 3) := by decide +kernel
theorem dX10_sortOf_207 : decode cX10_sortOf 207 = .ok (.ifCond .eq 8, 3) := by decide +kernel
theorem dX10_sortOf_210 : decode cX10_sortOf 210 = .ok (.bipush 10, 2) := by decide +kernel
theorem dX10_sortOf_212 : decode cX10_sortOf 212 = .ok (.goto 27, 3) := by decide +kernel
theorem dX10_sortOf_215 : decode cX10_sortOf 215 = .ok (.aload_n 0, 1) := by decide +kernel
theorem dX10_sortOf_216 : decode cX10_sortOf 216 = .ok (.bipush 104, 2) := by decide +kernel
theorem dX10_sortOf_218 : decode cX10_sortOf 218 = .ok (.bipush 111, 2) := by decide +kernel
theorem dX10_sortOf_220 : decode cX10_sortOf 220 = .ok (.bipush 117, 2) := by decide +kernel
theorem dX10_sortOf_222 : decode cX10_sortOf 222 = .ok (.bipush 114, 2) := by decide +kernel
theorem dX10_sortOf_224 : decode cX10_sortOf 224 = .ok (.invokestatic 137, 3) := by decide +kernel
theorem dX10_sortOf_227 : decode cX10_sortOf 227 = .ok (.invokevirtual 213, 3) := by decide +kernel
theorem dX10_sortOf_230 : decode cX10_sortOf 230 = .ok (.ifCond .eq 8, 3) := by decide +kernel
theorem dX10_sortOf_233 : decode cX10_sortOf 233 = .ok (.bipush 11, 2) := by decide +kernel
theorem dX10_sortOf_235 : decode cX10_sortOf 235 = .ok (.goto 4, 3) := by decide +kernel
theorem dX10_sortOf_238 : decode cX10_sortOf 238 = .ok (.iconst (-1), 1) := by decide +kernel
theorem dX10_sortOf_239 : decode cX10_sortOf 239 = .ok (.ireturn, 1) := by decide +kernel
theorem dX10_clause_0 : decode cX10_clause 0 = .ok (.aload_n 0, 1) := by decide +kernel
theorem dX10_clause_1 : decode cX10_clause 1 = .ok (.invokevirtual 282, 3) := by decide +kernel
theorem dX10_clause_4 : decode cX10_clause 4 = .ok (.istore_n 1, 1) := by decide +kernel
theorem dX10_clause_5 : decode cX10_clause 5 = .ok (.iload_n 1, 1) := by decide +kernel
theorem dX10_clause_6 : decode cX10_clause 6 = .ok (.ifCond .ge 5, 3) := by decide +kernel
theorem dX10_clause_9 : decode cX10_clause 9 = .ok (.iconst 1, 1) := by decide +kernel
theorem dX10_clause_10 : decode cX10_clause 10 = .ok (.ireturn, 1) := by decide +kernel
theorem dX10_clause_11 : decode cX10_clause 11 = .ok (.iload_n 1, 1) := by decide +kernel
theorem dX10_clause_12 : decode cX10_clause 12 = .ok (.iconst 3, 1) := by decide +kernel
theorem dX10_clause_13 : decode cX10_clause 13 = .ok (.if_icmp .gt 16, 3) := by decide +kernel
theorem dX10_clause_16 : decode cX10_clause 16 = .ok (.aload_n 0, 1) := by decide +kernel
theorem dX10_clause_17 : decode cX10_clause 17 = .ok (.getfield 285, 3) := by decide +kernel
theorem dX10_clause_20 : decode cX10_clause 20 = .ok (.iload_n 1, 1) := by decide +kernel
theorem dX10_clause_21 : decode cX10_clause 21 = .ok (.invokestatic 255, 3) := by decide +kernel
theorem dX10_clause_24 : decode cX10_clause 24 = .ok (.ifCond .eq 5, 3) := by decide +kernel
theorem dX10_clause_27 : decode cX10_clause 27 = .ok (.iconst 4, 1) := by decide +kernel
theorem dX10_clause_28 : decode cX10_clause 28 = .ok (.ireturn, 1) := by decide +kernel
theorem dX10_clause_29 : decode cX10_clause 29 = .ok (.aload_n 0, 1) := by decide +kernel
theorem dX10_clause_30 : decode cX10_clause 30 = .ok (.getfield 16, 3) := by decide +kernel
theorem dX10_clause_33 : decode cX10_clause 33 = .ok (.aload_n 0, 1) := by decide +kernel
theorem dX10_clause_34 : decode cX10_clause 34 = .ok (.getfield 145, 3) := by decide +kernel
theorem dX10_clause_37 : decode cX10_clause 37 = .ok (.iaload, 1) := by decide +kernel
theorem dX10_clause_38 : decode cX10_clause 38 = .ok (.istore_n 2, 1) := by decide +kernel
theorem dX10_clause_39 : decode cX10_clause 39 = .ok (.iload_n 2, 1) := by decide +kernel
theorem dX10_clause_40 : decode cX10_clause 40 = .ok (.bipush 24, 2) := by decide +kernel
theorem dX10_clause_42 : decode cX10_clause 42 = .ok (.if_icmp .ne 6, 3) := by decide +kernel
theorem dX10_clause_45 : decode cX10_clause 45 = .ok (.bipush 6, 2) := by decide +kernel
theorem dX10_clause_47 : decode cX10_clause 47 = .ok (.ireturn, 1) := by decide +kernel
theorem dX10_clause_48 : decode cX10_clause 48 = .ok (.iload_n 1, 1) := by decide +kernel
theorem dX10_clause_49 : decode cX10_clause 49 = .ok (.iconst 3, 1) := by decide +kernel
theorem dX10_clause_50 : decode cX10_clause 50 = .ok (.if_icmp .gt 15, 3) := by decide +kernel
theorem dX10_clause_53 : decode cX10_clause 53 = .ok (.aload_n 0, 1) := by decide +kernel
theorem dX10_clause_54 : decode cX10_clause 54 = .ok (.dup, 1) := by decide +kernel
theorem dX10_clause_55 : decode cX10_clause 55 = .ok (.getfield 285, 3) := by decide +kernel
theorem dX10_clause_58 : decode cX10_clause 58 = .ok (.iconst 1, 1) := by decide +kernel
theorem dX10_clause_59 : decode cX10_clause 59 = .ok (.iload_n 1, 1) := by decide +kernel
theorem dX10_clause_60 : decode cX10_clause 60 = .ok (.ishl, 1) := by decide +kernel
theorem dX10_clause_61 : decode cX10_clause 61 = .ok (.ior, 1) := by decide +kernel
theorem dX10_clause_62 : decode cX10_clause 62 = .ok (.putfield 285, 3) := by decide +kernel
theorem dX10_clause_65 : decode cX10_clause 65 = .ok (.aload_n 0, 1) := by decide +kernel
theorem dX10_clause_66 : decode cX10_clause 66 = .ok (.iload_n 1, 1) := by decide +kernel
theorem dX10_clause_67 : decode cX10_clause 67 = .ok (.putfield 162, 3) := by decide +kernel
theorem dX10_clause_70 : decode cX10_clause 70 = .ok (.aload_n 0, 1) := by decide +kernel
theorem dX10_clause_71 : decode cX10_clause 71 = .ok (.invokevirtual 189, 3) := by decide +kernel
theorem dX10_clause_74 : decode cX10_clause 74 = .ok (.aload_n 0, 1) := by decide +kernel
theorem dX10_clause_75 : decode cX10_clause 75 = .ok (.getfield 145, 3) := by decide +kernel
theorem dX10_clause_78 : decode cX10_clause 78 = .ok (.iconst 1, 1) := by decide +kernel
theorem dX10_clause_79 : decode cX10_clause 79 = .ok (.iadd, 1) := by decide +kernel
theorem dX10_clause_80 : decode cX10_clause 80 = .ok (.iconst 4, 1) := by decide +kernel
theorem dX10_clause_81 : decode cX10_clause 81 = .ok (.iload_n 2, 1) := by decide +kernel
theorem dX10_clause_82 : decode cX10_clause 82 = .ok (.imul, 1) := by decide +kernel
theorem dX10_clause_83 : decode cX10_clause 83 = .ok (.iadd, 1) := by decide +kernel
theorem dX10_clause_84 : decode cX10_clause 84 = .ok (.istore_n 3, 1) := by decide +kernel
theorem dX10_clause_85 : decode cX10_clause 85 = .ok (.aload_n 0, 1) := by decide +kernel
theorem dX10_clause_86 : decode cX10_clause 86 = .ok (.getfield 16, 3) := by decide +kernel
theorem dX10_clause_89 : decode cX10_clause 89 = .ok (.iload_n 3, 1) := by decide +kernel
theorem dX10_clause_90 : decode cX10_clause 90 = .ok (.iload_n 1, 1) := by decide +kernel
theorem dX10_clause_91 : decode cX10_clause 91 = .ok (.iastore, 1) := by decide +kernel
theorem dX10_clause_92 : decode cX10_clause 92 = .ok (.aload_n 0, 1) := by decide +kernel
theorem dX10_clause_93 : decode cX10_clause 93 = .ok (.iload_n 1, 1) := by decide +kernel
theorem dX10_clause_94 : decode cX10_clause 94 = .ok (.iload_n 3, 1) := by decide +kernel
theorem dX10_clause_95 : decode cX10_clause 95 = .ok (.invokevirtual 288, 3) := by decide +kernel
theorem dX10_clause_98 : decode cX10_clause 98 = .ok (.istore 4, 2) := by decide +kernel
theorem dX10_clause_100 : decode cX10_clause 100 = .ok (.iload 4, 2) := by decide +kernel
theorem dX10_clause_102 : decode cX10_clause 102 = .ok (.ifCond .eq 6, 3) := by decide +kernel
theorem dX10_clause_105 : decode cX10_clause 105 = .ok (.iload 4, 2) := by decide +kernel
theorem dX10_clause_107 : decode cX10_clause 107 = .ok (.ireturn, 1) := by decide +kernel
theorem dX10_clause_108 : decode cX10_clause 108 = .ok (.aload_n 0, 1) := by decide +kernel
theorem dX10_clause_109 : decode cX10_clause 109 = .ok (.getfield 16, 3) := by decide +kernel
theorem dX10_clause_112 : decode cX10_clause 112 = .ok (.aload_n 0, 1) := by decide +kernel
theorem dX10_clause_113 : decode cX10_clause 113 = .ok (.getfield 145, 3) := by decide +kernel
theorem dX10_clause_116 : decode cX10_clause 116 = .ok (.dup2, 1) := by decide +kernel
theorem dX10_clause_117 : decode cX10_clause 117 = .ok (.iaload, 1) := by decide +kernel
theorem dX10_clause_118 : decode cX10_clause 118 = .ok (.iconst 1, 1) := by decide +kernel
theorem dX10_clause_119 : decode cX10_clause 119 = .ok (.iadd, 1) := by decide +kernel
theorem dX10_clause_120 : decode cX10_clause 120 = .ok (.iastore, 1) := by decide +kernel
theorem dX10_clause_121 : decode cX10_clause 121 = .ok (.aload_n 0, 1) := by decide +kernel
theorem dX10_clause_122 : decode cX10_clause 122 = .ok (.getfield 107, 3) := by decide +kernel
theorem dX10_clause_125 : decode cX10_clause 125 = .ok (.bipush 59, 2) := by decide +kernel
theorem dX10_clause_127 : decode cX10_clause 127 = .ok (.if_icmp .eq 5, 3) := by decide +kernel
theorem dX10_clause_130 : decode cX10_clause 130 = .ok (.iconst 1, 1) := by decide +kernel
theorem dX10_clause_131 : decode cX10_clause 131 = .ok (.ireturn, 1) := by decide +kernel
theorem dX10_clause_132 : decode cX10_clause 132 = .ok (.aload_n 0, 1) := by decide +kernel
theorem dX10_clause_133 : decode cX10_clause 133 = .ok (.invokevirtual 189, 3) := by decide +kernel
theorem dX10_clause_136 : decode cX10_clause 136 = .ok (.iconst 0, 1) := by decide +kernel
theorem dX10_clause_137 : decode cX10_clause 137 = .ok (.ireturn, 1) := by decide +kernel
theorem dX10_readText_0 : decode cX10_readText 0 = .ok (.aload_n 0, 1) := by decide +kernel
theorem dX10_readText_1 : decode cX10_readText 1 = .ok (.sipush 705, 3) := by decide +kernel
theorem dX10_readText_4 : decode cX10_readText 4 = .ok (.aload_n 0, 1) := by decide +kernel
theorem dX10_readText_5 : decode cX10_readText 5 = .ok (.getfield 7, 3) := by decide +kernel
theorem dX10_readText_8 : decode cX10_readText 8 = .ok (.iconst 1, 1) := by decide +kernel
theorem dX10_readText_9 : decode cX10_readText 9 = .ok (.iaload, 1) := by decide +kernel
theorem dX10_readText_10 : decode cX10_readText 10 = .ok (.imul, 1) := by decide +kernel
theorem dX10_readText_11 : decode cX10_readText 11 = .ok (.putfield 145, 3) := by decide +kernel
theorem dX10_readText_14 : decode cX10_readText 14 = .ok (.aload_n 0, 1) := by decide +kernel
theorem dX10_readText_15 : decode cX10_readText 15 = .ok (.getfield 16, 3) := by decide +kernel
theorem dX10_readText_18 : decode cX10_readText 18 = .ok (.aload_n 0, 1) := by decide +kernel
theorem dX10_readText_19 : decode cX10_readText 19 = .ok (.getfield 145, 3) := by decide +kernel
theorem dX10_readText_22 : decode cX10_readText 22 = .ok (.iconst 0, 1) := by decide +kernel
theorem dX10_readText_23 : decode cX10_readText 23 = .ok (.iastore, 1) := by decide +kernel
theorem dX10_readText_24 : decode cX10_readText 24 = .ok (.aload_n 0, 1) := by decide +kernel
theorem dX10_readText_25 : decode cX10_readText 25 = .ok (.iconst 0, 1) := by decide +kernel
theorem dX10_readText_26 : decode cX10_readText 26 = .ok (.putfield 148, 3) := by decide +kernel
theorem dX10_readText_29 : decode cX10_readText 29 = .ok (.aload_n 0, 1) := by decide +kernel
theorem dX10_readText_30 : decode cX10_readText 30 = .ok (.iconst 0, 1) := by decide +kernel
theorem dX10_readText_31 : decode cX10_readText 31 = .ok (.putfield 285, 3) := by decide +kernel
theorem dX10_readText_34 : decode cX10_readText 34 = .ok (.aload_n 0, 1) := by decide +kernel
theorem dX10_readText_35 : decode cX10_readText 35 = .ok (.iconst 0, 1) := by decide +kernel
theorem dX10_readText_36 : decode cX10_readText 36 = .ok (.putfield 252, 3) := by decide +kernel
theorem dX10_readText_39 : decode cX10_readText 39 = .ok (.aload_n 0, 1) := by decide +kernel
theorem dX10_readText_40 : decode cX10_readText 40 = .ok (.iconst 0, 1) := by decide +kernel
theorem dX10_readText_41 : decode cX10_readText 41 = .ok (.putfield 97, 3) := by decide +kernel
theorem dX10_readText_44 : decode cX10_readText 44 = .ok (.aload_n 0, 1) := by decide +kernel
theorem dX10_readText_45 : decode cX10_readText 45 = .ok (.invokevirtual 189, 3) := by decide +kernel
theorem dX10_readText_48 : decode cX10_readText 48 = .ok (.aload_n 0, 1) := by decide +kernel
theorem dX10_readText_49 : decode cX10_readText 49 = .ok (.getfield 107, 3) := by decide +kernel
theorem dX10_readText_52 : decode cX10_readText 52 = .ok (.ifCond .eq 17, 3) := by decide +kernel
theorem dX10_readText_55 : decode cX10_readText 55 = .ok (.aload_n 0, 1) := by decide +kernel
theorem dX10_readText_56 : decode cX10_readText 56 = .ok (.invokevirtual 291, 3) := by decide +kernel
theorem dX10_readText_59 : decode cX10_readText 59 = .ok (.istore_n 1, 1) := by decide +kernel
theorem dX10_readText_60 : decode cX10_readText 60 = .ok (.iload_n 1, 1) := by decide +kernel
theorem dX10_readText_61 : decode cX10_readText 61 = .ok (.ifCond .eq 5, 3) := by decide +kernel
theorem dX10_readText_64 : decode cX10_readText 64 = .ok (.iload_n 1, 1) := by decide +kernel
theorem dX10_readText_65 : decode cX10_readText 65 = .ok (.ireturn, 1) := by decide +kernel
theorem dX10_readText_66 : decode cX10_readText 66 = .ok (.goto (-18), 3) := by decide +kernel
theorem dX10_readText_69 : decode cX10_readText 69 = .ok (.iconst 0, 1) := by decide +kernel
theorem dX10_readText_70 : decode cX10_readText 70 = .ok (.ireturn, 1) := by decide +kernel
theorem dX10_text_0 : decode cX10_text 0 = .ok (.aload_n 0, 1) := by decide +kernel
theorem dX10_text_1 : decode cX10_text 1 = .ok (.getfield 7, 3) := by decide +kernel
theorem dX10_text_4 : decode cX10_text 4 = .ok (.iconst 1, 1) := by decide +kernel
theorem dX10_text_5 : decode cX10_text 5 = .ok (.iaload, 1) := by decide +kernel
theorem dX10_text_6 : decode cX10_text 6 = .ok (.iconst 4, 1) := by decide +kernel
theorem dX10_text_7 : decode cX10_text 7 = .ok (.if_icmp .ne 5, 3) := by decide +kernel
theorem dX10_text_10 : decode cX10_text 10 = .ok (.iconst (-1), 1) := by decide +kernel
theorem dX10_text_11 : decode cX10_text 11 = .ok (.ireturn, 1) := by decide +kernel
theorem dX10_text_12 : decode cX10_text 12 = .ok (.aload_n 0, 1) := by decide +kernel
theorem dX10_text_13 : decode cX10_text 13 = .ok (.aload_n 0, 1) := by decide +kernel
theorem dX10_text_14 : decode cX10_text 14 = .ok (.invokevirtual 294, 3) := by decide +kernel
theorem dX10_text_17 : decode cX10_text 17 = .ok (.putfield 22, 3) := by decide +kernel
theorem dX10_text_20 : decode cX10_text 20 = .ok (.aload_n 0, 1) := by decide +kernel
theorem dX10_text_21 : decode cX10_text 21 = .ok (.aload_n 0, 1) := by decide +kernel
theorem dX10_text_22 : decode cX10_text 22 = .ok (.getfield 22, 3) := by decide +kernel
theorem dX10_text_25 : decode cX10_text 25 = .ok (.ifCond .ne 7, 3) := by decide +kernel
theorem dX10_text_28 : decode cX10_text 28 = .ok (.iconst (-1), 1) := by decide +kernel
theorem dX10_text_29 : decode cX10_text 29 = .ok (.goto 7, 3) := by decide +kernel
theorem dX10_text_32 : decode cX10_text 32 = .ok (.aload_n 0, 1) := by decide +kernel
theorem dX10_text_33 : decode cX10_text 33 = .ok (.getfield 104, 3) := by decide +kernel
theorem dX10_text_36 : decode cX10_text 36 = .ok (.putfield 26, 3) := by decide +kernel
theorem dX10_text_39 : decode cX10_text 39 = .ok (.aload_n 0, 1) := by decide +kernel
theorem dX10_text_40 : decode cX10_text 40 = .ok (.iconst 0, 1) := by decide +kernel
theorem dX10_text_41 : decode cX10_text 41 = .ok (.putfield 90, 3) := by decide +kernel
theorem dX10_text_44 : decode cX10_text 44 = .ok (.aload_n 0, 1) := by decide +kernel
theorem dX10_text_45 : decode cX10_text 45 = .ok (.getfield 22, 3) := by decide +kernel
theorem dX10_text_48 : decode cX10_text 48 = .ok (.ifCond .eq 5, 3) := by decide +kernel
theorem dX10_text_51 : decode cX10_text 51 = .ok (.iconst (-1), 1) := by decide +kernel
theorem dX10_text_52 : decode cX10_text 52 = .ok (.ireturn, 1) := by decide +kernel
theorem dX10_text_53 : decode cX10_text 53 = .ok (.aload_n 0, 1) := by decide +kernel
theorem dX10_text_54 : decode cX10_text 54 = .ok (.getfield 7, 3) := by decide +kernel
theorem dX10_text_57 : decode cX10_text 57 = .ok (.iconst 1, 1) := by decide +kernel
theorem dX10_text_58 : decode cX10_text 58 = .ok (.dup2, 1) := by decide +kernel
theorem dX10_text_59 : decode cX10_text 59 = .ok (.iaload, 1) := by decide +kernel
theorem dX10_text_60 : decode cX10_text 60 = .ok (.iconst 1, 1) := by decide +kernel
theorem dX10_text_61 : decode cX10_text 61 = .ok (.iadd, 1) := by decide +kernel
theorem dX10_text_62 : decode cX10_text 62 = .ok (.iastore, 1) := by decide +kernel
theorem dX10_text_63 : decode cX10_text 63 = .ok (.aload_n 0, 1) := by decide +kernel
theorem dX10_text_64 : decode cX10_text 64 = .ok (.getfield 7, 3) := by decide +kernel
theorem dX10_text_67 : decode cX10_text 67 = .ok (.iconst 1, 1) := by decide +kernel
theorem dX10_text_68 : decode cX10_text 68 = .ok (.iaload, 1) := by decide +kernel
theorem dX10_text_69 : decode cX10_text 69 = .ok (.iconst 1, 1) := by decide +kernel
theorem dX10_text_70 : decode cX10_text 70 = .ok (.isub, 1) := by decide +kernel
theorem dX10_text_71 : decode cX10_text 71 = .ok (.ireturn, 1) := by decide +kernel
theorem dX10_fault_0 : decode cX10_fault 0 = .ok (.iload_n 1, 1) := by decide +kernel
theorem dX10_fault_1 : decode cX10_fault 1 = .ok (.ifCond .ne 10, 3) := by decide +kernel
theorem dX10_fault_4 : decode cX10_fault 4 = .ok (.aload_n 0, 1) := by decide +kernel
theorem dX10_fault_5 : decode cX10_fault 5 = .ok (.getfield 22, 3) := by decide +kernel
theorem dX10_fault_8 : decode cX10_fault 8 = .ok (.goto 16, 3) := by decide +kernel
theorem dX10_fault_11 : decode cX10_fault 11 = .ok (.iload_n 1, 1) := by decide +kernel
theorem dX10_fault_12 : decode cX10_fault 12 = .ok (.iconst 1, 1) := by decide +kernel
theorem dX10_fault_13 : decode cX10_fault 13 = .ok (.if_icmp .ne 10, 3) := by decide +kernel
theorem dX10_fault_16 : decode cX10_fault 16 = .ok (.aload_n 0, 1) := by decide +kernel
theorem dX10_fault_17 : decode cX10_fault 17 = .ok (.getfield 26, 3) := by decide +kernel
theorem dX10_fault_20 : decode cX10_fault 20 = .ok (.goto 4, 3) := by decide +kernel
theorem dX10_fault_23 : decode cX10_fault 23 = .ok (.iconst (-1), 1) := by decide +kernel
theorem dX10_fault_24 : decode cX10_fault 24 = .ok (.ireturn, 1) := by decide +kernel
theorem dX10_by_0 : decode cX10_by 0 = .ok (.iload_n 1, 1) := by decide +kernel
theorem dX10_by_1 : decode cX10_by 1 = .ok (.iconst (-1), 1) := by decide +kernel
theorem dX10_by_2 : decode cX10_by 2 = .ok (.aload_n 0, 1) := by decide +kernel
theorem dX10_by_3 : decode cX10_by 3 = .ok (.getfield 7, 3) := by decide +kernel
theorem dX10_by_6 : decode cX10_by 6 = .ok (.iconst 1, 1) := by decide +kernel
theorem dX10_by_7 : decode cX10_by 7 = .ok (.iaload, 1) := by decide +kernel
theorem dX10_by_8 : decode cX10_by 8 = .ok (.iconst 1, 1) := by decide +kernel
theorem dX10_by_9 : decode cX10_by 9 = .ok (.isub, 1) := by decide +kernel
theorem dX10_by_10 : decode cX10_by 10 = .ok (.invokestatic 74, 3) := by decide +kernel
theorem dX10_by_13 : decode cX10_by 13 = .ok (.ifCond .ne 5, 3) := by decide +kernel
theorem dX10_by_16 : decode cX10_by 16 = .ok (.iconst 0, 1) := by decide +kernel
theorem dX10_by_17 : decode cX10_by 17 = .ok (.ireturn, 1) := by decide +kernel
theorem dX10_by_18 : decode cX10_by 18 = .ok (.aload_n 0, 1) := by decide +kernel
theorem dX10_by_19 : decode cX10_by 19 = .ok (.getfield 7, 3) := by decide +kernel
theorem dX10_by_22 : decode cX10_by 22 = .ok (.iconst 2, 1) := by decide +kernel
theorem dX10_by_23 : decode cX10_by 23 = .ok (.iload_n 1, 1) := by decide +kernel
theorem dX10_by_24 : decode cX10_by 24 = .ok (.iastore, 1) := by decide +kernel
theorem dX10_by_25 : decode cX10_by 25 = .ok (.iconst 1, 1) := by decide +kernel
theorem dX10_by_26 : decode cX10_by 26 = .ok (.ireturn, 1) := by decide +kernel
theorem dX10_clip_0 : decode cX10_clip 0 = .ok (.lload_n 0, 1) := by decide +kernel
theorem dX10_clip_1 : decode cX10_clip 1 = .ok (.ldc2_w 297, 3) := by decide +kernel
theorem dX10_clip_4 : decode cX10_clip 4 = .ok (.lcmp, 1) := by decide +kernel
theorem dX10_clip_5 : decode cX10_clip 5 = .ok (.ifCond .le 9, 3) := by decide +kernel
theorem dX10_clip_8 : decode cX10_clip 8 = .ok (.ldc2_w 297, 3) := by decide +kernel
theorem dX10_clip_11 : decode cX10_clip 11 = .ok (.goto 18, 3) := by decide +kernel
theorem dX10_clip_14 : decode cX10_clip 14 = .ok (.lload_n 0, 1) := by decide +kernel
theorem dX10_clip_15 : decode cX10_clip 15 = .ok (.ldc2_w 299, 3) := by decide +kernel
theorem dX10_clip_18 : decode cX10_clip 18 = .ok (.lcmp, 1) := by decide +kernel
theorem dX10_clip_19 : decode cX10_clip 19 = .ok (.ifCond .ge 9, 3) := by decide +kernel
theorem dX10_clip_22 : decode cX10_clip 22 = .ok (.ldc2_w 299, 3) := by decide +kernel
theorem dX10_clip_25 : decode cX10_clip 25 = .ok (.goto 4, 3) := by decide +kernel
theorem dX10_clip_28 : decode cX10_clip 28 = .ok (.lload_n 0, 1) := by decide +kernel
theorem dX10_clip_29 : decode cX10_clip 29 = .ok (.lreturn, 1) := by decide +kernel
theorem dX10_two_0 : decode cX10_two 0 = .ok (.iload_n 0, 1) := by decide +kernel
theorem dX10_two_1 : decode cX10_two 1 = .ok (.tableswitch 48 5 7 #[27, 34, 41], 27) := by decide +kernel
theorem dX10_two_28 : decode cX10_two 28 = .ok (.lload_n 1, 1) := by decide +kernel
theorem dX10_two_29 : decode cX10_two 29 = .ok (.lload_n 3, 1) := by decide +kernel
theorem dX10_two_30 : decode cX10_two 30 = .ok (.ladd, 1) := by decide +kernel
theorem dX10_two_31 : decode cX10_two 31 = .ok (.invokestatic 301, 3) := by decide +kernel
theorem dX10_two_34 : decode cX10_two 34 = .ok (.lreturn, 1) := by decide +kernel
theorem dX10_two_35 : decode cX10_two 35 = .ok (.lload_n 1, 1) := by decide +kernel
theorem dX10_two_36 : decode cX10_two 36 = .ok (.lload_n 3, 1) := by decide +kernel
theorem dX10_two_37 : decode cX10_two 37 = .ok (.lsub, 1) := by decide +kernel
theorem dX10_two_38 : decode cX10_two 38 = .ok (.invokestatic 301, 3) := by decide +kernel
theorem dX10_two_41 : decode cX10_two 41 = .ok (.lreturn, 1) := by decide +kernel
theorem dX10_two_42 : decode cX10_two 42 = .ok (.lload_n 1, 1) := by decide +kernel
theorem dX10_two_43 : decode cX10_two 43 = .ok (.lload_n 3, 1) := by decide +kernel
theorem dX10_two_44 : decode cX10_two 44 = .ok (.lmul, 1) := by decide +kernel
theorem dX10_two_45 : decode cX10_two 45 = .ok (.invokestatic 301, 3) := by decide +kernel
theorem dX10_two_48 : decode cX10_two 48 = .ok (.lreturn, 1) := by decide +kernel
theorem dX10_two_49 : decode cX10_two 49 = .ok (.lload_n 3, 1) := by decide +kernel
theorem dX10_two_50 : decode cX10_two 50 = .ok (.lconst 0, 1) := by decide +kernel
theorem dX10_two_51 : decode cX10_two 51 = .ok (.lcmp, 1) := by decide +kernel
theorem dX10_two_52 : decode cX10_two 52 = .ok (.ifCond .ne 7, 3) := by decide +kernel
theorem dX10_two_55 : decode cX10_two 55 = .ok (.lconst 0, 1) := by decide +kernel
theorem dX10_two_56 : decode cX10_two 56 = .ok (.goto 9, 3) := by decide +kernel
theorem dX10_two_59 : decode cX10_two 59 = .ok (.lload_n 1, 1) := by decide +kernel
theorem dX10_two_60 : decode cX10_two 60 = .ok (.lload_n 3, 1) := by decide +kernel
theorem dX10_two_61 : decode cX10_two 61 = .ok (.ldiv, 1) := by decide +kernel
theorem dX10_two_62 : decode cX10_two 62 = .ok (.invokestatic 301, 3) := by decide +kernel
theorem dX10_two_65 : decode cX10_two 65 = .ok (.lreturn, 1) := by decide +kernel
theorem dX10_isAsked_0 : decode cX10_isAsked 0 = .ok (.iload_n 0, 1) := by decide +kernel
theorem dX10_isAsked_1 : decode cX10_isAsked 1 = .ok (.bipush 10, 2) := by decide +kernel
theorem dX10_isAsked_3 : decode cX10_isAsked 3 = .ok (.if_icmp .ne 17, 3) := by decide +kernel
theorem dX10_isAsked_6 : decode cX10_isAsked 6 = .ok (.lload_n 1, 1) := by decide +kernel
theorem dX10_isAsked_7 : decode cX10_isAsked 7 = .ok (.lload_n 3, 1) := by decide +kernel
theorem dX10_isAsked_8 : decode cX10_isAsked 8 = .ok (.lcmp, 1) := by decide +kernel
theorem dX10_isAsked_9 : decode cX10_isAsked 9 = .ok (.ifCond .ge 7, 3) := by decide +kernel
theorem dX10_isAsked_12 : decode cX10_isAsked 12 = .ok (.iconst 1, 1) := by decide +kernel
theorem dX10_isAsked_13 : decode cX10_isAsked 13 = .ok (.goto 98, 3) := by decide +kernel
theorem dX10_isAsked_16 : decode cX10_isAsked 16 = .ok (.iconst 0, 1) := by decide +kernel
theorem dX10_isAsked_17 : decode cX10_isAsked 17 = .ok (.goto 94, 3) := by decide +kernel
theorem dX10_isAsked_20 : decode cX10_isAsked 20 = .ok (.iload_n 0, 1) := by decide +kernel
theorem dX10_isAsked_21 : decode cX10_isAsked 21 = .ok (.bipush 11, 2) := by decide +kernel
theorem dX10_isAsked_23 : decode cX10_isAsked 23 = .ok (.if_icmp .ne 17, 3) := by decide +kernel
theorem dX10_isAsked_26 : decode cX10_isAsked 26 = .ok (.lload_n 1, 1) := by decide +kernel
theorem dX10_isAsked_27 : decode cX10_isAsked 27 = .ok (.lload_n 3, 1) := by decide +kernel
theorem dX10_isAsked_28 : decode cX10_isAsked 28 = .ok (.lcmp, 1) := by decide +kernel
theorem dX10_isAsked_29 : decode cX10_isAsked 29 = .ok (.ifCond .gt 7, 3) := by decide +kernel
theorem dX10_isAsked_32 : decode cX10_isAsked 32 = .ok (.iconst 1, 1) := by decide +kernel
theorem dX10_isAsked_33 : decode cX10_isAsked 33 = .ok (.goto 78, 3) := by decide +kernel
theorem dX10_isAsked_36 : decode cX10_isAsked 36 = .ok (.iconst 0, 1) := by decide +kernel
theorem dX10_isAsked_37 : decode cX10_isAsked 37 = .ok (.goto 74, 3) := by decide +kernel
theorem dX10_isAsked_40 : decode cX10_isAsked 40 = .ok (.iload_n 0, 1) := by decide +kernel
theorem dX10_isAsked_41 : decode cX10_isAsked 41 = .ok (.bipush 12, 2) := by decide +kernel
theorem dX10_isAsked_43 : decode cX10_isAsked 43 = .ok (.if_icmp .ne 17, 3) := by decide +kernel
theorem dX10_isAsked_46 : decode cX10_isAsked 46 = .ok (.lload_n 1, 1) := by decide +kernel
theorem dX10_isAsked_47 : decode cX10_isAsked 47 = .ok (.lload_n 3, 1) := by decide +kernel
theorem dX10_isAsked_48 : decode cX10_isAsked 48 = .ok (.lcmp, 1) := by decide +kernel
theorem dX10_isAsked_49 : decode cX10_isAsked 49 = .ok (.ifCond .le 7, 3) := by decide +kernel
theorem dX10_isAsked_52 : decode cX10_isAsked 52 = .ok (.iconst 1, 1) := by decide +kernel
theorem dX10_isAsked_53 : decode cX10_isAsked 53 = .ok (.goto 58, 3) := by decide +kernel
theorem dX10_isAsked_56 : decode cX10_isAsked 56 = .ok (.iconst 0, 1) := by decide +kernel
theorem dX10_isAsked_57 : decode cX10_isAsked 57 = .ok (.goto 54, 3) := by decide +kernel
theorem dX10_isAsked_60 : decode cX10_isAsked 60 = .ok (.iload_n 0, 1) := by decide +kernel
theorem dX10_isAsked_61 : decode cX10_isAsked 61 = .ok (.bipush 13, 2) := by decide +kernel
theorem dX10_isAsked_63 : decode cX10_isAsked 63 = .ok (.if_icmp .ne 17, 3) := by decide +kernel
theorem dX10_isAsked_66 : decode cX10_isAsked 66 = .ok (.lload_n 1, 1) := by decide +kernel
theorem dX10_isAsked_67 : decode cX10_isAsked 67 = .ok (.lload_n 3, 1) := by decide +kernel
theorem dX10_isAsked_68 : decode cX10_isAsked 68 = .ok (.lcmp, 1) := by decide +kernel
theorem dX10_isAsked_69 : decode cX10_isAsked 69 = .ok (.ifCond .lt 7, 3) := by decide +kernel
theorem dX10_isAsked_72 : decode cX10_isAsked 72 = .ok (.iconst 1, 1) := by decide +kernel
theorem dX10_isAsked_73 : decode cX10_isAsked 73 = .ok (.goto 38, 3) := by decide +kernel
theorem dX10_isAsked_76 : decode cX10_isAsked 76 = .ok (.iconst 0, 1) := by decide +kernel
theorem dX10_isAsked_77 : decode cX10_isAsked 77 = .ok (.goto 34, 3) := by decide +kernel
theorem dX10_isAsked_80 : decode cX10_isAsked 80 = .ok (.iload_n 0, 1) := by decide +kernel
theorem dX10_isAsked_81 : decode cX10_isAsked 81 = .ok (.bipush 14, 2) := by decide +kernel
theorem dX10_isAsked_83 : decode cX10_isAsked 83 = .ok (.if_icmp .ne 17, 3) := by decide +kernel
theorem dX10_isAsked_86 : decode cX10_isAsked 86 = .ok (.lload_n 1, 1) := by decide +kernel
theorem dX10_isAsked_87 : decode cX10_isAsked 87 = .ok (.lload_n 3, 1) := by decide +kernel
theorem dX10_isAsked_88 : decode cX10_isAsked 88 = .ok (.lcmp, 1) := by decide +kernel
theorem dX10_isAsked_89 : decode cX10_isAsked 89 = .ok (.ifCond .ne 7, 3) := by decide +kernel
theorem dX10_isAsked_92 : decode cX10_isAsked 92 = .ok (.iconst 1, 1) := by decide +kernel
theorem dX10_isAsked_93 : decode cX10_isAsked 93 = .ok (.goto 18, 3) := by decide +kernel
theorem dX10_isAsked_96 : decode cX10_isAsked 96 = .ok (.iconst 0, 1) := by decide +kernel
theorem dX10_isAsked_97 : decode cX10_isAsked 97 = .ok (.goto 14, 3) := by decide +kernel
theorem dX10_isAsked_100 : decode cX10_isAsked 100 = .ok (.lload_n 1, 1) := by decide +kernel
theorem dX10_isAsked_101 : decode cX10_isAsked 101 = .ok (.lload_n 3, 1) := by decide +kernel
theorem dX10_isAsked_102 : decode cX10_isAsked 102 = .ok (.lcmp, 1) := by decide +kernel
theorem dX10_isAsked_103 : decode cX10_isAsked 103 = .ok (.ifCond .eq 7, 3) := by decide +kernel
theorem dX10_isAsked_106 : decode cX10_isAsked 106 = .ok (.iconst 1, 1) := by decide +kernel
theorem dX10_isAsked_107 : decode cX10_isAsked 107 = .ok (.goto 4, 3) := by decide +kernel
theorem dX10_isAsked_110 : decode cX10_isAsked 110 = .ok (.iconst 0, 1) := by decide +kernel
theorem dX10_isAsked_111 : decode cX10_isAsked 111 = .ok (.ireturn, 1) := by decide +kernel
theorem dX10_areMost_0 : decode cX10_areMost 0 = .ok (.iconst 0, 1) := by decide +kernel
theorem dX10_areMost_1 : decode cX10_areMost 1 = .ok (.istore_n 3, 1) := by decide +kernel
theorem dX10_areMost_2 : decode cX10_areMost 2 = .ok (.iconst 0, 1) := by decide +kernel
theorem dX10_areMost_3 : decode cX10_areMost 3 = .ok (.istore 4, 2) := by decide +kernel
theorem dX10_areMost_5 : decode cX10_areMost 5 = .ok (.iload 4, 2) := by decide +kernel
theorem dX10_areMost_7 : decode cX10_areMost 7 = .ok (.iload_n 2, 1) := by decide +kernel
theorem dX10_areMost_8 : decode cX10_areMost 8 = .ok (.if_icmp .ge 29, 3) := by decide +kernel
theorem dX10_areMost_11 : decode cX10_areMost 11 = .ok (.iload_n 3, 1) := by decide +kernel
theorem dX10_areMost_12 : decode cX10_areMost 12 = .ok (.aload_n 0, 1) := by decide +kernel
theorem dX10_areMost_13 : decode cX10_areMost 13 = .ok (.getfield 42, 3) := by decide +kernel
theorem dX10_areMost_16 : decode cX10_areMost 16 = .ok (.iload_n 1, 1) := by decide +kernel
theorem dX10_areMost_17 : decode cX10_areMost 17 = .ok (.iload 4, 2) := by decide +kernel
theorem dX10_areMost_19 : decode cX10_areMost 19 = .ok (.iadd, 1) := by decide +kernel
theorem dX10_areMost_20 : decode cX10_areMost 20 = .ok (.baload, 1) := by decide +kernel
theorem dX10_areMost_21 : decode cX10_areMost 21 = .ok (.ifCond .eq 7, 3) := by decide +kernel
theorem dX10_areMost_24 : decode cX10_areMost 24 = .ok (.iconst 1, 1) := by decide +kernel
theorem dX10_areMost_25 : decode cX10_areMost 25 = .ok (.goto 4, 3) := by decide +kernel
theorem dX10_areMost_28 : decode cX10_areMost 28 = .ok (.iconst 0, 1) := by decide +kernel
theorem dX10_areMost_29 : decode cX10_areMost 29 = .ok (.iadd, 1) := by decide +kernel
theorem dX10_areMost_30 : decode cX10_areMost 30 = .ok (.istore_n 3, 1) := by decide +kernel
theorem dX10_areMost_31 : decode cX10_areMost 31 = .ok (.iinc 4 1, 3) := by decide +kernel
theorem dX10_areMost_34 : decode cX10_areMost 34 = .ok (.goto (-29), 3) := by decide +kernel
theorem dX10_areMost_37 : decode cX10_areMost 37 = .ok (.iconst 2, 1) := by decide +kernel
theorem dX10_areMost_38 : decode cX10_areMost 38 = .ok (.iload_n 3, 1) := by decide +kernel
theorem dX10_areMost_39 : decode cX10_areMost 39 = .ok (.imul, 1) := by decide +kernel
theorem dX10_areMost_40 : decode cX10_areMost 40 = .ok (.iload_n 2, 1) := by decide +kernel
theorem dX10_areMost_41 : decode cX10_areMost 41 = .ok (.if_icmp .le 7, 3) := by decide +kernel
theorem dX10_areMost_44 : decode cX10_areMost 44 = .ok (.iconst 1, 1) := by decide +kernel
theorem dX10_areMost_45 : decode cX10_areMost 45 = .ok (.goto 4, 3) := by decide +kernel
theorem dX10_areMost_48 : decode cX10_areMost 48 = .ok (.iconst 0, 1) := by decide +kernel
theorem dX10_areMost_49 : decode cX10_areMost 49 = .ok (.ireturn, 1) := by decide +kernel
theorem dX10_joined_0 : decode cX10_joined 0 = .ok (.iload_n 0, 1) := by decide +kernel
theorem dX10_joined_1 : decode cX10_joined 1 = .ok (.bipush 21, 2) := by decide +kernel
theorem dX10_joined_3 : decode cX10_joined 3 = .ok (.if_icmp .ne 19, 3) := by decide +kernel
theorem dX10_joined_6 : decode cX10_joined 6 = .ok (.iload_n 1, 1) := by decide +kernel
theorem dX10_joined_7 : decode cX10_joined 7 = .ok (.ifCond .eq 11, 3) := by decide +kernel
theorem dX10_joined_10 : decode cX10_joined 10 = .ok (.iload_n 2, 1) := by decide +kernel
theorem dX10_joined_11 : decode cX10_joined 11 = .ok (.ifCond .eq 7, 3) := by decide +kernel
theorem dX10_joined_14 : decode cX10_joined 14 = .ok (.iconst 1, 1) := by decide +kernel
theorem dX10_joined_15 : decode cX10_joined 15 = .ok (.goto 42, 3) := by decide +kernel
theorem dX10_joined_18 : decode cX10_joined 18 = .ok (.iconst 0, 1) := by decide +kernel
theorem dX10_joined_19 : decode cX10_joined 19 = .ok (.goto 38, 3) := by decide +kernel
theorem dX10_joined_22 : decode cX10_joined 22 = .ok (.iload_n 0, 1) := by decide +kernel
theorem dX10_joined_23 : decode cX10_joined 23 = .ok (.bipush 22, 2) := by decide +kernel
theorem dX10_joined_25 : decode cX10_joined 25 = .ok (.if_icmp .ne 19, 3) := by decide +kernel
theorem dX10_joined_28 : decode cX10_joined 28 = .ok (.iload_n 1, 1) := by decide +kernel
theorem dX10_joined_29 : decode cX10_joined 29 = .ok (.ifCond .ne 7, 3) := by decide +kernel
theorem dX10_joined_32 : decode cX10_joined 32 = .ok (.iload_n 2, 1) := by decide +kernel
theorem dX10_joined_33 : decode cX10_joined 33 = .ok (.ifCond .eq 7, 3) := by decide +kernel
theorem dX10_joined_36 : decode cX10_joined 36 = .ok (.iconst 1, 1) := by decide +kernel
theorem dX10_joined_37 : decode cX10_joined 37 = .ok (.goto 20, 3) := by decide +kernel
theorem dX10_joined_40 : decode cX10_joined 40 = .ok (.iconst 0, 1) := by decide +kernel
theorem dX10_joined_41 : decode cX10_joined 41 = .ok (.goto 16, 3) := by decide +kernel
theorem dX10_joined_44 : decode cX10_joined 44 = .ok (.iload_n 1, 1) := by decide +kernel
theorem dX10_joined_45 : decode cX10_joined 45 = .ok (.ifCond .eq 11, 3) := by decide +kernel
theorem dX10_joined_48 : decode cX10_joined 48 = .ok (.iload_n 2, 1) := by decide +kernel
theorem dX10_joined_49 : decode cX10_joined 49 = .ok (.ifCond .ne 7, 3) := by decide +kernel
theorem dX10_joined_52 : decode cX10_joined 52 = .ok (.iconst 1, 1) := by decide +kernel
theorem dX10_joined_53 : decode cX10_joined 53 = .ok (.goto 4, 3) := by decide +kernel
theorem dX10_joined_56 : decode cX10_joined 56 = .ok (.iconst 0, 1) := by decide +kernel
theorem dX10_joined_57 : decode cX10_joined 57 = .ok (.ireturn, 1) := by decide +kernel
theorem dX10_work_0 : decode cX10_work 0 = .ok (.sipush 705, 3) := by decide +kernel
theorem dX10_work_3 : decode cX10_work 3 = .ok (.iload_n 1, 1) := by decide +kernel
theorem dX10_work_4 : decode cX10_work 4 = .ok (.imul, 1) := by decide +kernel
theorem dX10_work_5 : decode cX10_work 5 = .ok (.iconst 1, 1) := by decide +kernel
theorem dX10_work_6 : decode cX10_work 6 = .ok (.iadd, 1) := by decide +kernel
theorem dX10_work_7 : decode cX10_work 7 = .ok (.iconst 4, 1) := by decide +kernel
theorem dX10_work_8 : decode cX10_work 8 = .ok (.iload_n 2, 1) := by decide +kernel
theorem dX10_work_9 : decode cX10_work 9 = .ok (.imul, 1) := by decide +kernel
theorem dX10_work_10 : decode cX10_work 10 = .ok (.iadd, 1) := by decide +kernel
theorem dX10_work_11 : decode cX10_work 11 = .ok (.istore_n 3, 1) := by decide +kernel
theorem dX10_work_12 : decode cX10_work 12 = .ok (.sipush 705, 3) := by decide +kernel
theorem dX10_work_15 : decode cX10_work 15 = .ok (.iload_n 1, 1) := by decide +kernel
theorem dX10_work_16 : decode cX10_work 16 = .ok (.imul, 1) := by decide +kernel
theorem dX10_work_17 : decode cX10_work 17 = .ok (.bipush 97, 2) := by decide +kernel
theorem dX10_work_19 : decode cX10_work 19 = .ok (.iadd, 1) := by decide +kernel
theorem dX10_work_20 : decode cX10_work 20 = .ok (.istore 4, 2) := by decide +kernel
theorem dX10_work_22 : decode cX10_work 22 = .ok (.iconst 0, 1) := by decide +kernel
theorem dX10_work_23 : decode cX10_work 23 = .ok (.istore 5, 2) := by decide +kernel
theorem dX10_work_25 : decode cX10_work 25 = .ok (.iconst 0, 1) := by decide +kernel
theorem dX10_work_26 : decode cX10_work 26 = .ok (.istore 6, 2) := by decide +kernel
theorem dX10_work_28 : decode cX10_work 28 = .ok (.aload_n 0, 1) := by decide +kernel
theorem dX10_work_29 : decode cX10_work 29 = .ok (.getfield 16, 3) := by decide +kernel
theorem dX10_work_32 : decode cX10_work 32 = .ok (.iload_n 3, 1) := by decide +kernel
theorem dX10_work_33 : decode cX10_work 33 = .ok (.iconst 1, 1) := by decide +kernel
theorem dX10_work_34 : decode cX10_work 34 = .ok (.iadd, 1) := by decide +kernel
theorem dX10_work_35 : decode cX10_work 35 = .ok (.iaload, 1) := by decide +kernel
theorem dX10_work_36 : decode cX10_work 36 = .ok (.istore 7, 2) := by decide +kernel
theorem dX10_work_38 : decode cX10_work 38 = .ok (.iload 7, 2) := by decide +kernel
theorem dX10_work_40 : decode cX10_work 40 = .ok (.aload_n 0, 1) := by decide +kernel
theorem dX10_work_41 : decode cX10_work 41 = .ok (.getfield 16, 3) := by decide +kernel
theorem dX10_work_44 : decode cX10_work 44 = .ok (.iload_n 3, 1) := by decide +kernel
theorem dX10_work_45 : decode cX10_work 45 = .ok (.iconst 2, 1) := by decide +kernel
theorem dX10_work_46 : decode cX10_work 46 = .ok (.iadd, 1) := by decide +kernel
theorem dX10_work_47 : decode cX10_work 47 = .ok (.iaload, 1) := by decide +kernel
theorem dX10_work_48 : decode cX10_work 48 = .ok (.if_icmp .ge 323, 3) := by decide +kernel
theorem dX10_work_51 : decode cX10_work 51 = .ok (.aload_n 0, 1) := by decide +kernel
theorem dX10_work_52 : decode cX10_work 52 = .ok (.getfield 16, 3) := by decide +kernel
theorem dX10_work_55 : decode cX10_work 55 = .ok (.iload 4, 2) := by decide +kernel
theorem dX10_work_57 : decode cX10_work 57 = .ok (.iconst 2, 1) := by decide +kernel
theorem dX10_work_58 : decode cX10_work 58 = .ok (.iload 7, 2) := by decide +kernel
theorem dX10_work_60 : decode cX10_work 60 = .ok (.imul, 1) := by decide +kernel
theorem dX10_work_61 : decode cX10_work 61 = .ok (.iadd, 1) := by decide +kernel
theorem dX10_work_62 : decode cX10_work 62 = .ok (.iaload, 1) := by decide +kernel
theorem dX10_work_63 : decode cX10_work 63 = .ok (.istore 8, 2) := by decide +kernel
theorem dX10_work_65 : decode cX10_work 65 = .ok (.aload_n 0, 1) := by decide +kernel
theorem dX10_work_66 : decode cX10_work 66 = .ok (.getfield 16, 3) := by decide +kernel
theorem dX10_work_69 : decode cX10_work 69 = .ok (.iload 4, 2) := by decide +kernel
theorem dX10_work_71 : decode cX10_work 71 = .ok (.iconst 2, 1) := by decide +kernel
theorem dX10_work_72 : decode cX10_work 72 = .ok (.iload 7, 2) := by decide +kernel
theorem dX10_work_74 : decode cX10_work 74 = .ok (.imul, 1) := by decide +kernel
theorem dX10_work_75 : decode cX10_work 75 = .ok (.iadd, 1) := by decide +kernel
theorem dX10_work_76 : decode cX10_work 76 = .ok (.iconst 1, 1) := by decide +kernel
theorem dX10_work_77 : decode cX10_work 77 = .ok (.iadd, 1) := by decide +kernel
theorem dX10_work_78 : decode cX10_work 78 = .ok (.iaload, 1) := by decide +kernel
theorem dX10_work_79 : decode cX10_work 79 = .ok (.istore 9, 2) := by decide +kernel
theorem dX10_work_81 : decode cX10_work 81 = .ok (.iload 8, 2) := by decide +kernel
theorem dX10_work_83 : decode cX10_work 83 = .ok (.iconst 1, 1) := by decide +kernel
theorem dX10_work_84 : decode cX10_work 84 = .ok (.if_icmp .gt 35, 3) := by decide +kernel
theorem dX10_work_87 : decode cX10_work 87 = .ok (.aload_n 0, 1) := by decide +kernel
theorem dX10_work_88 : decode cX10_work 88 = .ok (.getfield 38, 3) := by decide +kernel
theorem dX10_work_91 : decode cX10_work 91 = .ok (.iload 5, 2) := by decide +kernel
theorem dX10_work_93 : decode cX10_work 93 = .ok (.iload 8, 2) := by decide +kernel
theorem dX10_work_95 : decode cX10_work 95 = .ok (.ifCond .ne 9, 3) := by decide +kernel
theorem dX10_work_98 : decode cX10_work 98 = .ok (.iload 9, 2) := by decide +kernel
theorem dX10_work_100 : decode cX10_work 100 = .ok (.i2l, 1) := by decide +kernel
theorem dX10_work_101 : decode cX10_work 101 = .ok (.goto 11, 3) := by decide +kernel
theorem dX10_work_104 : decode cX10_work 104 = .ok (.aload_n 0, 1) := by decide +kernel
theorem dX10_work_105 : decode cX10_work 105 = .ok (.getfield 35, 3) := by decide +kernel
theorem dX10_work_108 : decode cX10_work 108 = .ok (.iload 9, 2) := by decide +kernel
theorem dX10_work_110 : decode cX10_work 110 = .ok (.iaload, 1) := by decide +kernel
theorem dX10_work_111 : decode cX10_work 111 = .ok (.i2l, 1) := by decide +kernel
theorem dX10_work_112 : decode cX10_work 112 = .ok (.lastore, 1) := by decide +kernel
theorem dX10_work_113 : decode cX10_work 113 = .ok (.iinc 5 1, 3) := by decide +kernel
theorem dX10_work_116 : decode cX10_work 116 = .ok (.goto 249, 3) := by decide +kernel
theorem dX10_work_119 : decode cX10_work 119 = .ok (.iload 8, 2) := by decide +kernel
theorem dX10_work_121 : decode cX10_work 121 = .ok (.iconst 3, 1) := by decide +kernel
theorem dX10_work_122 : decode cX10_work 122 = .ok (.if_icmp .gt 59, 3) := by decide +kernel
theorem dX10_work_125 : decode cX10_work 125 = .ok (.iload 6, 2) := by decide +kernel
theorem dX10_work_127 : decode cX10_work 127 = .ok (.iload 8, 2) := by decide +kernel
theorem dX10_work_129 : decode cX10_work 129 = .ok (.iconst 3, 1) := by decide +kernel
theorem dX10_work_130 : decode cX10_work 130 = .ok (.if_icmp .ne 8, 3) := by decide +kernel
theorem dX10_work_133 : decode cX10_work 133 = .ok (.iload 9, 2) := by decide +kernel
theorem dX10_work_135 : decode cX10_work 135 = .ok (.goto 4, 3) := by decide +kernel
theorem dX10_work_138 : decode cX10_work 138 = .ok (.iconst 0, 1) := by decide +kernel
theorem dX10_work_139 : decode cX10_work 139 = .ok (.isub, 1) := by decide +kernel
theorem dX10_work_140 : decode cX10_work 140 = .ok (.istore 6, 2) := by decide +kernel
theorem dX10_work_142 : decode cX10_work 142 = .ok (.aload_n 0, 1) := by decide +kernel
theorem dX10_work_143 : decode cX10_work 143 = .ok (.getfield 42, 3) := by decide +kernel
theorem dX10_work_146 : decode cX10_work 146 = .ok (.iload 6, 2) := by decide +kernel
theorem dX10_work_148 : decode cX10_work 148 = .ok (.iload 8, 2) := by decide +kernel
theorem dX10_work_150 : decode cX10_work 150 = .ok (.iconst 2, 1) := by decide +kernel
theorem dX10_work_151 : decode cX10_work 151 = .ok (.if_icmp .ne 15, 3) := by decide +kernel
theorem dX10_work_154 : decode cX10_work 154 = .ok (.aload_n 0, 1) := by decide +kernel
theorem dX10_work_155 : decode cX10_work 155 = .ok (.getfield 305, 3) := by decide +kernel
theorem dX10_work_158 : decode cX10_work 158 = .ok (.iload 9, 2) := by decide +kernel
theorem dX10_work_160 : decode cX10_work 160 = .ok (.invokestatic 255, 3) := by decide +kernel
theorem dX10_work_163 : decode cX10_work 163 = .ok (.goto 11, 3) := by decide +kernel
theorem dX10_work_166 : decode cX10_work 166 = .ok (.aload_n 0, 1) := by decide +kernel
theorem dX10_work_167 : decode cX10_work 167 = .ok (.iload 6, 2) := by decide +kernel
theorem dX10_work_169 : decode cX10_work 169 = .ok (.iload 9, 2) := by decide +kernel
theorem dX10_work_171 : decode cX10_work 171 = .ok (.invokevirtual 308, 3) := by decide +kernel
theorem dX10_work_174 : decode cX10_work 174 = .ok (.bastore, 1) := by decide +kernel
theorem dX10_work_175 : decode cX10_work 175 = .ok (.iinc 6 1, 3) := by decide +kernel
theorem dX10_work_178 : decode cX10_work 178 = .ok (.goto 187, 3) := by decide +kernel
theorem dX10_work_181 : decode cX10_work 181 = .ok (.iload 8, 2) := by decide +kernel
theorem dX10_work_183 : decode cX10_work 183 = .ok (.iconst 4, 1) := by decide +kernel
theorem dX10_work_184 : decode cX10_work 184 = .ok (.if_icmp .ne 25, 3) := by decide +kernel
theorem dX10_work_187 : decode cX10_work 187 = .ok (.aload_n 0, 1) := by decide +kernel
theorem dX10_work_188 : decode cX10_work 188 = .ok (.getfield 38, 3) := by decide +kernel
theorem dX10_work_191 : decode cX10_work 191 = .ok (.iload 5, 2) := by decide +kernel
theorem dX10_work_193 : decode cX10_work 193 = .ok (.iconst 1, 1) := by decide +kernel
theorem dX10_work_194 : decode cX10_work 194 = .ok (.isub, 1) := by decide +kernel
theorem dX10_work_195 : decode cX10_work 195 = .ok (.aload_n 0, 1) := by decide +kernel
theorem dX10_work_196 : decode cX10_work 196 = .ok (.getfield 38, 3) := by decide +kernel
theorem dX10_work_199 : decode cX10_work 199 = .ok (.iload 5, 2) := by decide +kernel
theorem dX10_work_201 : decode cX10_work 201 = .ok (.iconst 1, 1) := by decide +kernel
theorem dX10_work_202 : decode cX10_work 202 = .ok (.isub, 1) := by decide +kernel
theorem dX10_work_203 : decode cX10_work 203 = .ok (.laload, 1) := by decide +kernel
theorem dX10_work_204 : decode cX10_work 204 = .ok (.lneg, 1) := by decide +kernel
theorem dX10_work_205 : decode cX10_work 205 = .ok (.lastore, 1) := by decide +kernel
theorem dX10_work_206 : decode cX10_work 206 = .ok (.goto 159, 3) := by decide +kernel
theorem dX10_work_209 : decode cX10_work 209 = .ok (.iload 8, 2) := by decide +kernel
theorem dX10_work_211 : decode cX10_work 211 = .ok (.bipush 10, 2) := by decide +kernel
theorem dX10_work_213 : decode cX10_work 213 = .ok (.if_icmp .ge 39, 3) := by decide +kernel
theorem dX10_work_216 : decode cX10_work 216 = .ok (.iinc 5 (-1), 3) := by decide +kernel
theorem dX10_work_219 : decode cX10_work 219 = .ok (.aload_n 0, 1) := by decide +kernel
theorem dX10_work_220 : decode cX10_work 220 = .ok (.getfield 38, 3) := by decide +kernel
theorem dX10_work_223 : decode cX10_work 223 = .ok (.iload 5, 2) := by decide +kernel
theorem dX10_work_225 : decode cX10_work 225 = .ok (.iconst 1, 1) := by decide +kernel
theorem dX10_work_226 : decode cX10_work 226 = .ok (.isub, 1) := by decide +kernel
theorem dX10_work_227 : decode cX10_work 227 = .ok (.iload 8, 2) := by decide +kernel
theorem dX10_work_229 : decode cX10_work 229 = .ok (.aload_n 0, 1) := by decide +kernel
theorem dX10_work_230 : decode cX10_work 230 = .ok (.getfield 38, 3) := by decide +kernel
theorem dX10_work_233 : decode cX10_work 233 = .ok (.iload 5, 2) := by decide +kernel
theorem dX10_work_235 : decode cX10_work 235 = .ok (.iconst 1, 1) := by decide +kernel
theorem dX10_work_236 : decode cX10_work 236 = .ok (.isub, 1) := by decide +kernel
theorem dX10_work_237 : decode cX10_work 237 = .ok (.laload, 1) := by decide +kernel
theorem dX10_work_238 : decode cX10_work 238 = .ok (.aload_n 0, 1) := by decide +kernel
theorem dX10_work_239 : decode cX10_work 239 = .ok (.getfield 38, 3) := by decide +kernel
theorem dX10_work_242 : decode cX10_work 242 = .ok (.iload 5, 2) := by decide +kernel
theorem dX10_work_244 : decode cX10_work 244 = .ok (.laload, 1) := by decide +kernel
theorem dX10_work_245 : decode cX10_work 245 = .ok (.invokestatic 311, 3) := by decide +kernel
theorem dX10_work_248 : decode cX10_work 248 = .ok (.lastore, 1) := by decide +kernel
theorem dX10_work_249 : decode cX10_work 249 = .ok (.goto 116, 3) := by decide +kernel
theorem dX10_work_252 : decode cX10_work 252 = .ok (.iload 8, 2) := by decide +kernel
theorem dX10_work_254 : decode cX10_work 254 = .ok (.bipush 20, 2) := by decide +kernel
theorem dX10_work_256 : decode cX10_work 256 = .ok (.if_icmp .ge 40, 3) := by decide +kernel
theorem dX10_work_259 : decode cX10_work 259 = .ok (.iinc 5 (-2), 3) := by decide +kernel
theorem dX10_work_262 : decode cX10_work 262 = .ok (.aload_n 0, 1) := by decide +kernel
theorem dX10_work_263 : decode cX10_work 263 = .ok (.getfield 42, 3) := by decide +kernel
theorem dX10_work_266 : decode cX10_work 266 = .ok (.iload 6, 2) := by decide +kernel
theorem dX10_work_268 : decode cX10_work 268 = .ok (.iload 8, 2) := by decide +kernel
theorem dX10_work_270 : decode cX10_work 270 = .ok (.aload_n 0, 1) := by decide +kernel
theorem dX10_work_271 : decode cX10_work 271 = .ok (.getfield 38, 3) := by decide +kernel
theorem dX10_work_274 : decode cX10_work 274 = .ok (.iload 5, 2) := by decide +kernel
theorem dX10_work_276 : decode cX10_work 276 = .ok (.laload, 1) := by decide +kernel
theorem dX10_work_277 : decode cX10_work 277 = .ok (.aload_n 0, 1) := by decide +kernel
theorem dX10_work_278 : decode cX10_work 278 = .ok (.getfield 38, 3) := by decide +kernel
theorem dX10_work_281 : decode cX10_work 281 = .ok (.iload 5, 2) := by decide +kernel
theorem dX10_work_283 : decode cX10_work 283 = .ok (.iconst 1, 1) := by decide +kernel
theorem dX10_work_284 : decode cX10_work 284 = .ok (.iadd, 1) := by decide +kernel
theorem dX10_work_285 : decode cX10_work 285 = .ok (.laload, 1) := by decide +kernel
theorem dX10_work_286 : decode cX10_work 286 = .ok (.invokestatic 315, 3) := by decide +kernel
theorem dX10_work_289 : decode cX10_work 289 = .ok (.bastore, 1) := by decide +kernel
theorem dX10_work_290 : decode cX10_work 290 = .ok (.iinc 6 1, 3) := by decide +kernel
theorem dX10_work_293 : decode cX10_work 293 = .ok (.goto 72, 3) := by decide +kernel
theorem dX10_work_296 : decode cX10_work 296 = .ok (.iload 8, 2) := by decide +kernel
theorem dX10_work_298 : decode cX10_work 298 = .ok (.bipush 20, 2) := by decide +kernel
theorem dX10_work_300 : decode cX10_work 300 = .ok (.if_icmp .ne 32, 3) := by decide +kernel
theorem dX10_work_303 : decode cX10_work 303 = .ok (.aload_n 0, 1) := by decide +kernel
theorem dX10_work_304 : decode cX10_work 304 = .ok (.getfield 42, 3) := by decide +kernel
theorem dX10_work_307 : decode cX10_work 307 = .ok (.iload 6, 2) := by decide +kernel
theorem dX10_work_309 : decode cX10_work 309 = .ok (.iconst 1, 1) := by decide +kernel
theorem dX10_work_310 : decode cX10_work 310 = .ok (.isub, 1) := by decide +kernel
theorem dX10_work_311 : decode cX10_work 311 = .ok (.aload_n 0, 1) := by decide +kernel
theorem dX10_work_312 : decode cX10_work 312 = .ok (.getfield 42, 3) := by decide +kernel
theorem dX10_work_315 : decode cX10_work 315 = .ok (.iload 6, 2) := by decide +kernel
theorem dX10_work_317 : decode cX10_work 317 = .ok (.iconst 1, 1) := by decide +kernel
theorem dX10_work_318 : decode cX10_work 318 = .ok (.isub, 1) := by decide +kernel
theorem dX10_work_319 : decode cX10_work 319 = .ok (.baload, 1) := by decide +kernel
theorem dX10_work_320 : decode cX10_work 320 = .ok (.ifCond .ne 7, 3) := by decide +kernel
theorem dX10_work_323 : decode cX10_work 323 = .ok (.iconst 1, 1) := by decide +kernel
theorem dX10_work_324 : decode cX10_work 324 = .ok (.goto 4, 3) := by decide +kernel
theorem dX10_work_327 : decode cX10_work 327 = .ok (.iconst 0, 1) := by decide +kernel
theorem dX10_work_328 : decode cX10_work 328 = .ok (.bastore, 1) := by decide +kernel
theorem dX10_work_329 : decode cX10_work 329 = .ok (.goto 36, 3) := by decide +kernel
theorem dX10_work_332 : decode cX10_work 332 = .ok (.iinc 6 (-1), 3) := by decide +kernel
theorem dX10_work_335 : decode cX10_work 335 = .ok (.aload_n 0, 1) := by decide +kernel
theorem dX10_work_336 : decode cX10_work 336 = .ok (.getfield 42, 3) := by decide +kernel
theorem dX10_work_339 : decode cX10_work 339 = .ok (.iload 6, 2) := by decide +kernel
theorem dX10_work_341 : decode cX10_work 341 = .ok (.iconst 1, 1) := by decide +kernel
theorem dX10_work_342 : decode cX10_work 342 = .ok (.isub, 1) := by decide +kernel
theorem dX10_work_343 : decode cX10_work 343 = .ok (.iload 8, 2) := by decide +kernel
theorem dX10_work_345 : decode cX10_work 345 = .ok (.aload_n 0, 1) := by decide +kernel
theorem dX10_work_346 : decode cX10_work 346 = .ok (.getfield 42, 3) := by decide +kernel
theorem dX10_work_349 : decode cX10_work 349 = .ok (.iload 6, 2) := by decide +kernel
theorem dX10_work_351 : decode cX10_work 351 = .ok (.iconst 1, 1) := by decide +kernel
theorem dX10_work_352 : decode cX10_work 352 = .ok (.isub, 1) := by decide +kernel
theorem dX10_work_353 : decode cX10_work 353 = .ok (.baload, 1) := by decide +kernel
theorem dX10_work_354 : decode cX10_work 354 = .ok (.aload_n 0, 1) := by decide +kernel
theorem dX10_work_355 : decode cX10_work 355 = .ok (.getfield 42, 3) := by decide +kernel
theorem dX10_work_358 : decode cX10_work 358 = .ok (.iload 6, 2) := by decide +kernel
theorem dX10_work_360 : decode cX10_work 360 = .ok (.baload, 1) := by decide +kernel
theorem dX10_work_361 : decode cX10_work 361 = .ok (.invokestatic 319, 3) := by decide +kernel
theorem dX10_work_364 : decode cX10_work 364 = .ok (.bastore, 1) := by decide +kernel
theorem dX10_work_365 : decode cX10_work 365 = .ok (.iinc 7 1, 3) := by decide +kernel
theorem dX10_work_368 : decode cX10_work 368 = .ok (.goto (-330), 3) := by decide +kernel
theorem dX10_work_371 : decode cX10_work 371 = .ok (.return_, 1) := by decide +kernel
theorem dX10_clauseOf_0 : decode cX10_clauseOf 0 = .ok (.iconst 0, 1) := by decide +kernel
theorem dX10_clauseOf_1 : decode cX10_clauseOf 1 = .ok (.istore 4, 2) := by decide +kernel
theorem dX10_clauseOf_3 : decode cX10_clauseOf 3 = .ok (.iload_n 1, 1) := by decide +kernel
theorem dX10_clauseOf_4 : decode cX10_clauseOf 4 = .ok (.ifCond .lt 70, 3) := by decide +kernel
theorem dX10_clauseOf_7 : decode cX10_clauseOf 7 = .ok (.iload 4, 2) := by decide +kernel
theorem dX10_clauseOf_9 : decode cX10_clauseOf 9 = .ok (.aload_n 0, 1) := by decide +kernel
theorem dX10_clauseOf_10 : decode cX10_clauseOf 10 = .ok (.getfield 16, 3) := by decide +kernel
theorem dX10_clauseOf_13 : decode cX10_clauseOf 13 = .ok (.sipush 705, 3) := by decide +kernel
theorem dX10_clauseOf_16 : decode cX10_clauseOf 16 = .ok (.iload_n 1, 1) := by decide +kernel
theorem dX10_clauseOf_17 : decode cX10_clauseOf 17 = .ok (.imul, 1) := by decide +kernel
theorem dX10_clauseOf_18 : decode cX10_clauseOf 18 = .ok (.iaload, 1) := by decide +kernel
theorem dX10_clauseOf_19 : decode cX10_clauseOf 19 = .ok (.if_icmp .ge 55, 3) := by decide +kernel
theorem dX10_clauseOf_22 : decode cX10_clauseOf 22 = .ok (.sipush 705, 3) := by decide +kernel
theorem dX10_clauseOf_25 : decode cX10_clauseOf 25 = .ok (.iload_n 1, 1) := by decide +kernel
theorem dX10_clauseOf_26 : decode cX10_clauseOf 26 = .ok (.imul, 1) := by decide +kernel
theorem dX10_clauseOf_27 : decode cX10_clauseOf 27 = .ok (.iconst 1, 1) := by decide +kernel
theorem dX10_clauseOf_28 : decode cX10_clauseOf 28 = .ok (.iadd, 1) := by decide +kernel
theorem dX10_clauseOf_29 : decode cX10_clauseOf 29 = .ok (.iconst 4, 1) := by decide +kernel
theorem dX10_clauseOf_30 : decode cX10_clauseOf 30 = .ok (.iload 4, 2) := by decide +kernel
theorem dX10_clauseOf_32 : decode cX10_clauseOf 32 = .ok (.imul, 1) := by decide +kernel
theorem dX10_clauseOf_33 : decode cX10_clauseOf 33 = .ok (.iadd, 1) := by decide +kernel
theorem dX10_clauseOf_34 : decode cX10_clauseOf 34 = .ok (.istore 5, 2) := by decide +kernel
theorem dX10_clauseOf_36 : decode cX10_clauseOf 36 = .ok (.aload_n 0, 1) := by decide +kernel
theorem dX10_clauseOf_37 : decode cX10_clauseOf 37 = .ok (.getfield 16, 3) := by decide +kernel
theorem dX10_clauseOf_40 : decode cX10_clauseOf 40 = .ok (.iload 5, 2) := by decide +kernel
theorem dX10_clauseOf_42 : decode cX10_clauseOf 42 = .ok (.iaload, 1) := by decide +kernel
theorem dX10_clauseOf_43 : decode cX10_clauseOf 43 = .ok (.iload_n 2, 1) := by decide +kernel
theorem dX10_clauseOf_44 : decode cX10_clauseOf 44 = .ok (.if_icmp .ne 24, 3) := by decide +kernel
theorem dX10_clauseOf_47 : decode cX10_clauseOf 47 = .ok (.iload_n 2, 1) := by decide +kernel
theorem dX10_clauseOf_48 : decode cX10_clauseOf 48 = .ok (.iconst 4, 1) := by decide +kernel
theorem dX10_clauseOf_49 : decode cX10_clauseOf 49 = .ok (.if_icmp .ne 16, 3) := by decide +kernel
theorem dX10_clauseOf_52 : decode cX10_clauseOf 52 = .ok (.aload_n 0, 1) := by decide +kernel
theorem dX10_clauseOf_53 : decode cX10_clauseOf 53 = .ok (.getfield 16, 3) := by decide +kernel
theorem dX10_clauseOf_56 : decode cX10_clauseOf 56 = .ok (.iload 5, 2) := by decide +kernel
theorem dX10_clauseOf_58 : decode cX10_clauseOf 58 = .ok (.iconst 3, 1) := by decide +kernel
theorem dX10_clauseOf_59 : decode cX10_clauseOf 59 = .ok (.iadd, 1) := by decide +kernel
theorem dX10_clauseOf_60 : decode cX10_clauseOf 60 = .ok (.iaload, 1) := by decide +kernel
theorem dX10_clauseOf_61 : decode cX10_clauseOf 61 = .ok (.iload_n 3, 1) := by decide +kernel
theorem dX10_clauseOf_62 : decode cX10_clauseOf 62 = .ok (.if_icmp .ne 6, 3) := by decide +kernel
theorem dX10_clauseOf_65 : decode cX10_clauseOf 65 = .ok (.iload 4, 2) := by decide +kernel
theorem dX10_clauseOf_67 : decode cX10_clauseOf 67 = .ok (.ireturn, 1) := by decide +kernel
theorem dX10_clauseOf_68 : decode cX10_clauseOf 68 = .ok (.iinc 4 1, 3) := by decide +kernel
theorem dX10_clauseOf_71 : decode cX10_clauseOf 71 = .ok (.goto (-68), 3) := by decide +kernel
theorem dX10_clauseOf_74 : decode cX10_clauseOf 74 = .ok (.iconst (-1), 1) := by decide +kernel
theorem dX10_clauseOf_75 : decode cX10_clauseOf 75 = .ok (.ireturn, 1) := by decide +kernel
theorem dX10_says_0 : decode cX10_says 0 = .ok (.aload_n 0, 1) := by decide +kernel
theorem dX10_says_1 : decode cX10_says 1 = .ok (.aload_n 0, 1) := by decide +kernel
theorem dX10_says_2 : decode cX10_says 2 = .ok (.getfield 7, 3) := by decide +kernel
theorem dX10_says_5 : decode cX10_says 5 = .ok (.iconst 2, 1) := by decide +kernel
theorem dX10_says_6 : decode cX10_says 6 = .ok (.iaload, 1) := by decide +kernel
theorem dX10_says_7 : decode cX10_says 7 = .ok (.iload_n 1, 1) := by decide +kernel
theorem dX10_says_8 : decode cX10_says 8 = .ok (.iconst 0, 1) := by decide +kernel
theorem dX10_says_9 : decode cX10_says 9 = .ok (.invokevirtual 323, 3) := by decide +kernel
theorem dX10_says_12 : decode cX10_says 12 = .ok (.istore 5, 2) := by decide +kernel
theorem dX10_says_14 : decode cX10_says 14 = .ok (.iload 5, 2) := by decide +kernel
theorem dX10_says_16 : decode cX10_says 16 = .ok (.ifCond .ge 5, 3) := by decide +kernel
theorem dX10_says_19 : decode cX10_says 19 = .ok (.iload_n 2, 1) := by decide +kernel
theorem dX10_says_20 : decode cX10_says 20 = .ok (.ireturn, 1) := by decide +kernel
theorem dX10_says_21 : decode cX10_says 21 = .ok (.aload_n 0, 1) := by decide +kernel
theorem dX10_says_22 : decode cX10_says 22 = .ok (.aload_n 0, 1) := by decide +kernel
theorem dX10_says_23 : decode cX10_says 23 = .ok (.getfield 7, 3) := by decide +kernel
theorem dX10_says_26 : decode cX10_says 26 = .ok (.iconst 2, 1) := by decide +kernel
theorem dX10_says_27 : decode cX10_says 27 = .ok (.iaload, 1) := by decide +kernel
theorem dX10_says_28 : decode cX10_says 28 = .ok (.iload 5, 2) := by decide +kernel
theorem dX10_says_30 : decode cX10_says 30 = .ok (.invokevirtual 326, 3) := by decide +kernel
theorem dX10_says_33 : decode cX10_says 33 = .ok (.aload_n 0, 1) := by decide +kernel
theorem dX10_says_34 : decode cX10_says 34 = .ok (.getfield 38, 3) := by decide +kernel
theorem dX10_says_37 : decode cX10_says 37 = .ok (.iconst 0, 1) := by decide +kernel
theorem dX10_says_38 : decode cX10_says 38 = .ok (.laload, 1) := by decide +kernel
theorem dX10_says_39 : decode cX10_says 39 = .ok (.iload_n 3, 1) := by decide +kernel
theorem dX10_says_40 : decode cX10_says 40 = .ok (.iload 4, 2) := by decide +kernel
theorem dX10_says_42 : decode cX10_says 42 = .ok (.invokestatic 329, 3) := by decide +kernel
theorem dX10_says_45 : decode cX10_says 45 = .ok (.ireturn, 1) := by decide +kernel
theorem dX10_name_0 : decode cX10_name 0 = .ok (.aload_n 0, 1) := by decide +kernel
theorem dX10_name_1 : decode cX10_name 1 = .ok (.getfield 35, 3) := by decide +kernel
theorem dX10_name_4 : decode cX10_name 4 = .ok (.iconst 0, 1) := by decide +kernel
theorem dX10_name_5 : decode cX10_name 5 = .ok (.aload_n 0, 1) := by decide +kernel
theorem dX10_name_6 : decode cX10_name 6 = .ok (.getfield 7, 3) := by decide +kernel
theorem dX10_name_9 : decode cX10_name 9 = .ok (.bipush 11, 2) := by decide +kernel
theorem dX10_name_11 : decode cX10_name 11 = .ok (.iaload, 1) := by decide +kernel
theorem dX10_name_12 : decode cX10_name 12 = .ok (.iastore, 1) := by decide +kernel
theorem dX10_name_13 : decode cX10_name 13 = .ok (.aload_n 0, 1) := by decide +kernel
theorem dX10_name_14 : decode cX10_name 14 = .ok (.getfield 35, 3) := by decide +kernel
theorem dX10_name_17 : decode cX10_name 17 = .ok (.iconst 1, 1) := by decide +kernel
theorem dX10_name_18 : decode cX10_name 18 = .ok (.aload_n 0, 1) := by decide +kernel
theorem dX10_name_19 : decode cX10_name 19 = .ok (.getfield 7, 3) := by decide +kernel
theorem dX10_name_22 : decode cX10_name 22 = .ok (.bipush 8, 2) := by decide +kernel
theorem dX10_name_24 : decode cX10_name 24 = .ok (.iaload, 1) := by decide +kernel
theorem dX10_name_25 : decode cX10_name 25 = .ok (.iastore, 1) := by decide +kernel
theorem dX10_name_26 : decode cX10_name 26 = .ok (.aload_n 0, 1) := by decide +kernel
theorem dX10_name_27 : decode cX10_name 27 = .ok (.getfield 35, 3) := by decide +kernel
theorem dX10_name_30 : decode cX10_name 30 = .ok (.iconst 2, 1) := by decide +kernel
theorem dX10_name_31 : decode cX10_name 31 = .ok (.aload_n 0, 1) := by decide +kernel
theorem dX10_name_32 : decode cX10_name 32 = .ok (.getfield 7, 3) := by decide +kernel
theorem dX10_name_35 : decode cX10_name 35 = .ok (.bipush 9, 2) := by decide +kernel
theorem dX10_name_37 : decode cX10_name 37 = .ok (.iaload, 1) := by decide +kernel
theorem dX10_name_38 : decode cX10_name 38 = .ok (.iastore, 1) := by decide +kernel
theorem dX10_name_39 : decode cX10_name 39 = .ok (.return_, 1) := by decide +kernel
theorem dX10_nameCase_0 : decode cX10_nameCase 0 = .ok (.aload_n 0, 1) := by decide +kernel
theorem dX10_nameCase_1 : decode cX10_nameCase 1 = .ok (.invokevirtual 333, 3) := by decide +kernel
theorem dX10_nameCase_4 : decode cX10_nameCase 4 = .ok (.aload_n 0, 1) := by decide +kernel
theorem dX10_nameCase_5 : decode cX10_nameCase 5 = .ok (.getfield 35, 3) := by decide +kernel
theorem dX10_nameCase_8 : decode cX10_nameCase 8 = .ok (.iconst 4, 1) := by decide +kernel
theorem dX10_nameCase_9 : decode cX10_nameCase 9 = .ok (.aload_n 0, 1) := by decide +kernel
theorem dX10_nameCase_10 : decode cX10_nameCase 10 = .ok (.iload_n 1, 1) := by decide +kernel
theorem dX10_nameCase_11 : decode cX10_nameCase 11 = .ok (.iconst 0, 1) := by decide +kernel
theorem dX10_nameCase_12 : decode cX10_nameCase 12 = .ok (.invokevirtual 82, 3) := by decide +kernel
theorem dX10_nameCase_15 : decode cX10_nameCase 15 = .ok (.iastore, 1) := by decide +kernel
theorem dX10_nameCase_16 : decode cX10_nameCase 16 = .ok (.aload_n 0, 1) := by decide +kernel
theorem dX10_nameCase_17 : decode cX10_nameCase 17 = .ok (.getfield 35, 3) := by decide +kernel
theorem dX10_nameCase_20 : decode cX10_nameCase 20 = .ok (.iconst 5, 1) := by decide +kernel
theorem dX10_nameCase_21 : decode cX10_nameCase 21 = .ok (.aload_n 0, 1) := by decide +kernel
theorem dX10_nameCase_22 : decode cX10_nameCase 22 = .ok (.iload_n 1, 1) := by decide +kernel
theorem dX10_nameCase_23 : decode cX10_nameCase 23 = .ok (.iconst 1, 1) := by decide +kernel
theorem dX10_nameCase_24 : decode cX10_nameCase 24 = .ok (.invokevirtual 82, 3) := by decide +kernel
theorem dX10_nameCase_27 : decode cX10_nameCase 27 = .ok (.iastore, 1) := by decide +kernel
theorem dX10_nameCase_28 : decode cX10_nameCase 28 = .ok (.aload_n 0, 1) := by decide +kernel
theorem dX10_nameCase_29 : decode cX10_nameCase 29 = .ok (.getfield 35, 3) := by decide +kernel
theorem dX10_nameCase_32 : decode cX10_nameCase 32 = .ok (.bipush 6, 2) := by decide +kernel
theorem dX10_nameCase_34 : decode cX10_nameCase 34 = .ok (.iload_n 2, 1) := by decide +kernel
theorem dX10_nameCase_35 : decode cX10_nameCase 35 = .ok (.iastore, 1) := by decide +kernel
theorem dX10_nameCase_36 : decode cX10_nameCase 36 = .ok (.return_, 1) := by decide +kernel
theorem dX10_isGuilty_0 : decode cX10_isGuilty 0 = .ok (.aload_n 0, 1) := by decide +kernel
theorem dX10_isGuilty_1 : decode cX10_isGuilty 1 = .ok (.iload_n 1, 1) := by decide +kernel
theorem dX10_isGuilty_2 : decode cX10_isGuilty 2 = .ok (.iconst 4, 1) := by decide +kernel
theorem dX10_isGuilty_3 : decode cX10_isGuilty 3 = .ok (.iload_n 2, 1) := by decide +kernel
theorem dX10_isGuilty_4 : decode cX10_isGuilty 4 = .ok (.invokevirtual 323, 3) := by decide +kernel
theorem dX10_isGuilty_7 : decode cX10_isGuilty 7 = .ok (.istore 6, 2) := by decide +kernel
theorem dX10_isGuilty_9 : decode cX10_isGuilty 9 = .ok (.iload 6, 2) := by decide +kernel
theorem dX10_isGuilty_11 : decode cX10_isGuilty 11 = .ok (.ifCond .ge 28, 3) := by decide +kernel
theorem dX10_isGuilty_14 : decode cX10_isGuilty 14 = .ok (.aload_n 0, 1) := by decide +kernel
theorem dX10_isGuilty_15 : decode cX10_isGuilty 15 = .ok (.iload_n 3, 1) := by decide +kernel
theorem dX10_isGuilty_16 : decode cX10_isGuilty 16 = .ok (.iconst 1, 1) := by decide +kernel
theorem dX10_isGuilty_17 : decode cX10_isGuilty 17 = .ok (.invokevirtual 82, 3) := by decide +kernel
theorem dX10_isGuilty_20 : decode cX10_isGuilty 20 = .ok (.iload_n 2, 1) := by decide +kernel
theorem dX10_isGuilty_21 : decode cX10_isGuilty 21 = .ok (.if_icmp .le 16, 3) := by decide +kernel
theorem dX10_isGuilty_24 : decode cX10_isGuilty 24 = .ok (.iload 5, 2) := by decide +kernel
theorem dX10_isGuilty_26 : decode cX10_isGuilty 26 = .ok (.iconst 0, 1) := by decide +kernel
theorem dX10_isGuilty_27 : decode cX10_isGuilty 27 = .ok (.invokestatic 255, 3) := by decide +kernel
theorem dX10_isGuilty_30 : decode cX10_isGuilty 30 = .ok (.ifCond .eq 7, 3) := by decide +kernel
theorem dX10_isGuilty_33 : decode cX10_isGuilty 33 = .ok (.iconst 1, 1) := by decide +kernel
theorem dX10_isGuilty_34 : decode cX10_isGuilty 34 = .ok (.goto 4, 3) := by decide +kernel
theorem dX10_isGuilty_37 : decode cX10_isGuilty 37 = .ok (.iconst 0, 1) := by decide +kernel
theorem dX10_isGuilty_38 : decode cX10_isGuilty 38 = .ok (.ireturn, 1) := by decide +kernel
theorem dX10_isGuilty_39 : decode cX10_isGuilty 39 = .ok (.aload_n 0, 1) := by decide +kernel
theorem dX10_isGuilty_40 : decode cX10_isGuilty 40 = .ok (.iload_n 3, 1) := by decide +kernel
theorem dX10_isGuilty_41 : decode cX10_isGuilty 41 = .ok (.iload 4, 2) := by decide +kernel
theorem dX10_isGuilty_43 : decode cX10_isGuilty 43 = .ok (.invokevirtual 336, 3) := by decide +kernel
theorem dX10_isGuilty_46 : decode cX10_isGuilty 46 = .ok (.aload_n 0, 1) := by decide +kernel
theorem dX10_isGuilty_47 : decode cX10_isGuilty 47 = .ok (.getfield 35, 3) := by decide +kernel
theorem dX10_isGuilty_50 : decode cX10_isGuilty 50 = .ok (.iconst 1, 1) := by decide +kernel
theorem dX10_isGuilty_51 : decode cX10_isGuilty 51 = .ok (.iload_n 2, 1) := by decide +kernel
theorem dX10_isGuilty_52 : decode cX10_isGuilty 52 = .ok (.iastore, 1) := by decide +kernel
theorem dX10_isGuilty_53 : decode cX10_isGuilty 53 = .ok (.aload_n 0, 1) := by decide +kernel
theorem dX10_isGuilty_54 : decode cX10_isGuilty 54 = .ok (.iload 5, 2) := by decide +kernel
theorem dX10_isGuilty_56 : decode cX10_isGuilty 56 = .ok (.putfield 305, 3) := by decide +kernel
theorem dX10_isGuilty_59 : decode cX10_isGuilty 59 = .ok (.aload_n 0, 1) := by decide +kernel
theorem dX10_isGuilty_60 : decode cX10_isGuilty 60 = .ok (.iload_n 1, 1) := by decide +kernel
theorem dX10_isGuilty_61 : decode cX10_isGuilty 61 = .ok (.iload 6, 2) := by decide +kernel
theorem dX10_isGuilty_63 : decode cX10_isGuilty 63 = .ok (.invokevirtual 326, 3) := by decide +kernel
theorem dX10_isGuilty_66 : decode cX10_isGuilty 66 = .ok (.aload_n 0, 1) := by decide +kernel
theorem dX10_isGuilty_67 : decode cX10_isGuilty 67 = .ok (.getfield 42, 3) := by decide +kernel
theorem dX10_isGuilty_70 : decode cX10_isGuilty 70 = .ok (.iconst 0, 1) := by decide +kernel
theorem dX10_isGuilty_71 : decode cX10_isGuilty 71 = .ok (.baload, 1) := by decide +kernel
theorem dX10_isGuilty_72 : decode cX10_isGuilty 72 = .ok (.ireturn, 1) := by decide +kernel
theorem dX10_sentenceOf_0 : decode cX10_sentenceOf 0 = .ok (.aload_n 0, 1) := by decide +kernel
theorem dX10_sentenceOf_1 : decode cX10_sentenceOf 1 = .ok (.iload_n 1, 1) := by decide +kernel
theorem dX10_sentenceOf_2 : decode cX10_sentenceOf 2 = .ok (.iload_n 2, 1) := by decide +kernel
theorem dX10_sentenceOf_3 : decode cX10_sentenceOf 3 = .ok (.invokevirtual 336, 3) := by decide +kernel
theorem dX10_sentenceOf_6 : decode cX10_sentenceOf 6 = .ok (.aload_n 0, 1) := by decide +kernel
theorem dX10_sentenceOf_7 : decode cX10_sentenceOf 7 = .ok (.getfield 35, 3) := by decide +kernel
theorem dX10_sentenceOf_10 : decode cX10_sentenceOf 10 = .ok (.bipush 7, 2) := by decide +kernel
theorem dX10_sentenceOf_12 : decode cX10_sentenceOf 12 = .ok (.iload_n 3, 1) := by decide +kernel
theorem dX10_sentenceOf_13 : decode cX10_sentenceOf 13 = .ok (.invokestatic 339, 3) := by decide +kernel
theorem dX10_sentenceOf_16 : decode cX10_sentenceOf 16 = .ok (.iastore, 1) := by decide +kernel
theorem dX10_sentenceOf_17 : decode cX10_sentenceOf 17 = .ok (.aload_n 0, 1) := by decide +kernel
theorem dX10_sentenceOf_18 : decode cX10_sentenceOf 18 = .ok (.iload_n 1, 1) := by decide +kernel
theorem dX10_sentenceOf_19 : decode cX10_sentenceOf 19 = .ok (.iconst 1, 1) := by decide +kernel
theorem dX10_sentenceOf_20 : decode cX10_sentenceOf 20 = .ok (.invokevirtual 82, 3) := by decide +kernel
theorem dX10_sentenceOf_23 : decode cX10_sentenceOf 23 = .ok (.iload_n 2, 1) := by decide +kernel
theorem dX10_sentenceOf_24 : decode cX10_sentenceOf 24 = .ok (.imul, 1) := by decide +kernel
theorem dX10_sentenceOf_25 : decode cX10_sentenceOf 25 = .ok (.istore 4, 2) := by decide +kernel
theorem dX10_sentenceOf_27 : decode cX10_sentenceOf 27 = .ok (.aload_n 0, 1) := by decide +kernel
theorem dX10_sentenceOf_28 : decode cX10_sentenceOf 28 = .ok (.iconst 3, 1) := by decide +kernel
theorem dX10_sentenceOf_29 : decode cX10_sentenceOf 29 = .ok (.iload 4, 2) := by decide +kernel
theorem dX10_sentenceOf_31 : decode cX10_sentenceOf 31 = .ok (.iconst 0, 1) := by decide +kernel
theorem dX10_sentenceOf_32 : decode cX10_sentenceOf 32 = .ok (.sipush 999, 3) := by decide +kernel
theorem dX10_sentenceOf_35 : decode cX10_sentenceOf 35 = .ok (.invokevirtual 342, 3) := by decide +kernel
theorem dX10_sentenceOf_38 : decode cX10_sentenceOf 38 = .ok (.ireturn, 1) := by decide +kernel
theorem dX10_drawn_0 : decode cX10_drawn 0 = .ok (.aload_n 0, 1) := by decide +kernel
theorem dX10_drawn_1 : decode cX10_drawn 1 = .ok (.getfield 7, 3) := by decide +kernel
theorem dX10_drawn_4 : decode cX10_drawn 4 = .ok (.bipush 12, 2) := by decide +kernel
theorem dX10_drawn_6 : decode cX10_drawn 6 = .ok (.iaload, 1) := by decide +kernel
theorem dX10_drawn_7 : decode cX10_drawn 7 = .ok (.iload_n 1, 1) := by decide +kernel
theorem dX10_drawn_8 : decode cX10_drawn 8 = .ok (.irem, 1) := by decide +kernel
theorem dX10_drawn_9 : decode cX10_drawn 9 = .ok (.istore_n 2, 1) := by decide +kernel
theorem dX10_drawn_10 : decode cX10_drawn 10 = .ok (.aload_n 0, 1) := by decide +kernel
theorem dX10_drawn_11 : decode cX10_drawn 11 = .ok (.invokevirtual 346, 3) := by decide +kernel
theorem dX10_drawn_14 : decode cX10_drawn 14 = .ok (.iload_n 2, 1) := by decide +kernel
theorem dX10_drawn_15 : decode cX10_drawn 15 = .ok (.ireturn, 1) := by decide +kernel
theorem dX10_anew_0 : decode cX10_anew 0 = .ok (.aload_n 0, 1) := by decide +kernel
theorem dX10_anew_1 : decode cX10_anew 1 = .ok (.getfield 7, 3) := by decide +kernel
theorem dX10_anew_4 : decode cX10_anew 4 = .ok (.bipush 12, 2) := by decide +kernel
theorem dX10_anew_6 : decode cX10_anew 6 = .ok (.aload_n 0, 1) := by decide +kernel
theorem dX10_anew_7 : decode cX10_anew 7 = .ok (.getfield 7, 3) := by decide +kernel
theorem dX10_anew_10 : decode cX10_anew 10 = .ok (.bipush 12, 2) := by decide +kernel
theorem dX10_anew_12 : decode cX10_anew 12 = .ok (.iaload, 1) := by decide +kernel
theorem dX10_anew_13 : decode cX10_anew 13 = .ok (.sipush 331, 3) := by decide +kernel
theorem dX10_anew_16 : decode cX10_anew 16 = .ok (.imul, 1) := by decide +kernel
theorem dX10_anew_17 : decode cX10_anew 17 = .ok (.sipush 223, 3) := by decide +kernel
theorem dX10_anew_20 : decode cX10_anew 20 = .ok (.iadd, 1) := by decide +kernel
theorem dX10_anew_21 : decode cX10_anew 21 = .ok (.sipush 30389, 3) := by decide +kernel
theorem dX10_anew_24 : decode cX10_anew 24 = .ok (.irem, 1) := by decide +kernel
theorem dX10_anew_25 : decode cX10_anew 25 = .ok (.iastore, 1) := by decide +kernel
theorem dX10_anew_26 : decode cX10_anew 26 = .ok (.return_, 1) := by decide +kernel
theorem dX10_turnBy_0 : decode cX10_turnBy 0 = .ok (.aload_n 0, 1) := by decide +kernel
theorem dX10_turnBy_1 : decode cX10_turnBy 1 = .ok (.getfield 7, 3) := by decide +kernel
theorem dX10_turnBy_4 : decode cX10_turnBy 4 = .ok (.bipush 11, 2) := by decide +kernel
theorem dX10_turnBy_6 : decode cX10_turnBy 6 = .ok (.dup2, 1) := by decide +kernel
theorem dX10_turnBy_7 : decode cX10_turnBy 7 = .ok (.iaload, 1) := by decide +kernel
theorem dX10_turnBy_8 : decode cX10_turnBy 8 = .ok (.iconst 1, 1) := by decide +kernel
theorem dX10_turnBy_9 : decode cX10_turnBy 9 = .ok (.iadd, 1) := by decide +kernel
theorem dX10_turnBy_10 : decode cX10_turnBy 10 = .ok (.iastore, 1) := by decide +kernel
theorem dX10_turnBy_11 : decode cX10_turnBy 11 = .ok (.aload_n 0, 1) := by decide +kernel
theorem dX10_turnBy_12 : decode cX10_turnBy 12 = .ok (.invokevirtual 333, 3) := by decide +kernel
theorem dX10_turnBy_15 : decode cX10_turnBy 15 = .ok (.aload_n 0, 1) := by decide +kernel
theorem dX10_turnBy_16 : decode cX10_turnBy 16 = .ok (.getfield 35, 3) := by decide +kernel
theorem dX10_turnBy_19 : decode cX10_turnBy 19 = .ok (.iconst 3, 1) := by decide +kernel
theorem dX10_turnBy_20 : decode cX10_turnBy 20 = .ok (.iload_n 1, 1) := by decide +kernel
theorem dX10_turnBy_21 : decode cX10_turnBy 21 = .ok (.iastore, 1) := by decide +kernel
theorem dX10_turnBy_22 : decode cX10_turnBy 22 = .ok (.aload_n 0, 1) := by decide +kernel
theorem dX10_turnBy_23 : decode cX10_turnBy 23 = .ok (.iconst 0, 1) := by decide +kernel
theorem dX10_turnBy_24 : decode cX10_turnBy 24 = .ok (.iload_n 1, 1) := by decide +kernel
theorem dX10_turnBy_25 : decode cX10_turnBy 25 = .ok (.ifCond .ne 7, 3) := by decide +kernel
theorem dX10_turnBy_28 : decode cX10_turnBy 28 = .ok (.iconst 1, 1) := by decide +kernel
theorem dX10_turnBy_29 : decode cX10_turnBy 29 = .ok (.goto 13, 3) := by decide +kernel
theorem dX10_turnBy_32 : decode cX10_turnBy 32 = .ok (.iload_n 1, 1) := by decide +kernel
theorem dX10_turnBy_33 : decode cX10_turnBy 33 = .ok (.iconst 1, 1) := by decide +kernel
theorem dX10_turnBy_34 : decode cX10_turnBy 34 = .ok (.if_icmp .ne 7, 3) := by decide +kernel
theorem dX10_turnBy_37 : decode cX10_turnBy 37 = .ok (.iconst (-1), 1) := by decide +kernel
theorem dX10_turnBy_38 : decode cX10_turnBy 38 = .ok (.goto 4, 3) := by decide +kernel
theorem dX10_turnBy_41 : decode cX10_turnBy 41 = .ok (.iconst 0, 1) := by decide +kernel
theorem dX10_turnBy_42 : decode cX10_turnBy 42 = .ok (.bipush (-3), 2) := by decide +kernel
theorem dX10_turnBy_44 : decode cX10_turnBy 44 = .ok (.iconst 3, 1) := by decide +kernel
theorem dX10_turnBy_45 : decode cX10_turnBy 45 = .ok (.invokevirtual 342, 3) := by decide +kernel
theorem dX10_turnBy_48 : decode cX10_turnBy 48 = .ok (.istore_n 2, 1) := by decide +kernel
theorem dX10_turnBy_49 : decode cX10_turnBy 49 = .ok (.aload_n 0, 1) := by decide +kernel
theorem dX10_turnBy_50 : decode cX10_turnBy 50 = .ok (.getfield 7, 3) := by decide +kernel
theorem dX10_turnBy_53 : decode cX10_turnBy 53 = .ok (.bipush 8, 2) := by decide +kernel
theorem dX10_turnBy_55 : decode cX10_turnBy 55 = .ok (.aload_n 0, 1) := by decide +kernel
theorem dX10_turnBy_56 : decode cX10_turnBy 56 = .ok (.getfield 7, 3) := by decide +kernel
theorem dX10_turnBy_59 : decode cX10_turnBy 59 = .ok (.bipush 8, 2) := by decide +kernel
theorem dX10_turnBy_61 : decode cX10_turnBy 61 = .ok (.iaload, 1) := by decide +kernel
theorem dX10_turnBy_62 : decode cX10_turnBy 62 = .ok (.iload_n 2, 1) := by decide +kernel
theorem dX10_turnBy_63 : decode cX10_turnBy 63 = .ok (.iadd, 1) := by decide +kernel
theorem dX10_turnBy_64 : decode cX10_turnBy 64 = .ok (.iconst 4, 1) := by decide +kernel
theorem dX10_turnBy_65 : decode cX10_turnBy 65 = .ok (.iadd, 1) := by decide +kernel
theorem dX10_turnBy_66 : decode cX10_turnBy 66 = .ok (.iconst 4, 1) := by decide +kernel
theorem dX10_turnBy_67 : decode cX10_turnBy 67 = .ok (.irem, 1) := by decide +kernel
theorem dX10_turnBy_68 : decode cX10_turnBy 68 = .ok (.iastore, 1) := by decide +kernel
theorem dX10_turnBy_69 : decode cX10_turnBy 69 = .ok (.aload_n 0, 1) := by decide +kernel
theorem dX10_turnBy_70 : decode cX10_turnBy 70 = .ok (.invokevirtual 333, 3) := by decide +kernel
theorem dX10_turnBy_73 : decode cX10_turnBy 73 = .ok (.aload_n 0, 1) := by decide +kernel
theorem dX10_turnBy_74 : decode cX10_turnBy 74 = .ok (.getfield 7, 3) := by decide +kernel
theorem dX10_turnBy_77 : decode cX10_turnBy 77 = .ok (.bipush 9, 2) := by decide +kernel
theorem dX10_turnBy_79 : decode cX10_turnBy 79 = .ok (.aload_n 0, 1) := by decide +kernel
theorem dX10_turnBy_80 : decode cX10_turnBy 80 = .ok (.iconst 1, 1) := by decide +kernel
theorem dX10_turnBy_81 : decode cX10_turnBy 81 = .ok (.iload_n 1, 1) := by decide +kernel
theorem dX10_turnBy_82 : decode cX10_turnBy 82 = .ok (.iconst 0, 1) := by decide +kernel
theorem dX10_turnBy_83 : decode cX10_turnBy 83 = .ok (.bipush 9, 2) := by decide +kernel
theorem dX10_turnBy_85 : decode cX10_turnBy 85 = .ok (.invokevirtual 342, 3) := by decide +kernel
theorem dX10_turnBy_88 : decode cX10_turnBy 88 = .ok (.iastore, 1) := by decide +kernel
theorem dX10_turnBy_89 : decode cX10_turnBy 89 = .ok (.aload_n 0, 1) := by decide +kernel
theorem dX10_turnBy_90 : decode cX10_turnBy 90 = .ok (.invokevirtual 333, 3) := by decide +kernel
theorem dX10_turnBy_93 : decode cX10_turnBy 93 = .ok (.aload_n 0, 1) := by decide +kernel
theorem dX10_turnBy_94 : decode cX10_turnBy 94 = .ok (.aload_n 0, 1) := by decide +kernel
theorem dX10_turnBy_95 : decode cX10_turnBy 95 = .ok (.getfield 7, 3) := by decide +kernel
theorem dX10_turnBy_98 : decode cX10_turnBy 98 = .ok (.iconst 2, 1) := by decide +kernel
theorem dX10_turnBy_99 : decode cX10_turnBy 99 = .ok (.iaload, 1) := by decide +kernel
theorem dX10_turnBy_100 : decode cX10_turnBy 100 = .ok (.iconst 2, 1) := by decide +kernel
theorem dX10_turnBy_101 : decode cX10_turnBy 101 = .ok (.iconst 0, 1) := by decide +kernel
theorem dX10_turnBy_102 : decode cX10_turnBy 102 = .ok (.invokevirtual 323, 3) := by decide +kernel
theorem dX10_turnBy_105 : decode cX10_turnBy 105 = .ok (.istore_n 3, 1) := by decide +kernel
theorem dX10_turnBy_106 : decode cX10_turnBy 106 = .ok (.iload_n 3, 1) := by decide +kernel
theorem dX10_turnBy_107 : decode cX10_turnBy 107 = .ok (.ifCond .lt 14, 3) := by decide +kernel
theorem dX10_turnBy_110 : decode cX10_turnBy 110 = .ok (.aload_n 0, 1) := by decide +kernel
theorem dX10_turnBy_111 : decode cX10_turnBy 111 = .ok (.aload_n 0, 1) := by decide +kernel
theorem dX10_turnBy_112 : decode cX10_turnBy 112 = .ok (.getfield 7, 3) := by decide +kernel
theorem dX10_turnBy_115 : decode cX10_turnBy 115 = .ok (.iconst 2, 1) := by decide +kernel
theorem dX10_turnBy_116 : decode cX10_turnBy 116 = .ok (.iaload, 1) := by decide +kernel
theorem dX10_turnBy_117 : decode cX10_turnBy 117 = .ok (.iload_n 3, 1) := by decide +kernel
theorem dX10_turnBy_118 : decode cX10_turnBy 118 = .ok (.invokevirtual 326, 3) := by decide +kernel
theorem dX10_turnBy_121 : decode cX10_turnBy 121 = .ok (.aload_n 0, 1) := by decide +kernel
theorem dX10_turnBy_122 : decode cX10_turnBy 122 = .ok (.getfield 7, 3) := by decide +kernel
theorem dX10_turnBy_125 : decode cX10_turnBy 125 = .ok (.bipush 10, 2) := by decide +kernel
theorem dX10_turnBy_127 : decode cX10_turnBy 127 = .ok (.iload_n 3, 1) := by decide +kernel
theorem dX10_turnBy_128 : decode cX10_turnBy 128 = .ok (.ifCond .ge 31, 3) := by decide +kernel
theorem dX10_turnBy_131 : decode cX10_turnBy 131 = .ok (.aload_n 0, 1) := by decide +kernel
theorem dX10_turnBy_132 : decode cX10_turnBy 132 = .ok (.getfield 7, 3) := by decide +kernel
theorem dX10_turnBy_135 : decode cX10_turnBy 135 = .ok (.bipush 9, 2) := by decide +kernel
theorem dX10_turnBy_137 : decode cX10_turnBy 137 = .ok (.iaload, 1) := by decide +kernel
theorem dX10_turnBy_138 : decode cX10_turnBy 138 = .ok (.iconst 2, 1) := by decide +kernel
theorem dX10_turnBy_139 : decode cX10_turnBy 139 = .ok (.if_icmp .ge 33, 3) := by decide +kernel
theorem dX10_turnBy_142 : decode cX10_turnBy 142 = .ok (.aload_n 0, 1) := by decide +kernel
theorem dX10_turnBy_143 : decode cX10_turnBy 143 = .ok (.getfield 7, 3) := by decide +kernel
theorem dX10_turnBy_146 : decode cX10_turnBy 146 = .ok (.bipush 11, 2) := by decide +kernel
theorem dX10_turnBy_148 : decode cX10_turnBy 148 = .ok (.iaload, 1) := by decide +kernel
theorem dX10_turnBy_149 : decode cX10_turnBy 149 = .ok (.bipush 10, 2) := by decide +kernel
theorem dX10_turnBy_151 : decode cX10_turnBy 151 = .ok (.irem, 1) := by decide +kernel
theorem dX10_turnBy_152 : decode cX10_turnBy 152 = .ok (.iconst 3, 1) := by decide +kernel
theorem dX10_turnBy_153 : decode cX10_turnBy 153 = .ok (.if_icmp .ge 19, 3) := by decide +kernel
theorem dX10_turnBy_156 : decode cX10_turnBy 156 = .ok (.goto 12, 3) := by decide +kernel
theorem dX10_turnBy_159 : decode cX10_turnBy 159 = .ok (.aload_n 0, 1) := by decide +kernel
theorem dX10_turnBy_160 : decode cX10_turnBy 160 = .ok (.getfield 42, 3) := by decide +kernel
theorem dX10_turnBy_163 : decode cX10_turnBy 163 = .ok (.iconst 0, 1) := by decide +kernel
theorem dX10_turnBy_164 : decode cX10_turnBy 164 = .ok (.baload, 1) := by decide +kernel
theorem dX10_turnBy_165 : decode cX10_turnBy 165 = .ok (.ifCond .eq 7, 3) := by decide +kernel
theorem dX10_turnBy_168 : decode cX10_turnBy 168 = .ok (.iconst 1, 1) := by decide +kernel
theorem dX10_turnBy_169 : decode cX10_turnBy 169 = .ok (.goto 4, 3) := by decide +kernel
theorem dX10_turnBy_172 : decode cX10_turnBy 172 = .ok (.iconst 0, 1) := by decide +kernel
theorem dX10_turnBy_173 : decode cX10_turnBy 173 = .ok (.iastore, 1) := by decide +kernel
theorem dX10_turnBy_174 : decode cX10_turnBy 174 = .ok (.return_, 1) := by decide +kernel
theorem dX10_isCalm_0 : decode cX10_isCalm 0 = .ok (.aload_n 0, 1) := by decide +kernel
theorem dX10_isCalm_1 : decode cX10_isCalm 1 = .ok (.getfield 7, 3) := by decide +kernel
theorem dX10_isCalm_4 : decode cX10_isCalm 4 = .ok (.bipush 9, 2) := by decide +kernel
theorem dX10_isCalm_6 : decode cX10_isCalm 6 = .ok (.iaload, 1) := by decide +kernel
theorem dX10_isCalm_7 : decode cX10_isCalm 7 = .ok (.ifCond .eq 14, 3) := by decide +kernel
theorem dX10_isCalm_10 : decode cX10_isCalm 10 = .ok (.aload_n 0, 1) := by decide +kernel
theorem dX10_isCalm_11 : decode cX10_isCalm 11 = .ok (.getfield 7, 3) := by decide +kernel
theorem dX10_isCalm_14 : decode cX10_isCalm 14 = .ok (.bipush 10, 2) := by decide +kernel
theorem dX10_isCalm_16 : decode cX10_isCalm 16 = .ok (.iaload, 1) := by decide +kernel
theorem dX10_isCalm_17 : decode cX10_isCalm 17 = .ok (.iconst 1, 1) := by decide +kernel
theorem dX10_isCalm_18 : decode cX10_isCalm 18 = .ok (.if_icmp .ne 7, 3) := by decide +kernel
theorem dX10_isCalm_21 : decode cX10_isCalm 21 = .ok (.iconst 1, 1) := by decide +kernel
theorem dX10_isCalm_22 : decode cX10_isCalm 22 = .ok (.goto 4, 3) := by decide +kernel
theorem dX10_isCalm_25 : decode cX10_isCalm 25 = .ok (.iconst 0, 1) := by decide +kernel
theorem dX10_isCalm_26 : decode cX10_isCalm 26 = .ok (.ireturn, 1) := by decide +kernel
theorem dX10_isFound_0 : decode cX10_isFound 0 = .ok (.iconst 0, 1) := by decide +kernel
theorem dX10_isFound_1 : decode cX10_isFound 1 = .ok (.istore 4, 2) := by decide +kernel
theorem dX10_isFound_3 : decode cX10_isFound 3 = .ok (.iconst 0, 1) := by decide +kernel
theorem dX10_isFound_4 : decode cX10_isFound 4 = .ok (.istore 5, 2) := by decide +kernel
theorem dX10_isFound_6 : decode cX10_isFound 6 = .ok (.iload 5, 2) := by decide +kernel
theorem dX10_isFound_8 : decode cX10_isFound 8 = .ok (.iconst 4, 1) := by decide +kernel
theorem dX10_isFound_9 : decode cX10_isFound 9 = .ok (.if_icmp .ge 44, 3) := by decide +kernel
theorem dX10_isFound_12 : decode cX10_isFound 12 = .ok (.iload_n 3, 1) := by decide +kernel
theorem dX10_isFound_13 : decode cX10_isFound 13 = .ok (.iload 5, 2) := by decide +kernel
theorem dX10_isFound_15 : decode cX10_isFound 15 = .ok (.invokestatic 255, 3) := by decide +kernel
theorem dX10_isFound_18 : decode cX10_isFound 18 = .ok (.ifCond .eq 29, 3) := by decide +kernel
theorem dX10_isFound_21 : decode cX10_isFound 21 = .ok (.aload_n 0, 1) := by decide +kernel
theorem dX10_isFound_22 : decode cX10_isFound 22 = .ok (.aload_n 0, 1) := by decide +kernel
theorem dX10_isFound_23 : decode cX10_isFound 23 = .ok (.getfield 7, 3) := by decide +kernel
theorem dX10_isFound_26 : decode cX10_isFound 26 = .ok (.iconst 2, 1) := by decide +kernel
theorem dX10_isFound_27 : decode cX10_isFound 27 = .ok (.iaload, 1) := by decide +kernel
theorem dX10_isFound_28 : decode cX10_isFound 28 = .ok (.iload 5, 2) := by decide +kernel
theorem dX10_isFound_30 : decode cX10_isFound 30 = .ok (.iload_n 1, 1) := by decide +kernel
theorem dX10_isFound_31 : decode cX10_isFound 31 = .ok (.iload_n 2, 1) := by decide +kernel
theorem dX10_isFound_32 : decode cX10_isFound 32 = .ok (.aload_n 0, 1) := by decide +kernel
theorem dX10_isFound_33 : decode cX10_isFound 33 = .ok (.iload_n 1, 1) := by decide +kernel
theorem dX10_isFound_34 : decode cX10_isFound 34 = .ok (.iconst 3, 1) := by decide +kernel
theorem dX10_isFound_35 : decode cX10_isFound 35 = .ok (.invokevirtual 82, 3) := by decide +kernel
theorem dX10_isFound_38 : decode cX10_isFound 38 = .ok (.invokevirtual 349, 3) := by decide +kernel
theorem dX10_isFound_41 : decode cX10_isFound 41 = .ok (.ifCond .eq 6, 3) := by decide +kernel
theorem dX10_isFound_44 : decode cX10_isFound 44 = .ok (.iconst 1, 1) := by decide +kernel
theorem dX10_isFound_45 : decode cX10_isFound 45 = .ok (.istore 4, 2) := by decide +kernel
theorem dX10_isFound_47 : decode cX10_isFound 47 = .ok (.iinc 5 1, 3) := by decide +kernel
theorem dX10_isFound_50 : decode cX10_isFound 50 = .ok (.goto (-44), 3) := by decide +kernel
theorem dX10_isFound_53 : decode cX10_isFound 53 = .ok (.iload 4, 2) := by decide +kernel
theorem dX10_isFound_55 : decode cX10_isFound 55 = .ok (.ifCond .eq 14, 3) := by decide +kernel
theorem dX10_isFound_58 : decode cX10_isFound 58 = .ok (.aload_n 0, 1) := by decide +kernel
theorem dX10_isFound_59 : decode cX10_isFound 59 = .ok (.invokevirtual 353, 3) := by decide +kernel
theorem dX10_isFound_62 : decode cX10_isFound 62 = .ok (.ifCond .ne 7, 3) := by decide +kernel
theorem dX10_isFound_65 : decode cX10_isFound 65 = .ok (.iconst 1, 1) := by decide +kernel
theorem dX10_isFound_66 : decode cX10_isFound 66 = .ok (.goto 4, 3) := by decide +kernel
theorem dX10_isFound_69 : decode cX10_isFound 69 = .ok (.iconst 0, 1) := by decide +kernel
theorem dX10_isFound_70 : decode cX10_isFound 70 = .ok (.ireturn, 1) := by decide +kernel
theorem dX10_leave_0 : decode cX10_leave 0 = .ok (.aload_n 0, 1) := by decide +kernel
theorem dX10_leave_1 : decode cX10_leave 1 = .ok (.aload_n 0, 1) := by decide +kernel
theorem dX10_leave_2 : decode cX10_leave 2 = .ok (.getfield 7, 3) := by decide +kernel
theorem dX10_leave_5 : decode cX10_leave 5 = .ok (.bipush 13, 2) := by decide +kernel
theorem dX10_leave_7 : decode cX10_leave 7 = .ok (.iaload, 1) := by decide +kernel
theorem dX10_leave_8 : decode cX10_leave 8 = .ok (.iconst 4, 1) := by decide +kernel
theorem dX10_leave_9 : decode cX10_leave 9 = .ok (.iload_n 1, 1) := by decide +kernel
theorem dX10_leave_10 : decode cX10_leave 10 = .ok (.invokevirtual 86, 3) := by decide +kernel
theorem dX10_leave_13 : decode cX10_leave 13 = .ok (.aload_n 0, 1) := by decide +kernel
theorem dX10_leave_14 : decode cX10_leave 14 = .ok (.aload_n 0, 1) := by decide +kernel
theorem dX10_leave_15 : decode cX10_leave 15 = .ok (.getfield 7, 3) := by decide +kernel
theorem dX10_leave_18 : decode cX10_leave 18 = .ok (.bipush 13, 2) := by decide +kernel
theorem dX10_leave_20 : decode cX10_leave 20 = .ok (.iaload, 1) := by decide +kernel
theorem dX10_leave_21 : decode cX10_leave 21 = .ok (.iconst 5, 1) := by decide +kernel
theorem dX10_leave_22 : decode cX10_leave 22 = .ok (.iload_n 2, 1) := by decide +kernel
theorem dX10_leave_23 : decode cX10_leave 23 = .ok (.invokevirtual 86, 3) := by decide +kernel
theorem dX10_leave_26 : decode cX10_leave 26 = .ok (.aload_n 0, 1) := by decide +kernel
theorem dX10_leave_27 : decode cX10_leave 27 = .ok (.getfield 7, 3) := by decide +kernel
theorem dX10_leave_30 : decode cX10_leave 30 = .ok (.bipush 13, 2) := by decide +kernel
theorem dX10_leave_32 : decode cX10_leave 32 = .ok (.iconst (-1), 1) := by decide +kernel
theorem dX10_leave_33 : decode cX10_leave 33 = .ok (.iastore, 1) := by decide +kernel
theorem dX10_leave_34 : decode cX10_leave 34 = .ok (.aload_n 0, 1) := by decide +kernel
theorem dX10_leave_35 : decode cX10_leave 35 = .ok (.getfield 7, 3) := by decide +kernel
theorem dX10_leave_38 : decode cX10_leave 38 = .ok (.bipush 14, 2) := by decide +kernel
theorem dX10_leave_40 : decode cX10_leave 40 = .ok (.iconst 0, 1) := by decide +kernel
theorem dX10_leave_41 : decode cX10_leave 41 = .ok (.iastore, 1) := by decide +kernel
theorem dX10_leave_42 : decode cX10_leave 42 = .ok (.aload_n 0, 1) := by decide +kernel
theorem dX10_leave_43 : decode cX10_leave 43 = .ok (.getfield 7, 3) := by decide +kernel
theorem dX10_leave_46 : decode cX10_leave 46 = .ok (.bipush 15, 2) := by decide +kernel
theorem dX10_leave_48 : decode cX10_leave 48 = .ok (.iconst 0, 1) := by decide +kernel
theorem dX10_leave_49 : decode cX10_leave 49 = .ok (.iastore, 1) := by decide +kernel
theorem dX10_leave_50 : decode cX10_leave 50 = .ok (.aload_n 0, 1) := by decide +kernel
theorem dX10_leave_51 : decode cX10_leave 51 = .ok (.getfield 7, 3) := by decide +kernel
theorem dX10_leave_54 : decode cX10_leave 54 = .ok (.bipush 16, 2) := by decide +kernel
theorem dX10_leave_56 : decode cX10_leave 56 = .ok (.iconst 0, 1) := by decide +kernel
theorem dX10_leave_57 : decode cX10_leave 57 = .ok (.iastore, 1) := by decide +kernel
theorem dX10_leave_58 : decode cX10_leave 58 = .ok (.return_, 1) := by decide +kernel
theorem dX10_hear_0 : decode cX10_hear 0 = .ok (.aload_n 0, 1) := by decide +kernel
theorem dX10_hear_1 : decode cX10_hear 1 = .ok (.getfield 7, 3) := by decide +kernel
theorem dX10_hear_4 : decode cX10_hear 4 = .ok (.bipush 13, 2) := by decide +kernel
theorem dX10_hear_6 : decode cX10_hear 6 = .ok (.iaload, 1) := by decide +kernel
theorem dX10_hear_7 : decode cX10_hear 7 = .ok (.istore_n 1, 1) := by decide +kernel
theorem dX10_hear_8 : decode cX10_hear 8 = .ok (.aload_n 0, 1) := by decide +kernel
theorem dX10_hear_9 : decode cX10_hear 9 = .ok (.getfield 7, 3) := by decide +kernel
theorem dX10_hear_12 : decode cX10_hear 12 = .ok (.bipush 14, 2) := by decide +kernel
theorem dX10_hear_14 : decode cX10_hear 14 = .ok (.dup2, 1) := by decide +kernel
theorem dX10_hear_15 : decode cX10_hear 15 = .ok (.iaload, 1) := by decide +kernel
theorem dX10_hear_16 : decode cX10_hear 16 = .ok (.iconst 1, 1) := by decide +kernel
theorem dX10_hear_17 : decode cX10_hear 17 = .ok (.iadd, 1) := by decide +kernel
theorem dX10_hear_18 : decode cX10_hear 18 = .ok (.iastore, 1) := by decide +kernel
theorem dX10_hear_19 : decode cX10_hear 19 = .ok (.aload_n 0, 1) := by decide +kernel
theorem dX10_hear_20 : decode cX10_hear 20 = .ok (.getfield 7, 3) := by decide +kernel
theorem dX10_hear_23 : decode cX10_hear 23 = .ok (.bipush 15, 2) := by decide +kernel
theorem dX10_hear_25 : decode cX10_hear 25 = .ok (.dup2, 1) := by decide +kernel
theorem dX10_hear_26 : decode cX10_hear 26 = .ok (.iaload, 1) := by decide +kernel
theorem dX10_hear_27 : decode cX10_hear 27 = .ok (.iconst 1, 1) := by decide +kernel
theorem dX10_hear_28 : decode cX10_hear 28 = .ok (.aload_n 0, 1) := by decide +kernel
theorem dX10_hear_29 : decode cX10_hear 29 = .ok (.getfield 7, 3) := by decide +kernel
theorem dX10_hear_32 : decode cX10_hear 32 = .ok (.bipush 8, 2) := by decide +kernel
theorem dX10_hear_34 : decode cX10_hear 34 = .ok (.iaload, 1) := by decide +kernel
theorem dX10_hear_35 : decode cX10_hear 35 = .ok (.ishl, 1) := by decide +kernel
theorem dX10_hear_36 : decode cX10_hear 36 = .ok (.ior, 1) := by decide +kernel
theorem dX10_hear_37 : decode cX10_hear 37 = .ok (.iastore, 1) := by decide +kernel
theorem dX10_hear_38 : decode cX10_hear 38 = .ok (.aload_n 0, 1) := by decide +kernel
theorem dX10_hear_39 : decode cX10_hear 39 = .ok (.getfield 7, 3) := by decide +kernel
theorem dX10_hear_42 : decode cX10_hear 42 = .ok (.bipush 14, 2) := by decide +kernel
theorem dX10_hear_44 : decode cX10_hear 44 = .ok (.iaload, 1) := by decide +kernel
theorem dX10_hear_45 : decode cX10_hear 45 = .ok (.aload_n 0, 1) := by decide +kernel
theorem dX10_hear_46 : decode cX10_hear 46 = .ok (.iload_n 1, 1) := by decide +kernel
theorem dX10_hear_47 : decode cX10_hear 47 = .ok (.iconst 2, 1) := by decide +kernel
theorem dX10_hear_48 : decode cX10_hear 48 = .ok (.invokevirtual 82, 3) := by decide +kernel
theorem dX10_hear_51 : decode cX10_hear 51 = .ok (.aload_n 0, 1) := by decide +kernel
theorem dX10_hear_52 : decode cX10_hear 52 = .ok (.getfield 7, 3) := by decide +kernel
theorem dX10_hear_55 : decode cX10_hear 55 = .ok (.bipush 16, 2) := by decide +kernel
theorem dX10_hear_57 : decode cX10_hear 57 = .ok (.iaload, 1) := by decide +kernel
theorem dX10_hear_58 : decode cX10_hear 58 = .ok (.iadd, 1) := by decide +kernel
theorem dX10_hear_59 : decode cX10_hear 59 = .ok (.if_icmp .eq 4, 3) := by decide +kernel
theorem dX10_hear_62 : decode cX10_hear 62 = .ok (.return_, 1) := by decide +kernel
theorem dX10_hear_63 : decode cX10_hear 63 = .ok (.aload_n 0, 1) := by decide +kernel
theorem dX10_hear_64 : decode cX10_hear 64 = .ok (.iload_n 1, 1) := by decide +kernel
theorem dX10_hear_65 : decode cX10_hear 65 = .ok (.aload_n 0, 1) := by decide +kernel
theorem dX10_hear_66 : decode cX10_hear 66 = .ok (.getfield 7, 3) := by decide +kernel
theorem dX10_hear_69 : decode cX10_hear 69 = .ok (.bipush 14, 2) := by decide +kernel
theorem dX10_hear_71 : decode cX10_hear 71 = .ok (.iaload, 1) := by decide +kernel
theorem dX10_hear_72 : decode cX10_hear 72 = .ok (.aload_n 0, 1) := by decide +kernel
theorem dX10_hear_73 : decode cX10_hear 73 = .ok (.getfield 7, 3) := by decide +kernel
theorem dX10_hear_76 : decode cX10_hear 76 = .ok (.bipush 15, 2) := by decide +kernel
theorem dX10_hear_78 : decode cX10_hear 78 = .ok (.iaload, 1) := by decide +kernel
theorem dX10_hear_79 : decode cX10_hear 79 = .ok (.invokevirtual 356, 3) := by decide +kernel
theorem dX10_hear_82 : decode cX10_hear 82 = .ok (.istore_n 2, 1) := by decide +kernel
theorem dX10_hear_83 : decode cX10_hear 83 = .ok (.iload_n 2, 1) := by decide +kernel
theorem dX10_hear_84 : decode cX10_hear 84 = .ok (.ifCond .eq 25, 3) := by decide +kernel
theorem dX10_hear_87 : decode cX10_hear 87 = .ok (.aload_n 0, 1) := by decide +kernel
theorem dX10_hear_88 : decode cX10_hear 88 = .ok (.iload_n 1, 1) := by decide +kernel
theorem dX10_hear_89 : decode cX10_hear 89 = .ok (.aload_n 0, 1) := by decide +kernel
theorem dX10_hear_90 : decode cX10_hear 90 = .ok (.getfield 7, 3) := by decide +kernel
theorem dX10_hear_93 : decode cX10_hear 93 = .ok (.bipush 14, 2) := by decide +kernel
theorem dX10_hear_95 : decode cX10_hear 95 = .ok (.iaload, 1) := by decide +kernel
theorem dX10_hear_96 : decode cX10_hear 96 = .ok (.aload_n 0, 1) := by decide +kernel
theorem dX10_hear_97 : decode cX10_hear 97 = .ok (.getfield 7, 3) := by decide +kernel
theorem dX10_hear_100 : decode cX10_hear 100 = .ok (.bipush 15, 2) := by decide +kernel
theorem dX10_hear_102 : decode cX10_hear 102 = .ok (.iaload, 1) := by decide +kernel
theorem dX10_hear_103 : decode cX10_hear 103 = .ok (.invokevirtual 359, 3) := by decide +kernel
theorem dX10_hear_106 : decode cX10_hear 106 = .ok (.goto 4, 3) := by decide +kernel
theorem dX10_hear_109 : decode cX10_hear 109 = .ok (.iconst 0, 1) := by decide +kernel
theorem dX10_hear_110 : decode cX10_hear 110 = .ok (.istore_n 3, 1) := by decide +kernel
theorem dX10_hear_111 : decode cX10_hear 111 = .ok (.sipush 1182, 3) := by decide +kernel
theorem dX10_hear_114 : decode cX10_hear 114 = .ok (.iconst 2, 1) := by decide +kernel
theorem dX10_hear_115 : decode cX10_hear 115 = .ok (.aload_n 0, 1) := by decide +kernel
theorem dX10_hear_116 : decode cX10_hear 116 = .ok (.getfield 7, 3) := by decide +kernel
theorem dX10_hear_119 : decode cX10_hear 119 = .ok (.bipush 17, 2) := by decide +kernel
theorem dX10_hear_121 : decode cX10_hear 121 = .ok (.iaload, 1) := by decide +kernel
theorem dX10_hear_122 : decode cX10_hear 122 = .ok (.sipush 1230, 3) := by decide +kernel
theorem dX10_hear_125 : decode cX10_hear 125 = .ok (.irem, 1) := by decide +kernel
theorem dX10_hear_126 : decode cX10_hear 126 = .ok (.imul, 1) := by decide +kernel
theorem dX10_hear_127 : decode cX10_hear 127 = .ok (.iadd, 1) := by decide +kernel
theorem dX10_hear_128 : decode cX10_hear 128 = .ok (.istore 4, 2) := by decide +kernel
theorem dX10_hear_130 : decode cX10_hear 130 = .ok (.aload_n 0, 1) := by decide +kernel
theorem dX10_hear_131 : decode cX10_hear 131 = .ok (.getfield 7, 3) := by decide +kernel
theorem dX10_hear_134 : decode cX10_hear 134 = .ok (.iload 4, 2) := by decide +kernel
theorem dX10_hear_136 : decode cX10_hear 136 = .ok (.aload_n 0, 1) := by decide +kernel
theorem dX10_hear_137 : decode cX10_hear 137 = .ok (.getfield 7, 3) := by decide +kernel
theorem dX10_hear_140 : decode cX10_hear 140 = .ok (.bipush 11, 2) := by decide +kernel
theorem dX10_hear_142 : decode cX10_hear 142 = .ok (.iaload, 1) := by decide +kernel
theorem dX10_hear_143 : decode cX10_hear 143 = .ok (.bipush 8, 2) := by decide +kernel
theorem dX10_hear_145 : decode cX10_hear 145 = .ok (.imul, 1) := by decide +kernel
theorem dX10_hear_146 : decode cX10_hear 146 = .ok (.iload_n 1, 1) := by decide +kernel
theorem dX10_hear_147 : decode cX10_hear 147 = .ok (.iadd, 1) := by decide +kernel
theorem dX10_hear_148 : decode cX10_hear 148 = .ok (.iastore, 1) := by decide +kernel
theorem dX10_hear_149 : decode cX10_hear 149 = .ok (.aload_n 0, 1) := by decide +kernel
theorem dX10_hear_150 : decode cX10_hear 150 = .ok (.getfield 7, 3) := by decide +kernel
theorem dX10_hear_153 : decode cX10_hear 153 = .ok (.iload 4, 2) := by decide +kernel
theorem dX10_hear_155 : decode cX10_hear 155 = .ok (.iconst 1, 1) := by decide +kernel
theorem dX10_hear_156 : decode cX10_hear 156 = .ok (.iadd, 1) := by decide +kernel
theorem dX10_hear_157 : decode cX10_hear 157 = .ok (.iload_n 2, 1) := by decide +kernel
theorem dX10_hear_158 : decode cX10_hear 158 = .ok (.ifCond .eq 9, 3) := by decide +kernel
theorem dX10_hear_161 : decode cX10_hear 161 = .ok (.sipush 1000, 3) := by decide +kernel
theorem dX10_hear_164 : decode cX10_hear 164 = .ok (.goto 4, 3) := by decide +kernel
theorem dX10_hear_167 : decode cX10_hear 167 = .ok (.iconst 0, 1) := by decide +kernel
theorem dX10_hear_168 : decode cX10_hear 168 = .ok (.iload_n 3, 1) := by decide +kernel
theorem dX10_hear_169 : decode cX10_hear 169 = .ok (.iadd, 1) := by decide +kernel
theorem dX10_hear_170 : decode cX10_hear 170 = .ok (.iastore, 1) := by decide +kernel
theorem dX10_hear_171 : decode cX10_hear 171 = .ok (.aload_n 0, 1) := by decide +kernel
theorem dX10_hear_172 : decode cX10_hear 172 = .ok (.getfield 7, 3) := by decide +kernel
theorem dX10_hear_175 : decode cX10_hear 175 = .ok (.bipush 17, 2) := by decide +kernel
theorem dX10_hear_177 : decode cX10_hear 177 = .ok (.dup2, 1) := by decide +kernel
theorem dX10_hear_178 : decode cX10_hear 178 = .ok (.iaload, 1) := by decide +kernel
theorem dX10_hear_179 : decode cX10_hear 179 = .ok (.iconst 1, 1) := by decide +kernel
theorem dX10_hear_180 : decode cX10_hear 180 = .ok (.iadd, 1) := by decide +kernel
theorem dX10_hear_181 : decode cX10_hear 181 = .ok (.iastore, 1) := by decide +kernel
theorem dX10_hear_182 : decode cX10_hear 182 = .ok (.aload_n 0, 1) := by decide +kernel
theorem dX10_hear_183 : decode cX10_hear 183 = .ok (.dup, 1) := by decide +kernel
theorem dX10_hear_184 : decode cX10_hear 184 = .ok (.getfield 362, 3) := by decide +kernel
theorem dX10_hear_187 : decode cX10_hear 187 = .ok (.iconst 1, 1) := by decide +kernel
theorem dX10_hear_188 : decode cX10_hear 188 = .ok (.iadd, 1) := by decide +kernel
theorem dX10_hear_189 : decode cX10_hear 189 = .ok (.putfield 362, 3) := by decide +kernel
theorem dX10_hear_192 : decode cX10_hear 192 = .ok (.aload_n 0, 1) := by decide +kernel
theorem dX10_hear_193 : decode cX10_hear 193 = .ok (.iload_n 2, 1) := by decide +kernel
theorem dX10_hear_194 : decode cX10_hear 194 = .ok (.ifCond .eq 7, 3) := by decide +kernel
theorem dX10_hear_197 : decode cX10_hear 197 = .ok (.iconst 3, 1) := by decide +kernel
theorem dX10_hear_198 : decode cX10_hear 198 = .ok (.goto 4, 3) := by decide +kernel
theorem dX10_hear_201 : decode cX10_hear 201 = .ok (.iconst 2, 1) := by decide +kernel
theorem dX10_hear_202 : decode cX10_hear 202 = .ok (.iload_n 3, 1) := by decide +kernel
theorem dX10_hear_203 : decode cX10_hear 203 = .ok (.invokevirtual 365, 3) := by decide +kernel
theorem dX10_hear_206 : decode cX10_hear 206 = .ok (.return_, 1) := by decide +kernel
theorem dX10_pass_0 : decode cX10_pass 0 = .ok (.aload_n 0, 1) := by decide +kernel
theorem dX10_pass_1 : decode cX10_pass 1 = .ok (.getfield 7, 3) := by decide +kernel
theorem dX10_pass_4 : decode cX10_pass 4 = .ok (.bipush 13, 2) := by decide +kernel
theorem dX10_pass_6 : decode cX10_pass 6 = .ok (.iaload, 1) := by decide +kernel
theorem dX10_pass_7 : decode cX10_pass 7 = .ok (.iconst (-1), 1) := by decide +kernel
theorem dX10_pass_8 : decode cX10_pass 8 = .ok (.if_icmp .eq 7, 3) := by decide +kernel
theorem dX10_pass_11 : decode cX10_pass 11 = .ok (.aload_n 0, 1) := by decide +kernel
theorem dX10_pass_12 : decode cX10_pass 12 = .ok (.invokevirtual 368, 3) := by decide +kernel
theorem dX10_pass_15 : decode cX10_pass 15 = .ok (.aload_n 0, 1) := by decide +kernel
theorem dX10_pass_16 : decode cX10_pass 16 = .ok (.aload_n 0, 1) := by decide +kernel
theorem dX10_pass_17 : decode cX10_pass 17 = .ok (.bipush 10, 2) := by decide +kernel
theorem dX10_pass_19 : decode cX10_pass 19 = .ok (.invokevirtual 371, 3) := by decide +kernel
theorem dX10_pass_22 : decode cX10_pass 22 = .ok (.invokevirtual 374, 3) := by decide +kernel
theorem dX10_pass_25 : decode cX10_pass 25 = .ok (.return_, 1) := by decide +kernel
theorem dX10_keep_0 : decode cX10_keep 0 = .ok (.aload_n 0, 1) := by decide +kernel
theorem dX10_keep_1 : decode cX10_keep 1 = .ok (.getfield 7, 3) := by decide +kernel
theorem dX10_keep_4 : decode cX10_keep 4 = .ok (.iconst 3, 1) := by decide +kernel
theorem dX10_keep_5 : decode cX10_keep 5 = .ok (.iaload, 1) := by decide +kernel
theorem dX10_keep_6 : decode cX10_keep 6 = .ok (.bipush 30, 2) := by decide +kernel
theorem dX10_keep_8 : decode cX10_keep 8 = .ok (.if_icmp .ne 48, 3) := by decide +kernel
theorem dX10_keep_11 : decode cX10_keep 11 = .ok (.iconst 0, 1) := by decide +kernel
theorem dX10_keep_12 : decode cX10_keep 12 = .ok (.istore_n 1, 1) := by decide +kernel
theorem dX10_keep_13 : decode cX10_keep 13 = .ok (.iload_n 1, 1) := by decide +kernel
theorem dX10_keep_14 : decode cX10_keep 14 = .ok (.sipush 1015, 3) := by decide +kernel
theorem dX10_keep_17 : decode cX10_keep 17 = .ok (.if_icmp .ge 29, 3) := by decide +kernel
theorem dX10_keep_20 : decode cX10_keep 20 = .ok (.aload_n 0, 1) := by decide +kernel
theorem dX10_keep_21 : decode cX10_keep 21 = .ok (.getfield 7, 3) := by decide +kernel
theorem dX10_keep_24 : decode cX10_keep 24 = .ok (.sipush 132, 3) := by decide +kernel
theorem dX10_keep_27 : decode cX10_keep 27 = .ok (.iload_n 1, 1) := by decide +kernel
theorem dX10_keep_28 : decode cX10_keep 28 = .ok (.iadd, 1) := by decide +kernel
theorem dX10_keep_29 : decode cX10_keep 29 = .ok (.aload_n 0, 1) := by decide +kernel
theorem dX10_keep_30 : decode cX10_keep 30 = .ok (.getfield 7, 3) := by decide +kernel
theorem dX10_keep_33 : decode cX10_keep 33 = .ok (.sipush 167, 3) := by decide +kernel
theorem dX10_keep_36 : decode cX10_keep 36 = .ok (.iload_n 1, 1) := by decide +kernel
theorem dX10_keep_37 : decode cX10_keep 37 = .ok (.iadd, 1) := by decide +kernel
theorem dX10_keep_38 : decode cX10_keep 38 = .ok (.iaload, 1) := by decide +kernel
theorem dX10_keep_39 : decode cX10_keep 39 = .ok (.iastore, 1) := by decide +kernel
theorem dX10_keep_40 : decode cX10_keep 40 = .ok (.iinc 1 1, 3) := by decide +kernel
theorem dX10_keep_43 : decode cX10_keep 43 = .ok (.goto (-30), 3) := by decide +kernel
theorem dX10_keep_46 : decode cX10_keep 46 = .ok (.aload_n 0, 1) := by decide +kernel
theorem dX10_keep_47 : decode cX10_keep 47 = .ok (.getfield 7, 3) := by decide +kernel
theorem dX10_keep_50 : decode cX10_keep 50 = .ok (.iconst 3, 1) := by decide +kernel
theorem dX10_keep_51 : decode cX10_keep 51 = .ok (.dup2, 1) := by decide +kernel
theorem dX10_keep_52 : decode cX10_keep 52 = .ok (.iaload, 1) := by decide +kernel
theorem dX10_keep_53 : decode cX10_keep 53 = .ok (.iconst 1, 1) := by decide +kernel
theorem dX10_keep_54 : decode cX10_keep 54 = .ok (.isub, 1) := by decide +kernel
theorem dX10_keep_55 : decode cX10_keep 55 = .ok (.iastore, 1) := by decide +kernel
theorem dX10_keep_56 : decode cX10_keep 56 = .ok (.sipush 132, 3) := by decide +kernel
theorem dX10_keep_59 : decode cX10_keep 59 = .ok (.bipush 35, 2) := by decide +kernel
theorem dX10_keep_61 : decode cX10_keep 61 = .ok (.aload_n 0, 1) := by decide +kernel
theorem dX10_keep_62 : decode cX10_keep 62 = .ok (.getfield 7, 3) := by decide +kernel
theorem dX10_keep_65 : decode cX10_keep 65 = .ok (.iconst 3, 1) := by decide +kernel
theorem dX10_keep_66 : decode cX10_keep 66 = .ok (.iaload, 1) := by decide +kernel
theorem dX10_keep_67 : decode cX10_keep 67 = .ok (.imul, 1) := by decide +kernel
theorem dX10_keep_68 : decode cX10_keep 68 = .ok (.iadd, 1) := by decide +kernel
theorem dX10_keep_69 : decode cX10_keep 69 = .ok (.istore_n 1, 1) := by decide +kernel
theorem dX10_keep_70 : decode cX10_keep 70 = .ok (.aload_n 0, 1) := by decide +kernel
theorem dX10_keep_71 : decode cX10_keep 71 = .ok (.getfield 7, 3) := by decide +kernel
theorem dX10_keep_74 : decode cX10_keep 74 = .ok (.iload_n 1, 1) := by decide +kernel
theorem dX10_keep_75 : decode cX10_keep 75 = .ok (.aload_n 0, 1) := by decide +kernel
theorem dX10_keep_76 : decode cX10_keep 76 = .ok (.getfield 7, 3) := by decide +kernel
theorem dX10_keep_79 : decode cX10_keep 79 = .ok (.iconst 0, 1) := by decide +kernel
theorem dX10_keep_80 : decode cX10_keep 80 = .ok (.iaload, 1) := by decide +kernel
theorem dX10_keep_81 : decode cX10_keep 81 = .ok (.iastore, 1) := by decide +kernel
theorem dX10_keep_82 : decode cX10_keep 82 = .ok (.iconst 0, 1) := by decide +kernel
theorem dX10_keep_83 : decode cX10_keep 83 = .ok (.istore_n 2, 1) := by decide +kernel
theorem dX10_keep_84 : decode cX10_keep 84 = .ok (.iload_n 2, 1) := by decide +kernel
theorem dX10_keep_85 : decode cX10_keep 85 = .ok (.bipush 10, 2) := by decide +kernel
theorem dX10_keep_87 : decode cX10_keep 87 = .ok (.if_icmp .ge 28, 3) := by decide +kernel
theorem dX10_keep_90 : decode cX10_keep 90 = .ok (.aload_n 0, 1) := by decide +kernel
theorem dX10_keep_91 : decode cX10_keep 91 = .ok (.getfield 7, 3) := by decide +kernel
theorem dX10_keep_94 : decode cX10_keep 94 = .ok (.iload_n 1, 1) := by decide +kernel
theorem dX10_keep_95 : decode cX10_keep 95 = .ok (.iconst 1, 1) := by decide +kernel
theorem dX10_keep_96 : decode cX10_keep 96 = .ok (.iadd, 1) := by decide +kernel
theorem dX10_keep_97 : decode cX10_keep 97 = .ok (.iload_n 2, 1) := by decide +kernel
theorem dX10_keep_98 : decode cX10_keep 98 = .ok (.iadd, 1) := by decide +kernel
theorem dX10_keep_99 : decode cX10_keep 99 = .ok (.aload_n 0, 1) := by decide +kernel
theorem dX10_keep_100 : decode cX10_keep 100 = .ok (.getfield 7, 3) := by decide +kernel
theorem dX10_keep_103 : decode cX10_keep 103 = .ok (.bipush 8, 2) := by decide +kernel
theorem dX10_keep_105 : decode cX10_keep 105 = .ok (.iload_n 2, 1) := by decide +kernel
theorem dX10_keep_106 : decode cX10_keep 106 = .ok (.iadd, 1) := by decide +kernel
theorem dX10_keep_107 : decode cX10_keep 107 = .ok (.iaload, 1) := by decide +kernel
theorem dX10_keep_108 : decode cX10_keep 108 = .ok (.iastore, 1) := by decide +kernel
theorem dX10_keep_109 : decode cX10_keep 109 = .ok (.iinc 2 1, 3) := by decide +kernel
theorem dX10_keep_112 : decode cX10_keep 112 = .ok (.goto (-28), 3) := by decide +kernel
theorem dX10_keep_115 : decode cX10_keep 115 = .ok (.iconst 0, 1) := by decide +kernel
theorem dX10_keep_116 : decode cX10_keep 116 = .ok (.istore_n 2, 1) := by decide +kernel
theorem dX10_keep_117 : decode cX10_keep 117 = .ok (.iload_n 2, 1) := by decide +kernel
theorem dX10_keep_118 : decode cX10_keep 118 = .ok (.bipush 8, 2) := by decide +kernel
theorem dX10_keep_120 : decode cX10_keep 120 = .ok (.if_icmp .ge 45, 3) := by decide +kernel
theorem dX10_keep_123 : decode cX10_keep 123 = .ok (.iconst 0, 1) := by decide +kernel
theorem dX10_keep_124 : decode cX10_keep 124 = .ok (.istore_n 3, 1) := by decide +kernel
theorem dX10_keep_125 : decode cX10_keep 125 = .ok (.iload_n 3, 1) := by decide +kernel
theorem dX10_keep_126 : decode cX10_keep 126 = .ok (.iconst 3, 1) := by decide +kernel
theorem dX10_keep_127 : decode cX10_keep 127 = .ok (.if_icmp .ge 32, 3) := by decide +kernel
theorem dX10_keep_130 : decode cX10_keep 130 = .ok (.aload_n 0, 1) := by decide +kernel
theorem dX10_keep_131 : decode cX10_keep 131 = .ok (.getfield 7, 3) := by decide +kernel
theorem dX10_keep_134 : decode cX10_keep 134 = .ok (.iload_n 1, 1) := by decide +kernel
theorem dX10_keep_135 : decode cX10_keep 135 = .ok (.bipush 11, 2) := by decide +kernel
theorem dX10_keep_137 : decode cX10_keep 137 = .ok (.iadd, 1) := by decide +kernel
theorem dX10_keep_138 : decode cX10_keep 138 = .ok (.iconst 3, 1) := by decide +kernel
theorem dX10_keep_139 : decode cX10_keep 139 = .ok (.iload_n 2, 1) := by decide +kernel
theorem dX10_keep_140 : decode cX10_keep 140 = .ok (.imul, 1) := by decide +kernel
theorem dX10_keep_141 : decode cX10_keep 141 = .ok (.iadd, 1) := by decide +kernel
theorem dX10_keep_142 : decode cX10_keep 142 = .ok (.iload_n 3, 1) := by decide +kernel
theorem dX10_keep_143 : decode cX10_keep 143 = .ok (.iadd, 1) := by decide +kernel
theorem dX10_keep_144 : decode cX10_keep 144 = .ok (.aload_n 0, 1) := by decide +kernel
theorem dX10_keep_145 : decode cX10_keep 145 = .ok (.iload_n 2, 1) := by decide +kernel
theorem dX10_keep_146 : decode cX10_keep 146 = .ok (.iconst 4, 1) := by decide +kernel
theorem dX10_keep_147 : decode cX10_keep 147 = .ok (.iload_n 3, 1) := by decide +kernel
theorem dX10_keep_148 : decode cX10_keep 148 = .ok (.iadd, 1) := by decide +kernel
theorem dX10_keep_149 : decode cX10_keep 149 = .ok (.invokevirtual 82, 3) := by decide +kernel
theorem dX10_keep_152 : decode cX10_keep 152 = .ok (.iastore, 1) := by decide +kernel
theorem dX10_keep_153 : decode cX10_keep 153 = .ok (.iinc 3 1, 3) := by decide +kernel
theorem dX10_keep_156 : decode cX10_keep 156 = .ok (.goto (-31), 3) := by decide +kernel
theorem dX10_keep_159 : decode cX10_keep 159 = .ok (.iinc 2 1, 3) := by decide +kernel
theorem dX10_keep_162 : decode cX10_keep 162 = .ok (.goto (-45), 3) := by decide +kernel
theorem dX10_keep_165 : decode cX10_keep 165 = .ok (.aload_n 0, 1) := by decide +kernel
theorem dX10_keep_166 : decode cX10_keep 166 = .ok (.getfield 7, 3) := by decide +kernel
theorem dX10_keep_169 : decode cX10_keep 169 = .ok (.iconst 3, 1) := by decide +kernel
theorem dX10_keep_170 : decode cX10_keep 170 = .ok (.dup2, 1) := by decide +kernel
theorem dX10_keep_171 : decode cX10_keep 171 = .ok (.iaload, 1) := by decide +kernel
theorem dX10_keep_172 : decode cX10_keep 172 = .ok (.iconst 1, 1) := by decide +kernel
theorem dX10_keep_173 : decode cX10_keep 173 = .ok (.iadd, 1) := by decide +kernel
theorem dX10_keep_174 : decode cX10_keep 174 = .ok (.iastore, 1) := by decide +kernel
theorem dX10_keep_175 : decode cX10_keep 175 = .ok (.return_, 1) := by decide +kernel
theorem dX10_undo_0 : decode cX10_undo 0 = .ok (.aload_n 0, 1) := by decide +kernel
theorem dX10_undo_1 : decode cX10_undo 1 = .ok (.getfield 7, 3) := by decide +kernel
theorem dX10_undo_4 : decode cX10_undo 4 = .ok (.iconst 3, 1) := by decide +kernel
theorem dX10_undo_5 : decode cX10_undo 5 = .ok (.iaload, 1) := by decide +kernel
theorem dX10_undo_6 : decode cX10_undo 6 = .ok (.ifCond .ne 5, 3) := by decide +kernel
theorem dX10_undo_9 : decode cX10_undo 9 = .ok (.iconst (-1), 1) := by decide +kernel
theorem dX10_undo_10 : decode cX10_undo 10 = .ok (.ireturn, 1) := by decide +kernel
theorem dX10_undo_11 : decode cX10_undo 11 = .ok (.aload_n 0, 1) := by decide +kernel
theorem dX10_undo_12 : decode cX10_undo 12 = .ok (.getfield 7, 3) := by decide +kernel
theorem dX10_undo_15 : decode cX10_undo 15 = .ok (.iconst 3, 1) := by decide +kernel
theorem dX10_undo_16 : decode cX10_undo 16 = .ok (.dup2, 1) := by decide +kernel
theorem dX10_undo_17 : decode cX10_undo 17 = .ok (.iaload, 1) := by decide +kernel
theorem dX10_undo_18 : decode cX10_undo 18 = .ok (.iconst 1, 1) := by decide +kernel
theorem dX10_undo_19 : decode cX10_undo 19 = .ok (.isub, 1) := by decide +kernel
theorem dX10_undo_20 : decode cX10_undo 20 = .ok (.iastore, 1) := by decide +kernel
theorem dX10_undo_21 : decode cX10_undo 21 = .ok (.sipush 132, 3) := by decide +kernel
theorem dX10_undo_24 : decode cX10_undo 24 = .ok (.bipush 35, 2) := by decide +kernel
theorem dX10_undo_26 : decode cX10_undo 26 = .ok (.aload_n 0, 1) := by decide +kernel
theorem dX10_undo_27 : decode cX10_undo 27 = .ok (.getfield 7, 3) := by decide +kernel
theorem dX10_undo_30 : decode cX10_undo 30 = .ok (.iconst 3, 1) := by decide +kernel
theorem dX10_undo_31 : decode cX10_undo 31 = .ok (.iaload, 1) := by decide +kernel
theorem dX10_undo_32 : decode cX10_undo 32 = .ok (.imul, 1) := by decide +kernel
theorem dX10_undo_33 : decode cX10_undo 33 = .ok (.iadd, 1) := by decide +kernel
theorem dX10_undo_34 : decode cX10_undo 34 = .ok (.istore_n 1, 1) := by decide +kernel
theorem dX10_undo_35 : decode cX10_undo 35 = .ok (.iconst 0, 1) := by decide +kernel
theorem dX10_undo_36 : decode cX10_undo 36 = .ok (.istore_n 2, 1) := by decide +kernel
theorem dX10_undo_37 : decode cX10_undo 37 = .ok (.iload_n 2, 1) := by decide +kernel
theorem dX10_undo_38 : decode cX10_undo 38 = .ok (.bipush 10, 2) := by decide +kernel
theorem dX10_undo_40 : decode cX10_undo 40 = .ok (.if_icmp .ge 28, 3) := by decide +kernel
theorem dX10_undo_43 : decode cX10_undo 43 = .ok (.aload_n 0, 1) := by decide +kernel
theorem dX10_undo_44 : decode cX10_undo 44 = .ok (.getfield 7, 3) := by decide +kernel
theorem dX10_undo_47 : decode cX10_undo 47 = .ok (.bipush 8, 2) := by decide +kernel
theorem dX10_undo_49 : decode cX10_undo 49 = .ok (.iload_n 2, 1) := by decide +kernel
theorem dX10_undo_50 : decode cX10_undo 50 = .ok (.iadd, 1) := by decide +kernel
theorem dX10_undo_51 : decode cX10_undo 51 = .ok (.aload_n 0, 1) := by decide +kernel
theorem dX10_undo_52 : decode cX10_undo 52 = .ok (.getfield 7, 3) := by decide +kernel
theorem dX10_undo_55 : decode cX10_undo 55 = .ok (.iload_n 1, 1) := by decide +kernel
theorem dX10_undo_56 : decode cX10_undo 56 = .ok (.iconst 1, 1) := by decide +kernel
theorem dX10_undo_57 : decode cX10_undo 57 = .ok (.iadd, 1) := by decide +kernel
theorem dX10_undo_58 : decode cX10_undo 58 = .ok (.iload_n 2, 1) := by decide +kernel
theorem dX10_undo_59 : decode cX10_undo 59 = .ok (.iadd, 1) := by decide +kernel
theorem dX10_undo_60 : decode cX10_undo 60 = .ok (.iaload, 1) := by decide +kernel
theorem dX10_undo_61 : decode cX10_undo 61 = .ok (.iastore, 1) := by decide +kernel
theorem dX10_undo_62 : decode cX10_undo 62 = .ok (.iinc 2 1, 3) := by decide +kernel
theorem dX10_undo_65 : decode cX10_undo 65 = .ok (.goto (-28), 3) := by decide +kernel
theorem dX10_undo_68 : decode cX10_undo 68 = .ok (.iconst 0, 1) := by decide +kernel
theorem dX10_undo_69 : decode cX10_undo 69 = .ok (.istore_n 2, 1) := by decide +kernel
theorem dX10_undo_70 : decode cX10_undo 70 = .ok (.iload_n 2, 1) := by decide +kernel
theorem dX10_undo_71 : decode cX10_undo 71 = .ok (.aload_n 0, 1) := by decide +kernel
theorem dX10_undo_72 : decode cX10_undo 72 = .ok (.getfield 7, 3) := by decide +kernel
theorem dX10_undo_75 : decode cX10_undo 75 = .ok (.iconst 0, 1) := by decide +kernel
theorem dX10_undo_76 : decode cX10_undo 76 = .ok (.iaload, 1) := by decide +kernel
theorem dX10_undo_77 : decode cX10_undo 77 = .ok (.if_icmp .ge 59, 3) := by decide +kernel
theorem dX10_undo_80 : decode cX10_undo 80 = .ok (.iconst 0, 1) := by decide +kernel
theorem dX10_undo_81 : decode cX10_undo 81 = .ok (.istore_n 3, 1) := by decide +kernel
theorem dX10_undo_82 : decode cX10_undo 82 = .ok (.iload_n 3, 1) := by decide +kernel
theorem dX10_undo_83 : decode cX10_undo 83 = .ok (.iconst 3, 1) := by decide +kernel
theorem dX10_undo_84 : decode cX10_undo 84 = .ok (.if_icmp .ge 46, 3) := by decide +kernel
theorem dX10_undo_87 : decode cX10_undo 87 = .ok (.aload_n 0, 1) := by decide +kernel
theorem dX10_undo_88 : decode cX10_undo 88 = .ok (.iload_n 2, 1) := by decide +kernel
theorem dX10_undo_89 : decode cX10_undo 89 = .ok (.iconst 4, 1) := by decide +kernel
theorem dX10_undo_90 : decode cX10_undo 90 = .ok (.iload_n 3, 1) := by decide +kernel
theorem dX10_undo_91 : decode cX10_undo 91 = .ok (.iadd, 1) := by decide +kernel
theorem dX10_undo_92 : decode cX10_undo 92 = .ok (.iload_n 2, 1) := by decide +kernel
theorem dX10_undo_93 : decode cX10_undo 93 = .ok (.aload_n 0, 1) := by decide +kernel
theorem dX10_undo_94 : decode cX10_undo 94 = .ok (.getfield 7, 3) := by decide +kernel
theorem dX10_undo_97 : decode cX10_undo 97 = .ok (.iload_n 1, 1) := by decide +kernel
theorem dX10_undo_98 : decode cX10_undo 98 = .ok (.iaload, 1) := by decide +kernel
theorem dX10_undo_99 : decode cX10_undo 99 = .ok (.if_icmp .ge 21, 3) := by decide +kernel
theorem dX10_undo_102 : decode cX10_undo 102 = .ok (.aload_n 0, 1) := by decide +kernel
theorem dX10_undo_103 : decode cX10_undo 103 = .ok (.getfield 7, 3) := by decide +kernel
theorem dX10_undo_106 : decode cX10_undo 106 = .ok (.iload_n 1, 1) := by decide +kernel
theorem dX10_undo_107 : decode cX10_undo 107 = .ok (.bipush 11, 2) := by decide +kernel
theorem dX10_undo_109 : decode cX10_undo 109 = .ok (.iadd, 1) := by decide +kernel
theorem dX10_undo_110 : decode cX10_undo 110 = .ok (.iconst 3, 1) := by decide +kernel
theorem dX10_undo_111 : decode cX10_undo 111 = .ok (.iload_n 2, 1) := by decide +kernel
theorem dX10_undo_112 : decode cX10_undo 112 = .ok (.imul, 1) := by decide +kernel
theorem dX10_undo_113 : decode cX10_undo 113 = .ok (.iadd, 1) := by decide +kernel
theorem dX10_undo_114 : decode cX10_undo 114 = .ok (.iload_n 3, 1) := by decide +kernel
theorem dX10_undo_115 : decode cX10_undo 115 = .ok (.iadd, 1) := by decide +kernel
theorem dX10_undo_116 : decode cX10_undo 116 = .ok (.iaload, 1) := by decide +kernel
theorem dX10_undo_117 : decode cX10_undo 117 = .ok (.goto 4, 3) := by decide +kernel
theorem dX10_undo_120 : decode cX10_undo 120 = .ok (.iconst 0, 1) := by decide +kernel
theorem dX10_undo_121 : decode cX10_undo 121 = .ok (.invokevirtual 86, 3) := by decide +kernel
theorem dX10_undo_124 : decode cX10_undo 124 = .ok (.iinc 3 1, 3) := by decide +kernel
theorem dX10_undo_127 : decode cX10_undo 127 = .ok (.goto (-45), 3) := by decide +kernel
theorem dX10_undo_130 : decode cX10_undo 130 = .ok (.iinc 2 1, 3) := by decide +kernel
theorem dX10_undo_133 : decode cX10_undo 133 = .ok (.goto (-63), 3) := by decide +kernel
theorem dX10_undo_136 : decode cX10_undo 136 = .ok (.aload_n 0, 1) := by decide +kernel
theorem dX10_undo_137 : decode cX10_undo 137 = .ok (.getfield 7, 3) := by decide +kernel
theorem dX10_undo_140 : decode cX10_undo 140 = .ok (.iconst 3, 1) := by decide +kernel
theorem dX10_undo_141 : decode cX10_undo 141 = .ok (.iaload, 1) := by decide +kernel
theorem dX10_undo_142 : decode cX10_undo 142 = .ok (.ireturn, 1) := by decide +kernel
theorem dX10_canCall_0 : decode cX10_canCall 0 = .ok (.aload_n 0, 1) := by decide +kernel
theorem dX10_canCall_1 : decode cX10_canCall 1 = .ok (.iload_n 1, 1) := by decide +kernel
theorem dX10_canCall_2 : decode cX10_canCall 2 = .ok (.invokevirtual 377, 3) := by decide +kernel
theorem dX10_canCall_5 : decode cX10_canCall 5 = .ok (.ifCond .eq 18, 3) := by decide +kernel
theorem dX10_canCall_8 : decode cX10_canCall 8 = .ok (.aload_n 0, 1) := by decide +kernel
theorem dX10_canCall_9 : decode cX10_canCall 9 = .ok (.getfield 7, 3) := by decide +kernel
theorem dX10_canCall_12 : decode cX10_canCall 12 = .ok (.bipush 13, 2) := by decide +kernel
theorem dX10_canCall_14 : decode cX10_canCall 14 = .ok (.iaload, 1) := by decide +kernel
theorem dX10_canCall_15 : decode cX10_canCall 15 = .ok (.iconst (-1), 1) := by decide +kernel
theorem dX10_canCall_16 : decode cX10_canCall 16 = .ok (.if_icmp .ne 7, 3) := by decide +kernel
theorem dX10_canCall_19 : decode cX10_canCall 19 = .ok (.iconst 1, 1) := by decide +kernel
theorem dX10_canCall_20 : decode cX10_canCall 20 = .ok (.goto 4, 3) := by decide +kernel
theorem dX10_canCall_23 : decode cX10_canCall 23 = .ok (.iconst 0, 1) := by decide +kernel
theorem dX10_canCall_24 : decode cX10_canCall 24 = .ok (.ireturn, 1) := by decide +kernel
theorem dX10_callNow_0 : decode cX10_callNow 0 = .ok (.aload_n 0, 1) := by decide +kernel
theorem dX10_callNow_1 : decode cX10_callNow 1 = .ok (.getfield 7, 3) := by decide +kernel
theorem dX10_callNow_4 : decode cX10_callNow 4 = .ok (.bipush 13, 2) := by decide +kernel
theorem dX10_callNow_6 : decode cX10_callNow 6 = .ok (.iload_n 1, 1) := by decide +kernel
theorem dX10_callNow_7 : decode cX10_callNow 7 = .ok (.iastore, 1) := by decide +kernel
theorem dX10_callNow_8 : decode cX10_callNow 8 = .ok (.aload_n 0, 1) := by decide +kernel
theorem dX10_callNow_9 : decode cX10_callNow 9 = .ok (.iload_n 1, 1) := by decide +kernel
theorem dX10_callNow_10 : decode cX10_callNow 10 = .ok (.iconst 4, 1) := by decide +kernel
theorem dX10_callNow_11 : decode cX10_callNow 11 = .ok (.iconst 1, 1) := by decide +kernel
theorem dX10_callNow_12 : decode cX10_callNow 12 = .ok (.invokevirtual 86, 3) := by decide +kernel
theorem dX10_callNow_15 : decode cX10_callNow 15 = .ok (.return_, 1) := by decide +kernel
theorem dX10_call_0 : decode cX10_call 0 = .ok (.aload_n 0, 1) := by decide +kernel
theorem dX10_call_1 : decode cX10_call 1 = .ok (.iload_n 1, 1) := by decide +kernel
theorem dX10_call_2 : decode cX10_call 2 = .ok (.invokevirtual 380, 3) := by decide +kernel
theorem dX10_call_5 : decode cX10_call 5 = .ok (.ifCond .ne 5, 3) := by decide +kernel
theorem dX10_call_8 : decode cX10_call 8 = .ok (.iconst 0, 1) := by decide +kernel
theorem dX10_call_9 : decode cX10_call 9 = .ok (.ireturn, 1) := by decide +kernel
theorem dX10_call_10 : decode cX10_call 10 = .ok (.aload_n 0, 1) := by decide +kernel
theorem dX10_call_11 : decode cX10_call 11 = .ok (.invokevirtual 383, 3) := by decide +kernel
theorem dX10_call_14 : decode cX10_call 14 = .ok (.aload_n 0, 1) := by decide +kernel
theorem dX10_call_15 : decode cX10_call 15 = .ok (.iload_n 1, 1) := by decide +kernel
theorem dX10_call_16 : decode cX10_call 16 = .ok (.invokevirtual 386, 3) := by decide +kernel
theorem dX10_call_19 : decode cX10_call 19 = .ok (.iconst 1, 1) := by decide +kernel
theorem dX10_call_20 : decode cX10_call 20 = .ok (.ireturn, 1) := by decide +kernel
theorem dX10_canDelay_0 : decode cX10_canDelay 0 = .ok (.aload_n 0, 1) := by decide +kernel
theorem dX10_canDelay_1 : decode cX10_canDelay 1 = .ok (.getfield 7, 3) := by decide +kernel
theorem dX10_canDelay_4 : decode cX10_canDelay 4 = .ok (.bipush 13, 2) := by decide +kernel
theorem dX10_canDelay_6 : decode cX10_canDelay 6 = .ok (.iaload, 1) := by decide +kernel
theorem dX10_canDelay_7 : decode cX10_canDelay 7 = .ok (.iconst (-1), 1) := by decide +kernel
theorem dX10_canDelay_8 : decode cX10_canDelay 8 = .ok (.if_icmp .eq 18, 3) := by decide +kernel
theorem dX10_canDelay_11 : decode cX10_canDelay 11 = .ok (.aload_n 0, 1) := by decide +kernel
theorem dX10_canDelay_12 : decode cX10_canDelay 12 = .ok (.getfield 7, 3) := by decide +kernel
theorem dX10_canDelay_15 : decode cX10_canDelay 15 = .ok (.bipush 16, 2) := by decide +kernel
theorem dX10_canDelay_17 : decode cX10_canDelay 17 = .ok (.iaload, 1) := by decide +kernel
theorem dX10_canDelay_18 : decode cX10_canDelay 18 = .ok (.iconst 3, 1) := by decide +kernel
theorem dX10_canDelay_19 : decode cX10_canDelay 19 = .ok (.if_icmp .ge 7, 3) := by decide +kernel
theorem dX10_canDelay_22 : decode cX10_canDelay 22 = .ok (.iconst 1, 1) := by decide +kernel
theorem dX10_canDelay_23 : decode cX10_canDelay 23 = .ok (.goto 4, 3) := by decide +kernel
theorem dX10_canDelay_26 : decode cX10_canDelay 26 = .ok (.iconst 0, 1) := by decide +kernel
theorem dX10_canDelay_27 : decode cX10_canDelay 27 = .ok (.ireturn, 1) := by decide +kernel
theorem dX10_delay_0 : decode cX10_delay 0 = .ok (.aload_n 0, 1) := by decide +kernel
theorem dX10_delay_1 : decode cX10_delay 1 = .ok (.invokevirtual 389, 3) := by decide +kernel
theorem dX10_delay_4 : decode cX10_delay 4 = .ok (.ifCond .ne 5, 3) := by decide +kernel
theorem dX10_delay_7 : decode cX10_delay 7 = .ok (.iconst (-1), 1) := by decide +kernel
theorem dX10_delay_8 : decode cX10_delay 8 = .ok (.ireturn, 1) := by decide +kernel
theorem dX10_delay_9 : decode cX10_delay 9 = .ok (.aload_n 0, 1) := by decide +kernel
theorem dX10_delay_10 : decode cX10_delay 10 = .ok (.invokevirtual 383, 3) := by decide +kernel
theorem dX10_delay_13 : decode cX10_delay 13 = .ok (.aload_n 0, 1) := by decide +kernel
theorem dX10_delay_14 : decode cX10_delay 14 = .ok (.getfield 7, 3) := by decide +kernel
theorem dX10_delay_17 : decode cX10_delay 17 = .ok (.bipush 16, 2) := by decide +kernel
theorem dX10_delay_19 : decode cX10_delay 19 = .ok (.dup2, 1) := by decide +kernel
theorem dX10_delay_20 : decode cX10_delay 20 = .ok (.iaload, 1) := by decide +kernel
theorem dX10_delay_21 : decode cX10_delay 21 = .ok (.iconst 1, 1) := by decide +kernel
theorem dX10_delay_22 : decode cX10_delay 22 = .ok (.iadd, 1) := by decide +kernel
theorem dX10_delay_23 : decode cX10_delay 23 = .ok (.iastore, 1) := by decide +kernel
theorem dX10_delay_24 : decode cX10_delay 24 = .ok (.aload_n 0, 1) := by decide +kernel
theorem dX10_delay_25 : decode cX10_delay 25 = .ok (.getfield 7, 3) := by decide +kernel
theorem dX10_delay_28 : decode cX10_delay 28 = .ok (.bipush 16, 2) := by decide +kernel
theorem dX10_delay_30 : decode cX10_delay 30 = .ok (.iaload, 1) := by decide +kernel
theorem dX10_delay_31 : decode cX10_delay 31 = .ok (.ireturn, 1) := by decide +kernel
theorem dX10_canAppeal_0 : decode cX10_canAppeal 0 = .ok (.aload_n 0, 1) := by decide +kernel
theorem dX10_canAppeal_1 : decode cX10_canAppeal 1 = .ok (.iload_n 1, 1) := by decide +kernel
theorem dX10_canAppeal_2 : decode cX10_canAppeal 2 = .ok (.invokevirtual 78, 3) := by decide +kernel
theorem dX10_canAppeal_5 : decode cX10_canAppeal 5 = .ok (.ifCond .eq 27, 3) := by decide +kernel
theorem dX10_canAppeal_8 : decode cX10_canAppeal 8 = .ok (.aload_n 0, 1) := by decide +kernel
theorem dX10_canAppeal_9 : decode cX10_canAppeal 9 = .ok (.iload_n 1, 1) := by decide +kernel
theorem dX10_canAppeal_10 : decode cX10_canAppeal 10 = .ok (.iconst 4, 1) := by decide +kernel
theorem dX10_canAppeal_11 : decode cX10_canAppeal 11 = .ok (.invokevirtual 82, 3) := by decide +kernel
theorem dX10_canAppeal_14 : decode cX10_canAppeal 14 = .ok (.iconst 3, 1) := by decide +kernel
theorem dX10_canAppeal_15 : decode cX10_canAppeal 15 = .ok (.if_icmp .ne 17, 3) := by decide +kernel
theorem dX10_canAppeal_18 : decode cX10_canAppeal 18 = .ok (.aload_n 0, 1) := by decide +kernel
theorem dX10_canAppeal_19 : decode cX10_canAppeal 19 = .ok (.iload_n 1, 1) := by decide +kernel
theorem dX10_canAppeal_20 : decode cX10_canAppeal 20 = .ok (.bipush 6, 2) := by decide +kernel
theorem dX10_canAppeal_22 : decode cX10_canAppeal 22 = .ok (.invokevirtual 82, 3) := by decide +kernel
theorem dX10_canAppeal_25 : decode cX10_canAppeal 25 = .ok (.ifCond .ne 7, 3) := by decide +kernel
theorem dX10_canAppeal_28 : decode cX10_canAppeal 28 = .ok (.iconst 1, 1) := by decide +kernel
theorem dX10_canAppeal_29 : decode cX10_canAppeal 29 = .ok (.goto 4, 3) := by decide +kernel
theorem dX10_canAppeal_32 : decode cX10_canAppeal 32 = .ok (.iconst 0, 1) := by decide +kernel
theorem dX10_canAppeal_33 : decode cX10_canAppeal 33 = .ok (.ireturn, 1) := by decide +kernel
theorem dX10_appealNow_0 : decode cX10_appealNow 0 = .ok (.aload_n 0, 1) := by decide +kernel
theorem dX10_appealNow_1 : decode cX10_appealNow 1 = .ok (.iload_n 1, 1) := by decide +kernel
theorem dX10_appealNow_2 : decode cX10_appealNow 2 = .ok (.iconst 4, 1) := by decide +kernel
theorem dX10_appealNow_3 : decode cX10_appealNow 3 = .ok (.iconst 0, 1) := by decide +kernel
theorem dX10_appealNow_4 : decode cX10_appealNow 4 = .ok (.invokevirtual 86, 3) := by decide +kernel
theorem dX10_appealNow_7 : decode cX10_appealNow 7 = .ok (.aload_n 0, 1) := by decide +kernel
theorem dX10_appealNow_8 : decode cX10_appealNow 8 = .ok (.iload_n 1, 1) := by decide +kernel
theorem dX10_appealNow_9 : decode cX10_appealNow 9 = .ok (.iconst 5, 1) := by decide +kernel
theorem dX10_appealNow_10 : decode cX10_appealNow 10 = .ok (.iconst 0, 1) := by decide +kernel
theorem dX10_appealNow_11 : decode cX10_appealNow 11 = .ok (.invokevirtual 86, 3) := by decide +kernel
theorem dX10_appealNow_14 : decode cX10_appealNow 14 = .ok (.aload_n 0, 1) := by decide +kernel
theorem dX10_appealNow_15 : decode cX10_appealNow 15 = .ok (.iload_n 1, 1) := by decide +kernel
theorem dX10_appealNow_16 : decode cX10_appealNow 16 = .ok (.bipush 6, 2) := by decide +kernel
theorem dX10_appealNow_18 : decode cX10_appealNow 18 = .ok (.iconst 1, 1) := by decide +kernel
theorem dX10_appealNow_19 : decode cX10_appealNow 19 = .ok (.invokevirtual 86, 3) := by decide +kernel
theorem dX10_appealNow_22 : decode cX10_appealNow 22 = .ok (.return_, 1) := by decide +kernel
theorem dX10_appeal_0 : decode cX10_appeal 0 = .ok (.aload_n 0, 1) := by decide +kernel
theorem dX10_appeal_1 : decode cX10_appeal 1 = .ok (.iload_n 1, 1) := by decide +kernel
theorem dX10_appeal_2 : decode cX10_appeal 2 = .ok (.invokevirtual 392, 3) := by decide +kernel
theorem dX10_appeal_5 : decode cX10_appeal 5 = .ok (.ifCond .ne 5, 3) := by decide +kernel
theorem dX10_appeal_8 : decode cX10_appeal 8 = .ok (.iconst 0, 1) := by decide +kernel
theorem dX10_appeal_9 : decode cX10_appeal 9 = .ok (.ireturn, 1) := by decide +kernel
theorem dX10_appeal_10 : decode cX10_appeal 10 = .ok (.aload_n 0, 1) := by decide +kernel
theorem dX10_appeal_11 : decode cX10_appeal 11 = .ok (.invokevirtual 383, 3) := by decide +kernel
theorem dX10_appeal_14 : decode cX10_appeal 14 = .ok (.aload_n 0, 1) := by decide +kernel
theorem dX10_appeal_15 : decode cX10_appeal 15 = .ok (.iload_n 1, 1) := by decide +kernel
theorem dX10_appeal_16 : decode cX10_appeal 16 = .ok (.invokevirtual 395, 3) := by decide +kernel
theorem dX10_appeal_19 : decode cX10_appeal 19 = .ok (.iconst 1, 1) := by decide +kernel
theorem dX10_appeal_20 : decode cX10_appeal 20 = .ok (.ireturn, 1) := by decide +kernel
theorem dX10_gust_0 : decode cX10_gust 0 = .ok (.iload_n 1, 1) := by decide +kernel
theorem dX10_gust_1 : decode cX10_gust 1 = .ok (.iconst 0, 1) := by decide +kernel
theorem dX10_gust_2 : decode cX10_gust 2 = .ok (.iconst 3, 1) := by decide +kernel
theorem dX10_gust_3 : decode cX10_gust 3 = .ok (.invokestatic 74, 3) := by decide +kernel
theorem dX10_gust_6 : decode cX10_gust 6 = .ok (.ifCond .eq 35, 3) := by decide +kernel
theorem dX10_gust_9 : decode cX10_gust 9 = .ok (.iload_n 2, 1) := by decide +kernel
theorem dX10_gust_10 : decode cX10_gust 10 = .ok (.iconst 0, 1) := by decide +kernel
theorem dX10_gust_11 : decode cX10_gust 11 = .ok (.bipush 9, 2) := by decide +kernel
theorem dX10_gust_13 : decode cX10_gust 13 = .ok (.invokestatic 74, 3) := by decide +kernel
theorem dX10_gust_16 : decode cX10_gust 16 = .ok (.ifCond .eq 25, 3) := by decide +kernel
theorem dX10_gust_19 : decode cX10_gust 19 = .ok (.aload_n 0, 1) := by decide +kernel
theorem dX10_gust_20 : decode cX10_gust 20 = .ok (.getfield 7, 3) := by decide +kernel
theorem dX10_gust_23 : decode cX10_gust 23 = .ok (.bipush 8, 2) := by decide +kernel
theorem dX10_gust_25 : decode cX10_gust 25 = .ok (.iaload, 1) := by decide +kernel
theorem dX10_gust_26 : decode cX10_gust 26 = .ok (.iload_n 1, 1) := by decide +kernel
theorem dX10_gust_27 : decode cX10_gust 27 = .ok (.if_icmp .ne 16, 3) := by decide +kernel
theorem dX10_gust_30 : decode cX10_gust 30 = .ok (.aload_n 0, 1) := by decide +kernel
theorem dX10_gust_31 : decode cX10_gust 31 = .ok (.getfield 7, 3) := by decide +kernel
theorem dX10_gust_34 : decode cX10_gust 34 = .ok (.bipush 9, 2) := by decide +kernel
theorem dX10_gust_36 : decode cX10_gust 36 = .ok (.iaload, 1) := by decide +kernel
theorem dX10_gust_37 : decode cX10_gust 37 = .ok (.iload_n 2, 1) := by decide +kernel
theorem dX10_gust_38 : decode cX10_gust 38 = .ok (.if_icmp .ne 5, 3) := by decide +kernel
theorem dX10_gust_41 : decode cX10_gust 41 = .ok (.iconst 0, 1) := by decide +kernel
theorem dX10_gust_42 : decode cX10_gust 42 = .ok (.ireturn, 1) := by decide +kernel
theorem dX10_gust_43 : decode cX10_gust 43 = .ok (.aload_n 0, 1) := by decide +kernel
theorem dX10_gust_44 : decode cX10_gust 44 = .ok (.invokevirtual 383, 3) := by decide +kernel
theorem dX10_gust_47 : decode cX10_gust 47 = .ok (.aload_n 0, 1) := by decide +kernel
theorem dX10_gust_48 : decode cX10_gust 48 = .ok (.getfield 7, 3) := by decide +kernel
theorem dX10_gust_51 : decode cX10_gust 51 = .ok (.bipush 8, 2) := by decide +kernel
theorem dX10_gust_53 : decode cX10_gust 53 = .ok (.iload_n 1, 1) := by decide +kernel
theorem dX10_gust_54 : decode cX10_gust 54 = .ok (.iastore, 1) := by decide +kernel
theorem dX10_gust_55 : decode cX10_gust 55 = .ok (.aload_n 0, 1) := by decide +kernel
theorem dX10_gust_56 : decode cX10_gust 56 = .ok (.getfield 7, 3) := by decide +kernel
theorem dX10_gust_59 : decode cX10_gust 59 = .ok (.bipush 9, 2) := by decide +kernel
theorem dX10_gust_61 : decode cX10_gust 61 = .ok (.iload_n 2, 1) := by decide +kernel
theorem dX10_gust_62 : decode cX10_gust 62 = .ok (.iastore, 1) := by decide +kernel
theorem dX10_gust_63 : decode cX10_gust 63 = .ok (.iconst 1, 1) := by decide +kernel
theorem dX10_gust_64 : decode cX10_gust 64 = .ok (.ireturn, 1) := by decide +kernel
theorem dX10_withdraw_0 : decode cX10_withdraw 0 = .ok (.aload_n 0, 1) := by decide +kernel
theorem dX10_withdraw_1 : decode cX10_withdraw 1 = .ok (.getfield 7, 3) := by decide +kernel
theorem dX10_withdraw_4 : decode cX10_withdraw 4 = .ok (.bipush 13, 2) := by decide +kernel
theorem dX10_withdraw_6 : decode cX10_withdraw 6 = .ok (.iaload, 1) := by decide +kernel
theorem dX10_withdraw_7 : decode cX10_withdraw 7 = .ok (.iconst (-1), 1) := by decide +kernel
theorem dX10_withdraw_8 : decode cX10_withdraw 8 = .ok (.if_icmp .ne 5, 3) := by decide +kernel
theorem dX10_withdraw_11 : decode cX10_withdraw 11 = .ok (.iconst (-1), 1) := by decide +kernel
theorem dX10_withdraw_12 : decode cX10_withdraw 12 = .ok (.ireturn, 1) := by decide +kernel
theorem dX10_withdraw_13 : decode cX10_withdraw 13 = .ok (.aload_n 0, 1) := by decide +kernel
theorem dX10_withdraw_14 : decode cX10_withdraw 14 = .ok (.invokevirtual 383, 3) := by decide +kernel
theorem dX10_withdraw_17 : decode cX10_withdraw 17 = .ok (.aload_n 0, 1) := by decide +kernel
theorem dX10_withdraw_18 : decode cX10_withdraw 18 = .ok (.getfield 7, 3) := by decide +kernel
theorem dX10_withdraw_21 : decode cX10_withdraw 21 = .ok (.bipush 13, 2) := by decide +kernel
theorem dX10_withdraw_23 : decode cX10_withdraw 23 = .ok (.iaload, 1) := by decide +kernel
theorem dX10_withdraw_24 : decode cX10_withdraw 24 = .ok (.istore_n 1, 1) := by decide +kernel
theorem dX10_withdraw_25 : decode cX10_withdraw 25 = .ok (.aload_n 0, 1) := by decide +kernel
theorem dX10_withdraw_26 : decode cX10_withdraw 26 = .ok (.iconst 0, 1) := by decide +kernel
theorem dX10_withdraw_27 : decode cX10_withdraw 27 = .ok (.iconst 0, 1) := by decide +kernel
theorem dX10_withdraw_28 : decode cX10_withdraw 28 = .ok (.invokevirtual 365, 3) := by decide +kernel
theorem dX10_withdraw_31 : decode cX10_withdraw 31 = .ok (.iload_n 1, 1) := by decide +kernel
theorem dX10_withdraw_32 : decode cX10_withdraw 32 = .ok (.ireturn, 1) := by decide +kernel
theorem dX10_arePassed_0 : decode cX10_arePassed 0 = .ok (.iconst 0, 1) := by decide +kernel
theorem dX10_arePassed_1 : decode cX10_arePassed 1 = .ok (.istore_n 2, 1) := by decide +kernel
theorem dX10_arePassed_2 : decode cX10_arePassed 2 = .ok (.iload_n 2, 1) := by decide +kernel
theorem dX10_arePassed_3 : decode cX10_arePassed 3 = .ok (.iload_n 1, 1) := by decide +kernel
theorem dX10_arePassed_4 : decode cX10_arePassed 4 = .ok (.if_icmp .ge 32, 3) := by decide +kernel
theorem dX10_arePassed_7 : decode cX10_arePassed 7 = .ok (.aload_n 0, 1) := by decide +kernel
theorem dX10_arePassed_8 : decode cX10_arePassed 8 = .ok (.getfield 7, 3) := by decide +kernel
theorem dX10_arePassed_11 : decode cX10_arePassed 11 = .ok (.bipush 11, 2) := by decide +kernel
theorem dX10_arePassed_13 : decode cX10_arePassed 13 = .ok (.iaload, 1) := by decide +kernel
theorem dX10_arePassed_14 : decode cX10_arePassed 14 = .ok (.sipush 9999, 3) := by decide +kernel
theorem dX10_arePassed_17 : decode cX10_arePassed 17 = .ok (.if_icmp .ne 5, 3) := by decide +kernel
theorem dX10_arePassed_20 : decode cX10_arePassed 20 = .ok (.iconst 0, 1) := by decide +kernel
theorem dX10_arePassed_21 : decode cX10_arePassed 21 = .ok (.ireturn, 1) := by decide +kernel
theorem dX10_arePassed_22 : decode cX10_arePassed 22 = .ok (.aload_n 0, 1) := by decide +kernel
theorem dX10_arePassed_23 : decode cX10_arePassed 23 = .ok (.invokevirtual 383, 3) := by decide +kernel
theorem dX10_arePassed_26 : decode cX10_arePassed 26 = .ok (.aload_n 0, 1) := by decide +kernel
theorem dX10_arePassed_27 : decode cX10_arePassed 27 = .ok (.invokevirtual 398, 3) := by decide +kernel
theorem dX10_arePassed_30 : decode cX10_arePassed 30 = .ok (.iinc 2 1, 3) := by decide +kernel
theorem dX10_arePassed_33 : decode cX10_arePassed 33 = .ok (.goto (-31), 3) := by decide +kernel
theorem dX10_arePassed_36 : decode cX10_arePassed 36 = .ok (.iconst 1, 1) := by decide +kernel
theorem dX10_arePassed_37 : decode cX10_arePassed 37 = .ok (.ireturn, 1) := by decide +kernel
theorem dX10_hour_0 : decode cX10_hour 0 = .ok (.iload_n 1, 1) := by decide +kernel
theorem dX10_hour_1 : decode cX10_hour 1 = .ok (.iconst 1, 1) := by decide +kernel
theorem dX10_hour_2 : decode cX10_hour 2 = .ok (.bipush 60, 2) := by decide +kernel
theorem dX10_hour_4 : decode cX10_hour 4 = .ok (.invokestatic 74, 3) := by decide +kernel
theorem dX10_hour_7 : decode cX10_hour 7 = .ok (.ifCond .eq 18, 3) := by decide +kernel
theorem dX10_hour_10 : decode cX10_hour 10 = .ok (.aload_n 0, 1) := by decide +kernel
theorem dX10_hour_11 : decode cX10_hour 11 = .ok (.getfield 7, 3) := by decide +kernel
theorem dX10_hour_14 : decode cX10_hour 14 = .ok (.bipush 11, 2) := by decide +kernel
theorem dX10_hour_16 : decode cX10_hour 16 = .ok (.iaload, 1) := by decide +kernel
theorem dX10_hour_17 : decode cX10_hour 17 = .ok (.iload_n 1, 1) := by decide +kernel
theorem dX10_hour_18 : decode cX10_hour 18 = .ok (.iadd, 1) := by decide +kernel
theorem dX10_hour_19 : decode cX10_hour 19 = .ok (.sipush 9999, 3) := by decide +kernel
theorem dX10_hour_22 : decode cX10_hour 22 = .ok (.if_icmp .le 5, 3) := by decide +kernel
theorem dX10_hour_25 : decode cX10_hour 25 = .ok (.iconst (-1), 1) := by decide +kernel
theorem dX10_hour_26 : decode cX10_hour 26 = .ok (.ireturn, 1) := by decide +kernel
theorem dX10_hour_27 : decode cX10_hour 27 = .ok (.aload_n 0, 1) := by decide +kernel
theorem dX10_hour_28 : decode cX10_hour 28 = .ok (.iconst 0, 1) := by decide +kernel
theorem dX10_hour_29 : decode cX10_hour 29 = .ok (.putfield 362, 3) := by decide +kernel
theorem dX10_hour_32 : decode cX10_hour 32 = .ok (.aload_n 0, 1) := by decide +kernel
theorem dX10_hour_33 : decode cX10_hour 33 = .ok (.iload_n 1, 1) := by decide +kernel
theorem dX10_hour_34 : decode cX10_hour 34 = .ok (.invokevirtual 401, 3) := by decide +kernel
theorem dX10_hour_37 : decode cX10_hour 37 = .ok (.ifCond .eq 10, 3) := by decide +kernel
theorem dX10_hour_40 : decode cX10_hour 40 = .ok (.aload_n 0, 1) := by decide +kernel
theorem dX10_hour_41 : decode cX10_hour 41 = .ok (.getfield 362, 3) := by decide +kernel
theorem dX10_hour_44 : decode cX10_hour 44 = .ok (.goto 4, 3) := by decide +kernel
theorem dX10_hour_47 : decode cX10_hour 47 = .ok (.iconst (-1), 1) := by decide +kernel
theorem dX10_hour_48 : decode cX10_hour 48 = .ok (.ireturn, 1) := by decide +kernel
theorem dX10_isPlayed_0 : decode cX10_isPlayed 0 = .ok (.aload_n 0, 1) := by decide +kernel
theorem dX10_isPlayed_1 : decode cX10_isPlayed 1 = .ok (.getfield 16, 3) := by decide +kernel
theorem dX10_isPlayed_4 : decode cX10_isPlayed 4 = .ok (.iload_n 1, 1) := by decide +kernel
theorem dX10_isPlayed_5 : decode cX10_isPlayed 5 = .ok (.iconst 1, 1) := by decide +kernel
theorem dX10_isPlayed_6 : decode cX10_isPlayed 6 = .ok (.iadd, 1) := by decide +kernel
theorem dX10_isPlayed_7 : decode cX10_isPlayed 7 = .ok (.iaload, 1) := by decide +kernel
theorem dX10_isPlayed_8 : decode cX10_isPlayed 8 = .ok (.istore_n 2, 1) := by decide +kernel
theorem dX10_isPlayed_9 : decode cX10_isPlayed 9 = .ok (.aload_n 0, 1) := by decide +kernel
theorem dX10_isPlayed_10 : decode cX10_isPlayed 10 = .ok (.getfield 16, 3) := by decide +kernel
theorem dX10_isPlayed_13 : decode cX10_isPlayed 13 = .ok (.iload_n 1, 1) := by decide +kernel
theorem dX10_isPlayed_14 : decode cX10_isPlayed 14 = .ok (.iaload, 1) := by decide +kernel
theorem dX10_isPlayed_15 : decode cX10_isPlayed 15 = .ok (.tableswitch 130 5 11 #[41, 72, 78, 91, 97, 111, 124], 41) := by decide +kernel
theorem dX10_isPlayed_56 : decode cX10_isPlayed 56 = .ok (.aload_n 0, 1) := by decide +kernel
theorem dX10_isPlayed_57 : decode cX10_isPlayed 57 = .ok (.iload_n 2, 1) := by decide +kernel
theorem dX10_isPlayed_58 : decode cX10_isPlayed 58 = .ok (.aload_n 0, 1) := by decide +kernel
theorem dX10_isPlayed_59 : decode cX10_isPlayed 59 = .ok (.getfield 16, 3) := by decide +kernel
theorem dX10_isPlayed_62 : decode cX10_isPlayed 62 = .ok (.iload_n 1, 1) := by decide +kernel
theorem dX10_isPlayed_63 : decode cX10_isPlayed 63 = .ok (.iconst 2, 1) := by decide +kernel
theorem dX10_isPlayed_64 : decode cX10_isPlayed 64 = .ok (.iadd, 1) := by decide +kernel
theorem dX10_isPlayed_65 : decode cX10_isPlayed 65 = .ok (.iaload, 1) := by decide +kernel
theorem dX10_isPlayed_66 : decode cX10_isPlayed 66 = .ok (.aload_n 0, 1) := by decide +kernel
theorem dX10_isPlayed_67 : decode cX10_isPlayed 67 = .ok (.getfield 16, 3) := by decide +kernel
theorem dX10_isPlayed_70 : decode cX10_isPlayed 70 = .ok (.iload_n 1, 1) := by decide +kernel
theorem dX10_isPlayed_71 : decode cX10_isPlayed 71 = .ok (.iconst 3, 1) := by decide +kernel
theorem dX10_isPlayed_72 : decode cX10_isPlayed 72 = .ok (.iadd, 1) := by decide +kernel
theorem dX10_isPlayed_73 : decode cX10_isPlayed 73 = .ok (.iaload, 1) := by decide +kernel
theorem dX10_isPlayed_74 : decode cX10_isPlayed 74 = .ok (.iconst 0, 1) := by decide +kernel
theorem dX10_isPlayed_75 : decode cX10_isPlayed 75 = .ok (.invokevirtual 404, 3) := by decide +kernel
theorem dX10_isPlayed_78 : decode cX10_isPlayed 78 = .ok (.ifCond .lt 7, 3) := by decide +kernel
theorem dX10_isPlayed_81 : decode cX10_isPlayed 81 = .ok (.iconst 1, 1) := by decide +kernel
theorem dX10_isPlayed_82 : decode cX10_isPlayed 82 = .ok (.goto 4, 3) := by decide +kernel
theorem dX10_isPlayed_85 : decode cX10_isPlayed 85 = .ok (.iconst 0, 1) := by decide +kernel
theorem dX10_isPlayed_86 : decode cX10_isPlayed 86 = .ok (.ireturn, 1) := by decide +kernel
theorem dX10_isPlayed_87 : decode cX10_isPlayed 87 = .ok (.aload_n 0, 1) := by decide +kernel
theorem dX10_isPlayed_88 : decode cX10_isPlayed 88 = .ok (.iload_n 2, 1) := by decide +kernel
theorem dX10_isPlayed_89 : decode cX10_isPlayed 89 = .ok (.invokevirtual 407, 3) := by decide +kernel
theorem dX10_isPlayed_92 : decode cX10_isPlayed 92 = .ok (.ireturn, 1) := by decide +kernel
theorem dX10_isPlayed_93 : decode cX10_isPlayed 93 = .ok (.aload_n 0, 1) := by decide +kernel
theorem dX10_isPlayed_94 : decode cX10_isPlayed 94 = .ok (.invokevirtual 410, 3) := by decide +kernel
theorem dX10_isPlayed_97 : decode cX10_isPlayed 97 = .ok (.ifCond .lt 7, 3) := by decide +kernel
theorem dX10_isPlayed_100 : decode cX10_isPlayed 100 = .ok (.iconst 1, 1) := by decide +kernel
theorem dX10_isPlayed_101 : decode cX10_isPlayed 101 = .ok (.goto 4, 3) := by decide +kernel
theorem dX10_isPlayed_104 : decode cX10_isPlayed 104 = .ok (.iconst 0, 1) := by decide +kernel
theorem dX10_isPlayed_105 : decode cX10_isPlayed 105 = .ok (.ireturn, 1) := by decide +kernel
theorem dX10_isPlayed_106 : decode cX10_isPlayed 106 = .ok (.aload_n 0, 1) := by decide +kernel
theorem dX10_isPlayed_107 : decode cX10_isPlayed 107 = .ok (.iload_n 2, 1) := by decide +kernel
theorem dX10_isPlayed_108 : decode cX10_isPlayed 108 = .ok (.invokevirtual 413, 3) := by decide +kernel
theorem dX10_isPlayed_111 : decode cX10_isPlayed 111 = .ok (.ireturn, 1) := by decide +kernel
theorem dX10_isPlayed_112 : decode cX10_isPlayed 112 = .ok (.aload_n 0, 1) := by decide +kernel
theorem dX10_isPlayed_113 : decode cX10_isPlayed 113 = .ok (.iload_n 2, 1) := by decide +kernel
theorem dX10_isPlayed_114 : decode cX10_isPlayed 114 = .ok (.aload_n 0, 1) := by decide +kernel
theorem dX10_isPlayed_115 : decode cX10_isPlayed 115 = .ok (.getfield 16, 3) := by decide +kernel
theorem dX10_isPlayed_118 : decode cX10_isPlayed 118 = .ok (.iload_n 1, 1) := by decide +kernel
theorem dX10_isPlayed_119 : decode cX10_isPlayed 119 = .ok (.iconst 2, 1) := by decide +kernel
theorem dX10_isPlayed_120 : decode cX10_isPlayed 120 = .ok (.iadd, 1) := by decide +kernel
theorem dX10_isPlayed_121 : decode cX10_isPlayed 121 = .ok (.iaload, 1) := by decide +kernel
theorem dX10_isPlayed_122 : decode cX10_isPlayed 122 = .ok (.invokevirtual 416, 3) := by decide +kernel
theorem dX10_isPlayed_125 : decode cX10_isPlayed 125 = .ok (.ireturn, 1) := by decide +kernel
theorem dX10_isPlayed_126 : decode cX10_isPlayed 126 = .ok (.aload_n 0, 1) := by decide +kernel
theorem dX10_isPlayed_127 : decode cX10_isPlayed 127 = .ok (.invokevirtual 419, 3) := by decide +kernel
theorem dX10_isPlayed_130 : decode cX10_isPlayed 130 = .ok (.ifCond .lt 7, 3) := by decide +kernel
theorem dX10_isPlayed_133 : decode cX10_isPlayed 133 = .ok (.iconst 1, 1) := by decide +kernel
theorem dX10_isPlayed_134 : decode cX10_isPlayed 134 = .ok (.goto 4, 3) := by decide +kernel
theorem dX10_isPlayed_137 : decode cX10_isPlayed 137 = .ok (.iconst 0, 1) := by decide +kernel
theorem dX10_isPlayed_138 : decode cX10_isPlayed 138 = .ok (.ireturn, 1) := by decide +kernel
theorem dX10_isPlayed_139 : decode cX10_isPlayed 139 = .ok (.aload_n 0, 1) := by decide +kernel
theorem dX10_isPlayed_140 : decode cX10_isPlayed 140 = .ok (.iload_n 2, 1) := by decide +kernel
theorem dX10_isPlayed_141 : decode cX10_isPlayed 141 = .ok (.invokevirtual 401, 3) := by decide +kernel
theorem dX10_isPlayed_144 : decode cX10_isPlayed 144 = .ok (.ireturn, 1) := by decide +kernel
theorem dX10_isPlayed_145 : decode cX10_isPlayed 145 = .ok (.iconst 1, 1) := by decide +kernel
theorem dX10_isPlayed_146 : decode cX10_isPlayed 146 = .ok (.ireturn, 1) := by decide +kernel
theorem dX10_played_0 : decode cX10_played 0 = .ok (.iload_n 1, 1) := by decide +kernel
theorem dX10_played_1 : decode cX10_played 1 = .ok (.iconst 0, 1) := by decide +kernel
theorem dX10_played_2 : decode cX10_played 2 = .ok (.aload_n 0, 1) := by decide +kernel
theorem dX10_played_3 : decode cX10_played 3 = .ok (.getfield 7, 3) := by decide +kernel
theorem dX10_played_6 : decode cX10_played 6 = .ok (.iconst 1, 1) := by decide +kernel
theorem dX10_played_7 : decode cX10_played 7 = .ok (.iaload, 1) := by decide +kernel
theorem dX10_played_8 : decode cX10_played 8 = .ok (.iconst 1, 1) := by decide +kernel
theorem dX10_played_9 : decode cX10_played 9 = .ok (.isub, 1) := by decide +kernel
theorem dX10_played_10 : decode cX10_played 10 = .ok (.invokestatic 74, 3) := by decide +kernel
theorem dX10_played_13 : decode cX10_played 13 = .ok (.ifCond .ne 6, 3) := by decide +kernel
theorem dX10_played_16 : decode cX10_played 16 = .ok (.bipush (-2), 2) := by decide +kernel
theorem dX10_played_18 : decode cX10_played 18 = .ok (.ireturn, 1) := by decide +kernel
theorem dX10_played_19 : decode cX10_played 19 = .ok (.iconst 0, 1) := by decide +kernel
theorem dX10_played_20 : decode cX10_played 20 = .ok (.istore_n 2, 1) := by decide +kernel
theorem dX10_played_21 : decode cX10_played 21 = .ok (.iload_n 2, 1) := by decide +kernel
theorem dX10_played_22 : decode cX10_played 22 = .ok (.aload_n 0, 1) := by decide +kernel
theorem dX10_played_23 : decode cX10_played 23 = .ok (.getfield 16, 3) := by decide +kernel
theorem dX10_played_26 : decode cX10_played 26 = .ok (.sipush 705, 3) := by decide +kernel
theorem dX10_played_29 : decode cX10_played 29 = .ok (.iload_n 1, 1) := by decide +kernel
theorem dX10_played_30 : decode cX10_played 30 = .ok (.imul, 1) := by decide +kernel
theorem dX10_played_31 : decode cX10_played 31 = .ok (.iaload, 1) := by decide +kernel
theorem dX10_played_32 : decode cX10_played 32 = .ok (.if_icmp .ge 29, 3) := by decide +kernel
theorem dX10_played_35 : decode cX10_played 35 = .ok (.aload_n 0, 1) := by decide +kernel
theorem dX10_played_36 : decode cX10_played 36 = .ok (.sipush 705, 3) := by decide +kernel
theorem dX10_played_39 : decode cX10_played 39 = .ok (.iload_n 1, 1) := by decide +kernel
theorem dX10_played_40 : decode cX10_played 40 = .ok (.imul, 1) := by decide +kernel
theorem dX10_played_41 : decode cX10_played 41 = .ok (.iconst 1, 1) := by decide +kernel
theorem dX10_played_42 : decode cX10_played 42 = .ok (.iadd, 1) := by decide +kernel
theorem dX10_played_43 : decode cX10_played 43 = .ok (.iconst 4, 1) := by decide +kernel
theorem dX10_played_44 : decode cX10_played 44 = .ok (.iload_n 2, 1) := by decide +kernel
theorem dX10_played_45 : decode cX10_played 45 = .ok (.imul, 1) := by decide +kernel
theorem dX10_played_46 : decode cX10_played 46 = .ok (.iadd, 1) := by decide +kernel
theorem dX10_played_47 : decode cX10_played 47 = .ok (.invokevirtual 422, 3) := by decide +kernel
theorem dX10_played_50 : decode cX10_played 50 = .ok (.ifCond .ne 5, 3) := by decide +kernel
theorem dX10_played_53 : decode cX10_played 53 = .ok (.iload_n 2, 1) := by decide +kernel
theorem dX10_played_54 : decode cX10_played 54 = .ok (.ireturn, 1) := by decide +kernel
theorem dX10_played_55 : decode cX10_played 55 = .ok (.iinc 2 1, 3) := by decide +kernel
theorem dX10_played_58 : decode cX10_played 58 = .ok (.goto (-37), 3) := by decide +kernel
theorem dX10_played_61 : decode cX10_played 61 = .ok (.iconst (-1), 1) := by decide +kernel
theorem dX10_played_62 : decode cX10_played 62 = .ok (.ireturn, 1) := by decide +kernel
theorem dX10_happens_0 : decode cX10_happens 0 = .ok (.iload_n 1, 1) := by decide +kernel
theorem dX10_happens_1 : decode cX10_happens 1 = .ok (.aload_n 0, 1) := by decide +kernel
theorem dX10_happens_2 : decode cX10_happens 2 = .ok (.getfield 7, 3) := by decide +kernel
theorem dX10_happens_5 : decode cX10_happens 5 = .ok (.iconst 0, 1) := by decide +kernel
theorem dX10_happens_6 : decode cX10_happens 6 = .ok (.iaload, 1) := by decide +kernel
theorem dX10_happens_7 : decode cX10_happens 7 = .ok (.irem, 1) := by decide +kernel
theorem dX10_happens_8 : decode cX10_happens 8 = .ok (.istore_n 2, 1) := by decide +kernel
theorem dX10_happens_9 : decode cX10_happens 9 = .ok (.iload_n 1, 1) := by decide +kernel
theorem dX10_happens_10 : decode cX10_happens 10 = .ok (.bipush 7, 2) := by decide +kernel
theorem dX10_happens_12 : decode cX10_happens 12 = .ok (.irem, 1) := by decide +kernel
theorem dX10_happens_13 : decode cX10_happens 13 = .ok (.tableswitch 92 2 6 #[35, 56, 72, 72, 72], 35) := by decide +kernel
theorem dX10_happens_48 : decode cX10_happens 48 = .ok (.aload_n 0, 1) := by decide +kernel
theorem dX10_happens_49 : decode cX10_happens 49 = .ok (.invokevirtual 389, 3) := by decide +kernel
theorem dX10_happens_52 : decode cX10_happens 52 = .ok (.ifCond .eq 66, 3) := by decide +kernel
theorem dX10_happens_55 : decode cX10_happens 55 = .ok (.aload_n 0, 1) := by decide +kernel
theorem dX10_happens_56 : decode cX10_happens 56 = .ok (.getfield 7, 3) := by decide +kernel
theorem dX10_happens_59 : decode cX10_happens 59 = .ok (.bipush 16, 2) := by decide +kernel
theorem dX10_happens_61 : decode cX10_happens 61 = .ok (.dup2, 1) := by decide +kernel
theorem dX10_happens_62 : decode cX10_happens 62 = .ok (.iaload, 1) := by decide +kernel
theorem dX10_happens_63 : decode cX10_happens 63 = .ok (.iconst 1, 1) := by decide +kernel
theorem dX10_happens_64 : decode cX10_happens 64 = .ok (.iadd, 1) := by decide +kernel
theorem dX10_happens_65 : decode cX10_happens 65 = .ok (.iastore, 1) := by decide +kernel
theorem dX10_happens_66 : decode cX10_happens 66 = .ok (.goto 52, 3) := by decide +kernel
theorem dX10_happens_69 : decode cX10_happens 69 = .ok (.aload_n 0, 1) := by decide +kernel
theorem dX10_happens_70 : decode cX10_happens 70 = .ok (.iload_n 2, 1) := by decide +kernel
theorem dX10_happens_71 : decode cX10_happens 71 = .ok (.invokevirtual 392, 3) := by decide +kernel
theorem dX10_happens_74 : decode cX10_happens 74 = .ok (.ifCond .eq 44, 3) := by decide +kernel
theorem dX10_happens_77 : decode cX10_happens 77 = .ok (.aload_n 0, 1) := by decide +kernel
theorem dX10_happens_78 : decode cX10_happens 78 = .ok (.iload_n 2, 1) := by decide +kernel
theorem dX10_happens_79 : decode cX10_happens 79 = .ok (.invokevirtual 395, 3) := by decide +kernel
theorem dX10_happens_82 : decode cX10_happens 82 = .ok (.goto 36, 3) := by decide +kernel
theorem dX10_happens_85 : decode cX10_happens 85 = .ok (.aload_n 0, 1) := by decide +kernel
theorem dX10_happens_86 : decode cX10_happens 86 = .ok (.getfield 7, 3) := by decide +kernel
theorem dX10_happens_89 : decode cX10_happens 89 = .ok (.bipush 11, 2) := by decide +kernel
theorem dX10_happens_91 : decode cX10_happens 91 = .ok (.iaload, 1) := by decide +kernel
theorem dX10_happens_92 : decode cX10_happens 92 = .ok (.sipush 9999, 3) := by decide +kernel
theorem dX10_happens_95 : decode cX10_happens 95 = .ok (.if_icmp .ge 23, 3) := by decide +kernel
theorem dX10_happens_98 : decode cX10_happens 98 = .ok (.aload_n 0, 1) := by decide +kernel
theorem dX10_happens_99 : decode cX10_happens 99 = .ok (.invokevirtual 398, 3) := by decide +kernel
theorem dX10_happens_102 : decode cX10_happens 102 = .ok (.goto 16, 3) := by decide +kernel
theorem dX10_happens_105 : decode cX10_happens 105 = .ok (.aload_n 0, 1) := by decide +kernel
theorem dX10_happens_106 : decode cX10_happens 106 = .ok (.iload_n 2, 1) := by decide +kernel
theorem dX10_happens_107 : decode cX10_happens 107 = .ok (.invokevirtual 380, 3) := by decide +kernel
theorem dX10_happens_110 : decode cX10_happens 110 = .ok (.ifCond .eq 8, 3) := by decide +kernel
theorem dX10_happens_113 : decode cX10_happens 113 = .ok (.aload_n 0, 1) := by decide +kernel
theorem dX10_happens_114 : decode cX10_happens 114 = .ok (.iload_n 2, 1) := by decide +kernel
theorem dX10_happens_115 : decode cX10_happens 115 = .ok (.invokevirtual 386, 3) := by decide +kernel
theorem dX10_happens_118 : decode cX10_happens 118 = .ok (.return_, 1) := by decide +kernel
theorem dX10_decades_0 : decode cX10_decades 0 = .ok (.iload_n 1, 1) := by decide +kernel
theorem dX10_decades_1 : decode cX10_decades 1 = .ok (.iconst 0, 1) := by decide +kernel
theorem dX10_decades_2 : decode cX10_decades 2 = .ok (.sipush 9999, 3) := by decide +kernel
theorem dX10_decades_5 : decode cX10_decades 5 = .ok (.invokestatic 74, 3) := by decide +kernel
theorem dX10_decades_8 : decode cX10_decades 8 = .ok (.ifCond .eq 22, 3) := by decide +kernel
theorem dX10_decades_11 : decode cX10_decades 11 = .ok (.iload_n 2, 1) := by decide +kernel
theorem dX10_decades_12 : decode cX10_decades 12 = .ok (.iconst 1, 1) := by decide +kernel
theorem dX10_decades_13 : decode cX10_decades 13 = .ok (.bipush 40, 2) := by decide +kernel
theorem dX10_decades_15 : decode cX10_decades 15 = .ok (.invokestatic 74, 3) := by decide +kernel
theorem dX10_decades_18 : decode cX10_decades 18 = .ok (.ifCond .eq 12, 3) := by decide +kernel
theorem dX10_decades_21 : decode cX10_decades 21 = .ok (.aload_n 0, 1) := by decide +kernel
theorem dX10_decades_22 : decode cX10_decades 22 = .ok (.getfield 7, 3) := by decide +kernel
theorem dX10_decades_25 : decode cX10_decades 25 = .ok (.iconst 0, 1) := by decide +kernel
theorem dX10_decades_26 : decode cX10_decades 26 = .ok (.iaload, 1) := by decide +kernel
theorem dX10_decades_27 : decode cX10_decades 27 = .ok (.ifCond .ne 5, 3) := by decide +kernel
theorem dX10_decades_30 : decode cX10_decades 30 = .ok (.iconst (-1), 1) := by decide +kernel
theorem dX10_decades_31 : decode cX10_decades 31 = .ok (.ireturn, 1) := by decide +kernel
theorem dX10_decades_32 : decode cX10_decades 32 = .ok (.aload_n 0, 1) := by decide +kernel
theorem dX10_decades_33 : decode cX10_decades 33 = .ok (.invokevirtual 383, 3) := by decide +kernel
theorem dX10_decades_36 : decode cX10_decades 36 = .ok (.aload_n 0, 1) := by decide +kernel
theorem dX10_decades_37 : decode cX10_decades 37 = .ok (.getfield 7, 3) := by decide +kernel
theorem dX10_decades_40 : decode cX10_decades 40 = .ok (.bipush 12, 2) := by decide +kernel
theorem dX10_decades_42 : decode cX10_decades 42 = .ok (.iload_n 1, 1) := by decide +kernel
theorem dX10_decades_43 : decode cX10_decades 43 = .ok (.iconst 2, 1) := by decide +kernel
theorem dX10_decades_44 : decode cX10_decades 44 = .ok (.imul, 1) := by decide +kernel
theorem dX10_decades_45 : decode cX10_decades 45 = .ok (.bipush 107, 2) := by decide +kernel
theorem dX10_decades_47 : decode cX10_decades 47 = .ok (.iadd, 1) := by decide +kernel
theorem dX10_decades_48 : decode cX10_decades 48 = .ok (.iastore, 1) := by decide +kernel
theorem dX10_decades_49 : decode cX10_decades 49 = .ok (.iconst 0, 1) := by decide +kernel
theorem dX10_decades_50 : decode cX10_decades 50 = .ok (.istore_n 3, 1) := by decide +kernel
theorem dX10_decades_51 : decode cX10_decades 51 = .ok (.iload_n 3, 1) := by decide +kernel
theorem dX10_decades_52 : decode cX10_decades 52 = .ok (.iload_n 2, 1) := by decide +kernel
theorem dX10_decades_53 : decode cX10_decades 53 = .ok (.if_icmp .ge 28, 3) := by decide +kernel
theorem dX10_decades_56 : decode cX10_decades 56 = .ok (.aload_n 0, 1) := by decide +kernel
theorem dX10_decades_57 : decode cX10_decades 57 = .ok (.getfield 7, 3) := by decide +kernel
theorem dX10_decades_60 : decode cX10_decades 60 = .ok (.bipush 12, 2) := by decide +kernel
theorem dX10_decades_62 : decode cX10_decades 62 = .ok (.iaload, 1) := by decide +kernel
theorem dX10_decades_63 : decode cX10_decades 63 = .ok (.istore 4, 2) := by decide +kernel
theorem dX10_decades_65 : decode cX10_decades 65 = .ok (.aload_n 0, 1) := by decide +kernel
theorem dX10_decades_66 : decode cX10_decades 66 = .ok (.invokevirtual 346, 3) := by decide +kernel
theorem dX10_decades_69 : decode cX10_decades 69 = .ok (.aload_n 0, 1) := by decide +kernel
theorem dX10_decades_70 : decode cX10_decades 70 = .ok (.iload 4, 2) := by decide +kernel
theorem dX10_decades_72 : decode cX10_decades 72 = .ok (.invokevirtual 425, 3) := by decide +kernel
theorem dX10_decades_75 : decode cX10_decades 75 = .ok (.iinc 3 1, 3) := by decide +kernel
theorem dX10_decades_78 : decode cX10_decades 78 = .ok (.goto (-27), 3) := by decide +kernel
theorem dX10_decades_81 : decode cX10_decades 81 = .ok (.aload_n 0, 1) := by decide +kernel
theorem dX10_decades_82 : decode cX10_decades 82 = .ok (.getfield 7, 3) := by decide +kernel
theorem dX10_decades_85 : decode cX10_decades 85 = .ok (.bipush 11, 2) := by decide +kernel
theorem dX10_decades_87 : decode cX10_decades 87 = .ok (.iaload, 1) := by decide +kernel
theorem dX10_decades_88 : decode cX10_decades 88 = .ok (.ireturn, 1) := by decide +kernel
theorem dX10_ofCase_0 : decode cX10_ofCase 0 = .ok (.aload_n 0, 1) := by decide +kernel
theorem dX10_ofCase_1 : decode cX10_ofCase 1 = .ok (.iload_n 1, 1) := by decide +kernel
theorem dX10_ofCase_2 : decode cX10_ofCase 2 = .ok (.invokevirtual 78, 3) := by decide +kernel
theorem dX10_ofCase_5 : decode cX10_ofCase 5 = .ok (.ifCond .eq 22, 3) := by decide +kernel
theorem dX10_ofCase_8 : decode cX10_ofCase 8 = .ok (.iload_n 2, 1) := by decide +kernel
theorem dX10_ofCase_9 : decode cX10_ofCase 9 = .ok (.iconst 0, 1) := by decide +kernel
theorem dX10_ofCase_10 : decode cX10_ofCase 10 = .ok (.bipush 6, 2) := by decide +kernel
theorem dX10_ofCase_12 : decode cX10_ofCase 12 = .ok (.invokestatic 74, 3) := by decide +kernel
theorem dX10_ofCase_15 : decode cX10_ofCase 15 = .ok (.ifCond .eq 12, 3) := by decide +kernel
theorem dX10_ofCase_18 : decode cX10_ofCase 18 = .ok (.aload_n 0, 1) := by decide +kernel
theorem dX10_ofCase_19 : decode cX10_ofCase 19 = .ok (.iload_n 1, 1) := by decide +kernel
theorem dX10_ofCase_20 : decode cX10_ofCase 20 = .ok (.iload_n 2, 1) := by decide +kernel
theorem dX10_ofCase_21 : decode cX10_ofCase 21 = .ok (.invokevirtual 82, 3) := by decide +kernel
theorem dX10_ofCase_24 : decode cX10_ofCase 24 = .ok (.goto 4, 3) := by decide +kernel
theorem dX10_ofCase_27 : decode cX10_ofCase 27 = .ok (.iconst (-1), 1) := by decide +kernel
theorem dX10_ofCase_28 : decode cX10_ofCase 28 = .ok (.ireturn, 1) := by decide +kernel
theorem dX10_is_0 : decode cX10_is 0 = .ok (.iload_n 1, 1) := by decide +kernel
theorem dX10_is_1 : decode cX10_is 1 = .ok (.iconst 0, 1) := by decide +kernel
theorem dX10_is_2 : decode cX10_is 2 = .ok (.bipush 8, 2) := by decide +kernel
theorem dX10_is_4 : decode cX10_is 4 = .ok (.invokestatic 74, 3) := by decide +kernel
theorem dX10_is_7 : decode cX10_is 7 = .ok (.ifCond .eq 15, 3) := by decide +kernel
theorem dX10_is_10 : decode cX10_is 10 = .ok (.aload_n 0, 1) := by decide +kernel
theorem dX10_is_11 : decode cX10_is 11 = .ok (.getfield 7, 3) := by decide +kernel
theorem dX10_is_14 : decode cX10_is 14 = .ok (.bipush 8, 2) := by decide +kernel
theorem dX10_is_16 : decode cX10_is 16 = .ok (.iload_n 1, 1) := by decide +kernel
theorem dX10_is_17 : decode cX10_is 17 = .ok (.iadd, 1) := by decide +kernel
theorem dX10_is_18 : decode cX10_is 18 = .ok (.iaload, 1) := by decide +kernel
theorem dX10_is_19 : decode cX10_is 19 = .ok (.goto 5, 3) := by decide +kernel
theorem dX10_is_22 : decode cX10_is 22 = .ok (.bipush (-2), 2) := by decide +kernel
theorem dX10_is_24 : decode cX10_is 24 = .ok (.ireturn, 1) := by decide +kernel
theorem dX10_shown_0 : decode cX10_shown 0 = .ok (.aload_n 0, 1) := by decide +kernel
theorem dX10_shown_1 : decode cX10_shown 1 = .ok (.getfield 7, 3) := by decide +kernel
theorem dX10_shown_4 : decode cX10_shown 4 = .ok (.bipush 17, 2) := by decide +kernel
theorem dX10_shown_6 : decode cX10_shown 6 = .ok (.iaload, 1) := by decide +kernel
theorem dX10_shown_7 : decode cX10_shown 7 = .ok (.bipush 30, 2) := by decide +kernel
theorem dX10_shown_9 : decode cX10_shown 9 = .ok (.if_icmp .ge 13, 3) := by decide +kernel
theorem dX10_shown_12 : decode cX10_shown 12 = .ok (.aload_n 0, 1) := by decide +kernel
theorem dX10_shown_13 : decode cX10_shown 13 = .ok (.getfield 7, 3) := by decide +kernel
theorem dX10_shown_16 : decode cX10_shown 16 = .ok (.bipush 17, 2) := by decide +kernel
theorem dX10_shown_18 : decode cX10_shown 18 = .ok (.iaload, 1) := by decide +kernel
theorem dX10_shown_19 : decode cX10_shown 19 = .ok (.goto 5, 3) := by decide +kernel
theorem dX10_shown_22 : decode cX10_shown 22 = .ok (.bipush 30, 2) := by decide +kernel
theorem dX10_shown_24 : decode cX10_shown 24 = .ok (.ireturn, 1) := by decide +kernel
theorem dX10_book_0 : decode cX10_book 0 = .ok (.iload_n 1, 1) := by decide +kernel
theorem dX10_book_1 : decode cX10_book 1 = .ok (.iconst (-1), 1) := by decide +kernel
theorem dX10_book_2 : decode cX10_book 2 = .ok (.if_icmp .ne 8, 3) := by decide +kernel
theorem dX10_book_5 : decode cX10_book 5 = .ok (.aload_n 0, 1) := by decide +kernel
theorem dX10_book_6 : decode cX10_book 6 = .ok (.invokevirtual 428, 3) := by decide +kernel
theorem dX10_book_9 : decode cX10_book 9 = .ok (.ireturn, 1) := by decide +kernel
theorem dX10_book_10 : decode cX10_book 10 = .ok (.iload_n 1, 1) := by decide +kernel
theorem dX10_book_11 : decode cX10_book 11 = .ok (.iconst 0, 1) := by decide +kernel
theorem dX10_book_12 : decode cX10_book 12 = .ok (.aload_n 0, 1) := by decide +kernel
theorem dX10_book_13 : decode cX10_book 13 = .ok (.invokevirtual 428, 3) := by decide +kernel
theorem dX10_book_16 : decode cX10_book 16 = .ok (.iconst 1, 1) := by decide +kernel
theorem dX10_book_17 : decode cX10_book 17 = .ok (.isub, 1) := by decide +kernel
theorem dX10_book_18 : decode cX10_book 18 = .ok (.invokestatic 74, 3) := by decide +kernel
theorem dX10_book_21 : decode cX10_book 21 = .ok (.ifCond .ne 6, 3) := by decide +kernel
theorem dX10_book_24 : decode cX10_book 24 = .ok (.bipush (-2), 2) := by decide +kernel
theorem dX10_book_26 : decode cX10_book 26 = .ok (.ireturn, 1) := by decide +kernel
theorem dX10_book_27 : decode cX10_book 27 = .ok (.sipush 1182, 3) := by decide +kernel
theorem dX10_book_30 : decode cX10_book 30 = .ok (.iconst 2, 1) := by decide +kernel
theorem dX10_book_31 : decode cX10_book 31 = .ok (.aload_n 0, 1) := by decide +kernel
theorem dX10_book_32 : decode cX10_book 32 = .ok (.getfield 7, 3) := by decide +kernel
theorem dX10_book_35 : decode cX10_book 35 = .ok (.bipush 17, 2) := by decide +kernel
theorem dX10_book_37 : decode cX10_book 37 = .ok (.iaload, 1) := by decide +kernel
theorem dX10_book_38 : decode cX10_book 38 = .ok (.aload_n 0, 1) := by decide +kernel
theorem dX10_book_39 : decode cX10_book 39 = .ok (.invokevirtual 428, 3) := by decide +kernel
theorem dX10_book_42 : decode cX10_book 42 = .ok (.isub, 1) := by decide +kernel
theorem dX10_book_43 : decode cX10_book 43 = .ok (.iload_n 1, 1) := by decide +kernel
theorem dX10_book_44 : decode cX10_book 44 = .ok (.iadd, 1) := by decide +kernel
theorem dX10_book_45 : decode cX10_book 45 = .ok (.sipush 1230, 3) := by decide +kernel
theorem dX10_book_48 : decode cX10_book 48 = .ok (.irem, 1) := by decide +kernel
theorem dX10_book_49 : decode cX10_book 49 = .ok (.imul, 1) := by decide +kernel
theorem dX10_book_50 : decode cX10_book 50 = .ok (.iadd, 1) := by decide +kernel
theorem dX10_book_51 : decode cX10_book 51 = .ok (.istore_n 3, 1) := by decide +kernel
theorem dX10_book_52 : decode cX10_book 52 = .ok (.iload_n 2, 1) := by decide +kernel
theorem dX10_book_53 : decode cX10_book 53 = .ok (.tableswitch 77 0 3 #[31, 41, 51, 64], 31) := by decide +kernel
theorem dX10_book_84 : decode cX10_book 84 = .ok (.aload_n 0, 1) := by decide +kernel
theorem dX10_book_85 : decode cX10_book 85 = .ok (.getfield 7, 3) := by decide +kernel
theorem dX10_book_88 : decode cX10_book 88 = .ok (.iload_n 3, 1) := by decide +kernel
theorem dX10_book_89 : decode cX10_book 89 = .ok (.iaload, 1) := by decide +kernel
theorem dX10_book_90 : decode cX10_book 90 = .ok (.bipush 8, 2) := by decide +kernel
theorem dX10_book_92 : decode cX10_book 92 = .ok (.idiv, 1) := by decide +kernel
theorem dX10_book_93 : decode cX10_book 93 = .ok (.ireturn, 1) := by decide +kernel
theorem dX10_book_94 : decode cX10_book 94 = .ok (.aload_n 0, 1) := by decide +kernel
theorem dX10_book_95 : decode cX10_book 95 = .ok (.getfield 7, 3) := by decide +kernel
theorem dX10_book_98 : decode cX10_book 98 = .ok (.iload_n 3, 1) := by decide +kernel
theorem dX10_book_99 : decode cX10_book 99 = .ok (.iaload, 1) := by decide +kernel
theorem dX10_book_100 : decode cX10_book 100 = .ok (.bipush 8, 2) := by decide +kernel
theorem dX10_book_102 : decode cX10_book 102 = .ok (.irem, 1) := by decide +kernel
theorem dX10_book_103 : decode cX10_book 103 = .ok (.ireturn, 1) := by decide +kernel
theorem dX10_book_104 : decode cX10_book 104 = .ok (.aload_n 0, 1) := by decide +kernel
theorem dX10_book_105 : decode cX10_book 105 = .ok (.getfield 7, 3) := by decide +kernel
theorem dX10_book_108 : decode cX10_book 108 = .ok (.iload_n 3, 1) := by decide +kernel
theorem dX10_book_109 : decode cX10_book 109 = .ok (.iconst 1, 1) := by decide +kernel
theorem dX10_book_110 : decode cX10_book 110 = .ok (.iadd, 1) := by decide +kernel
theorem dX10_book_111 : decode cX10_book 111 = .ok (.iaload, 1) := by decide +kernel
theorem dX10_book_112 : decode cX10_book 112 = .ok (.sipush 1000, 3) := by decide +kernel
theorem dX10_book_115 : decode cX10_book 115 = .ok (.idiv, 1) := by decide +kernel
theorem dX10_book_116 : decode cX10_book 116 = .ok (.ireturn, 1) := by decide +kernel
theorem dX10_book_117 : decode cX10_book 117 = .ok (.aload_n 0, 1) := by decide +kernel
theorem dX10_book_118 : decode cX10_book 118 = .ok (.getfield 7, 3) := by decide +kernel
theorem dX10_book_121 : decode cX10_book 121 = .ok (.iload_n 3, 1) := by decide +kernel
theorem dX10_book_122 : decode cX10_book 122 = .ok (.iconst 1, 1) := by decide +kernel
theorem dX10_book_123 : decode cX10_book 123 = .ok (.iadd, 1) := by decide +kernel
theorem dX10_book_124 : decode cX10_book 124 = .ok (.iaload, 1) := by decide +kernel
theorem dX10_book_125 : decode cX10_book 125 = .ok (.sipush 1000, 3) := by decide +kernel
theorem dX10_book_128 : decode cX10_book 128 = .ok (.irem, 1) := by decide +kernel
theorem dX10_book_129 : decode cX10_book 129 = .ok (.ireturn, 1) := by decide +kernel
theorem dX10_book_130 : decode cX10_book 130 = .ok (.bipush (-2), 2) := by decide +kernel
theorem dX10_book_132 : decode cX10_book 132 = .ok (.ireturn, 1) := by decide +kernel
theorem dX10_begin_0 : decode cX10_begin 0 = .ok (.iconst 0, 1) := by decide +kernel
theorem dX10_begin_1 : decode cX10_begin 1 = .ok (.istore_n 1, 1) := by decide +kernel
theorem dX10_begin_2 : decode cX10_begin 2 = .ok (.iload_n 1, 1) := by decide +kernel
theorem dX10_begin_3 : decode cX10_begin 3 = .ok (.iconst 5, 1) := by decide +kernel
theorem dX10_begin_4 : decode cX10_begin 4 = .ok (.if_icmp .ge 24, 3) := by decide +kernel
theorem dX10_begin_7 : decode cX10_begin 7 = .ok (.aload_n 0, 1) := by decide +kernel
theorem dX10_begin_8 : decode cX10_begin 8 = .ok (.getfield 55, 3) := by decide +kernel
theorem dX10_begin_11 : decode cX10_begin 11 = .ok (.iload_n 1, 1) := by decide +kernel
theorem dX10_begin_12 : decode cX10_begin 12 = .ok (.aload_n 0, 1) := by decide +kernel
theorem dX10_begin_13 : decode cX10_begin 13 = .ok (.getfield 7, 3) := by decide +kernel
theorem dX10_begin_16 : decode cX10_begin 16 = .ok (.bipush 8, 2) := by decide +kernel
theorem dX10_begin_18 : decode cX10_begin 18 = .ok (.iload_n 1, 1) := by decide +kernel
theorem dX10_begin_19 : decode cX10_begin 19 = .ok (.iadd, 1) := by decide +kernel
theorem dX10_begin_20 : decode cX10_begin 20 = .ok (.iaload, 1) := by decide +kernel
theorem dX10_begin_21 : decode cX10_begin 21 = .ok (.iastore, 1) := by decide +kernel
theorem dX10_begin_22 : decode cX10_begin 22 = .ok (.iinc 1 1, 3) := by decide +kernel
theorem dX10_begin_25 : decode cX10_begin 25 = .ok (.goto (-23), 3) := by decide +kernel
theorem dX10_begin_28 : decode cX10_begin 28 = .ok (.return_, 1) := by decide +kernel
theorem dX10_putBack_0 : decode cX10_putBack 0 = .ok (.iconst 0, 1) := by decide +kernel
theorem dX10_putBack_1 : decode cX10_putBack 1 = .ok (.istore_n 1, 1) := by decide +kernel
theorem dX10_putBack_2 : decode cX10_putBack 2 = .ok (.iload_n 1, 1) := by decide +kernel
theorem dX10_putBack_3 : decode cX10_putBack 3 = .ok (.iconst 5, 1) := by decide +kernel
theorem dX10_putBack_4 : decode cX10_putBack 4 = .ok (.if_icmp .ge 24, 3) := by decide +kernel
theorem dX10_putBack_7 : decode cX10_putBack 7 = .ok (.aload_n 0, 1) := by decide +kernel
theorem dX10_putBack_8 : decode cX10_putBack 8 = .ok (.getfield 7, 3) := by decide +kernel
theorem dX10_putBack_11 : decode cX10_putBack 11 = .ok (.bipush 8, 2) := by decide +kernel
theorem dX10_putBack_13 : decode cX10_putBack 13 = .ok (.iload_n 1, 1) := by decide +kernel
theorem dX10_putBack_14 : decode cX10_putBack 14 = .ok (.iadd, 1) := by decide +kernel
theorem dX10_putBack_15 : decode cX10_putBack 15 = .ok (.aload_n 0, 1) := by decide +kernel
theorem dX10_putBack_16 : decode cX10_putBack 16 = .ok (.getfield 55, 3) := by decide +kernel
theorem dX10_putBack_19 : decode cX10_putBack 19 = .ok (.iload_n 1, 1) := by decide +kernel
theorem dX10_putBack_20 : decode cX10_putBack 20 = .ok (.iaload, 1) := by decide +kernel
theorem dX10_putBack_21 : decode cX10_putBack 21 = .ok (.iastore, 1) := by decide +kernel
theorem dX10_putBack_22 : decode cX10_putBack 22 = .ok (.iinc 1 1, 3) := by decide +kernel
theorem dX10_putBack_25 : decode cX10_putBack 25 = .ok (.goto (-23), 3) := by decide +kernel
theorem dX10_putBack_28 : decode cX10_putBack 28 = .ok (.return_, 1) := by decide +kernel
theorem dX10_layWinds_0 : decode cX10_layWinds 0 = .ok (.aload_n 0, 1) := by decide +kernel
theorem dX10_layWinds_1 : decode cX10_layWinds 1 = .ok (.invokevirtual 431, 3) := by decide +kernel
theorem dX10_layWinds_4 : decode cX10_layWinds 4 = .ok (.iconst 0, 1) := by decide +kernel
theorem dX10_layWinds_5 : decode cX10_layWinds 5 = .ok (.istore_n 2, 1) := by decide +kernel
theorem dX10_layWinds_6 : decode cX10_layWinds 6 = .ok (.iconst 1, 1) := by decide +kernel
theorem dX10_layWinds_7 : decode cX10_layWinds 7 = .ok (.istore_n 3, 1) := by decide +kernel
theorem dX10_layWinds_8 : decode cX10_layWinds 8 = .ok (.iload_n 3, 1) := by decide +kernel
theorem dX10_layWinds_9 : decode cX10_layWinds 9 = .ok (.ifCond .eq 86, 3) := by decide +kernel
theorem dX10_layWinds_12 : decode cX10_layWinds 12 = .ok (.aload_n 0, 1) := by decide +kernel
theorem dX10_layWinds_13 : decode cX10_layWinds 13 = .ok (.getfield 46, 3) := by decide +kernel
theorem dX10_layWinds_16 : decode cX10_layWinds 16 = .ok (.iload_n 2, 1) := by decide +kernel
theorem dX10_layWinds_17 : decode cX10_layWinds 17 = .ok (.aload_n 0, 1) := by decide +kernel
theorem dX10_layWinds_18 : decode cX10_layWinds 18 = .ok (.getfield 7, 3) := by decide +kernel
theorem dX10_layWinds_21 : decode cX10_layWinds 21 = .ok (.bipush 8, 2) := by decide +kernel
theorem dX10_layWinds_23 : decode cX10_layWinds 23 = .ok (.iaload, 1) := by decide +kernel
theorem dX10_layWinds_24 : decode cX10_layWinds 24 = .ok (.iastore, 1) := by decide +kernel
theorem dX10_layWinds_25 : decode cX10_layWinds 25 = .ok (.aload_n 0, 1) := by decide +kernel
theorem dX10_layWinds_26 : decode cX10_layWinds 26 = .ok (.getfield 49, 3) := by decide +kernel
theorem dX10_layWinds_29 : decode cX10_layWinds 29 = .ok (.iload_n 2, 1) := by decide +kernel
theorem dX10_layWinds_30 : decode cX10_layWinds 30 = .ok (.aload_n 0, 1) := by decide +kernel
theorem dX10_layWinds_31 : decode cX10_layWinds 31 = .ok (.getfield 7, 3) := by decide +kernel
theorem dX10_layWinds_34 : decode cX10_layWinds 34 = .ok (.bipush 9, 2) := by decide +kernel
theorem dX10_layWinds_36 : decode cX10_layWinds 36 = .ok (.iaload, 1) := by decide +kernel
theorem dX10_layWinds_37 : decode cX10_layWinds 37 = .ok (.iastore, 1) := by decide +kernel
theorem dX10_layWinds_38 : decode cX10_layWinds 38 = .ok (.aload_n 0, 1) := by decide +kernel
theorem dX10_layWinds_39 : decode cX10_layWinds 39 = .ok (.getfield 52, 3) := by decide +kernel
theorem dX10_layWinds_42 : decode cX10_layWinds 42 = .ok (.iload_n 2, 1) := by decide +kernel
theorem dX10_layWinds_43 : decode cX10_layWinds 43 = .ok (.aload_n 0, 1) := by decide +kernel
theorem dX10_layWinds_44 : decode cX10_layWinds 44 = .ok (.getfield 7, 3) := by decide +kernel
theorem dX10_layWinds_47 : decode cX10_layWinds 47 = .ok (.bipush 10, 2) := by decide +kernel
theorem dX10_layWinds_49 : decode cX10_layWinds 49 = .ok (.iaload, 1) := by decide +kernel
theorem dX10_layWinds_50 : decode cX10_layWinds 50 = .ok (.iastore, 1) := by decide +kernel
theorem dX10_layWinds_51 : decode cX10_layWinds 51 = .ok (.iinc 2 1, 3) := by decide +kernel
theorem dX10_layWinds_54 : decode cX10_layWinds 54 = .ok (.iload_n 2, 1) := by decide +kernel
theorem dX10_layWinds_55 : decode cX10_layWinds 55 = .ok (.iload_n 1, 1) := by decide +kernel
theorem dX10_layWinds_56 : decode cX10_layWinds 56 = .ok (.if_icmp .ge 20, 3) := by decide +kernel
theorem dX10_layWinds_59 : decode cX10_layWinds 59 = .ok (.aload_n 0, 1) := by decide +kernel
theorem dX10_layWinds_60 : decode cX10_layWinds 60 = .ok (.getfield 7, 3) := by decide +kernel
theorem dX10_layWinds_63 : decode cX10_layWinds 63 = .ok (.bipush 11, 2) := by decide +kernel
theorem dX10_layWinds_65 : decode cX10_layWinds 65 = .ok (.iaload, 1) := by decide +kernel
theorem dX10_layWinds_66 : decode cX10_layWinds 66 = .ok (.sipush 9999, 3) := by decide +kernel
theorem dX10_layWinds_69 : decode cX10_layWinds 69 = .ok (.if_icmp .ge 7, 3) := by decide +kernel
theorem dX10_layWinds_72 : decode cX10_layWinds 72 = .ok (.iconst 1, 1) := by decide +kernel
theorem dX10_layWinds_73 : decode cX10_layWinds 73 = .ok (.goto 4, 3) := by decide +kernel
theorem dX10_layWinds_76 : decode cX10_layWinds 76 = .ok (.iconst 0, 1) := by decide +kernel
theorem dX10_layWinds_77 : decode cX10_layWinds 77 = .ok (.istore_n 3, 1) := by decide +kernel
theorem dX10_layWinds_78 : decode cX10_layWinds 78 = .ok (.iload_n 3, 1) := by decide +kernel
theorem dX10_layWinds_79 : decode cX10_layWinds 79 = .ok (.ifCond .eq (-71), 3) := by decide +kernel
theorem dX10_layWinds_82 : decode cX10_layWinds 82 = .ok (.aload_n 0, 1) := by decide +kernel
theorem dX10_layWinds_83 : decode cX10_layWinds 83 = .ok (.aload_n 0, 1) := by decide +kernel
theorem dX10_layWinds_84 : decode cX10_layWinds 84 = .ok (.bipush 10, 2) := by decide +kernel
theorem dX10_layWinds_86 : decode cX10_layWinds 86 = .ok (.invokevirtual 371, 3) := by decide +kernel
theorem dX10_layWinds_89 : decode cX10_layWinds 89 = .ok (.invokevirtual 374, 3) := by decide +kernel
theorem dX10_layWinds_92 : decode cX10_layWinds 92 = .ok (.goto (-84), 3) := by decide +kernel
theorem dX10_layWinds_95 : decode cX10_layWinds 95 = .ok (.aload_n 0, 1) := by decide +kernel
theorem dX10_layWinds_96 : decode cX10_layWinds 96 = .ok (.invokevirtual 434, 3) := by decide +kernel
theorem dX10_layWinds_99 : decode cX10_layWinds 99 = .ok (.iload_n 2, 1) := by decide +kernel
theorem dX10_layWinds_100 : decode cX10_layWinds 100 = .ok (.ireturn, 1) := by decide +kernel
theorem dX10_foretold_0 : decode cX10_foretold 0 = .ok (.iload_n 1, 1) := by decide +kernel
theorem dX10_foretold_1 : decode cX10_foretold 1 = .ok (.iconst 1, 1) := by decide +kernel
theorem dX10_foretold_2 : decode cX10_foretold 2 = .ok (.bipush 60, 2) := by decide +kernel
theorem dX10_foretold_4 : decode cX10_foretold 4 = .ok (.invokestatic 74, 3) := by decide +kernel
theorem dX10_foretold_7 : decode cX10_foretold 7 = .ok (.ifCond .eq 12, 3) := by decide +kernel
theorem dX10_foretold_10 : decode cX10_foretold 10 = .ok (.iload_n 2, 1) := by decide +kernel
theorem dX10_foretold_11 : decode cX10_foretold 11 = .ok (.iconst 0, 1) := by decide +kernel
theorem dX10_foretold_12 : decode cX10_foretold 12 = .ok (.iconst 2, 1) := by decide +kernel
theorem dX10_foretold_13 : decode cX10_foretold 13 = .ok (.invokestatic 74, 3) := by decide +kernel
theorem dX10_foretold_16 : decode cX10_foretold 16 = .ok (.ifCond .ne 5, 3) := by decide +kernel
theorem dX10_foretold_19 : decode cX10_foretold 19 = .ok (.iconst (-1), 1) := by decide +kernel
theorem dX10_foretold_20 : decode cX10_foretold 20 = .ok (.ireturn, 1) := by decide +kernel
theorem dX10_foretold_21 : decode cX10_foretold 21 = .ok (.aload_n 0, 1) := by decide +kernel
theorem dX10_foretold_22 : decode cX10_foretold 22 = .ok (.iload_n 1, 1) := by decide +kernel
theorem dX10_foretold_23 : decode cX10_foretold 23 = .ok (.iconst 1, 1) := by decide +kernel
theorem dX10_foretold_24 : decode cX10_foretold 24 = .ok (.iadd, 1) := by decide +kernel
theorem dX10_foretold_25 : decode cX10_foretold 25 = .ok (.invokevirtual 437, 3) := by decide +kernel
theorem dX10_foretold_28 : decode cX10_foretold 28 = .ok (.iconst 1, 1) := by decide +kernel
theorem dX10_foretold_29 : decode cX10_foretold 29 = .ok (.isub, 1) := by decide +kernel
theorem dX10_foretold_30 : decode cX10_foretold 30 = .ok (.istore_n 3, 1) := by decide +kernel
theorem dX10_foretold_31 : decode cX10_foretold 31 = .ok (.iload_n 2, 1) := by decide +kernel
theorem dX10_foretold_32 : decode cX10_foretold 32 = .ok (.ifCond .ne 12, 3) := by decide +kernel
theorem dX10_foretold_35 : decode cX10_foretold 35 = .ok (.aload_n 0, 1) := by decide +kernel
theorem dX10_foretold_36 : decode cX10_foretold 36 = .ok (.getfield 46, 3) := by decide +kernel
theorem dX10_foretold_39 : decode cX10_foretold 39 = .ok (.iload_n 3, 1) := by decide +kernel
theorem dX10_foretold_40 : decode cX10_foretold 40 = .ok (.iaload, 1) := by decide +kernel
theorem dX10_foretold_41 : decode cX10_foretold 41 = .ok (.goto 23, 3) := by decide +kernel
theorem dX10_foretold_44 : decode cX10_foretold 44 = .ok (.iload_n 2, 1) := by decide +kernel
theorem dX10_foretold_45 : decode cX10_foretold 45 = .ok (.iconst 1, 1) := by decide +kernel
theorem dX10_foretold_46 : decode cX10_foretold 46 = .ok (.if_icmp .ne 12, 3) := by decide +kernel
theorem dX10_foretold_49 : decode cX10_foretold 49 = .ok (.aload_n 0, 1) := by decide +kernel
theorem dX10_foretold_50 : decode cX10_foretold 50 = .ok (.getfield 49, 3) := by decide +kernel
theorem dX10_foretold_53 : decode cX10_foretold 53 = .ok (.iload_n 3, 1) := by decide +kernel
theorem dX10_foretold_54 : decode cX10_foretold 54 = .ok (.iaload, 1) := by decide +kernel
theorem dX10_foretold_55 : decode cX10_foretold 55 = .ok (.goto 9, 3) := by decide +kernel
theorem dX10_foretold_58 : decode cX10_foretold 58 = .ok (.aload_n 0, 1) := by decide +kernel
theorem dX10_foretold_59 : decode cX10_foretold 59 = .ok (.getfield 52, 3) := by decide +kernel
theorem dX10_foretold_62 : decode cX10_foretold 62 = .ok (.iload_n 3, 1) := by decide +kernel
theorem dX10_foretold_63 : decode cX10_foretold 63 = .ok (.iaload, 1) := by decide +kernel
theorem dX10_foretold_64 : decode cX10_foretold 64 = .ok (.ireturn, 1) := by decide +kernel
theorem dX10_isEnding_0 : decode cX10_isEnding 0 = .ok (.aload_n 0, 1) := by decide +kernel
theorem dX10_isEnding_1 : decode cX10_isEnding 1 = .ok (.iload_n 1, 1) := by decide +kernel
theorem dX10_isEnding_2 : decode cX10_isEnding 2 = .ok (.iconst 2, 1) := by decide +kernel
theorem dX10_isEnding_3 : decode cX10_isEnding 3 = .ok (.invokevirtual 82, 3) := by decide +kernel
theorem dX10_isEnding_6 : decode cX10_isEnding 6 = .ok (.iload_n 3, 1) := by decide +kernel
theorem dX10_isEnding_7 : decode cX10_isEnding 7 = .ok (.iadd, 1) := by decide +kernel
theorem dX10_isEnding_8 : decode cX10_isEnding 8 = .ok (.istore 4, 2) := by decide +kernel
theorem dX10_isEnding_10 : decode cX10_isEnding 10 = .ok (.aload_n 0, 1) := by decide +kernel
theorem dX10_isEnding_11 : decode cX10_isEnding 11 = .ok (.getfield 7, 3) := by decide +kernel
theorem dX10_isEnding_14 : decode cX10_isEnding 14 = .ok (.bipush 11, 2) := by decide +kernel
theorem dX10_isEnding_16 : decode cX10_isEnding 16 = .ok (.iaload, 1) := by decide +kernel
theorem dX10_isEnding_17 : decode cX10_isEnding 17 = .ok (.iload_n 2, 1) := by decide +kernel
theorem dX10_isEnding_18 : decode cX10_isEnding 18 = .ok (.iadd, 1) := by decide +kernel
theorem dX10_isEnding_19 : decode cX10_isEnding 19 = .ok (.iload 4, 2) := by decide +kernel
theorem dX10_isEnding_21 : decode cX10_isEnding 21 = .ok (.iadd, 1) := by decide +kernel
theorem dX10_isEnding_22 : decode cX10_isEnding 22 = .ok (.sipush 9999, 3) := by decide +kernel
theorem dX10_isEnding_25 : decode cX10_isEnding 25 = .ok (.if_icmp .le 5, 3) := by decide +kernel
theorem dX10_isEnding_28 : decode cX10_isEnding 28 = .ok (.iconst 0, 1) := by decide +kernel
theorem dX10_isEnding_29 : decode cX10_isEnding 29 = .ok (.ireturn, 1) := by decide +kernel
theorem dX10_isEnding_30 : decode cX10_isEnding 30 = .ok (.iconst 0, 1) := by decide +kernel
theorem dX10_isEnding_31 : decode cX10_isEnding 31 = .ok (.istore 5, 2) := by decide +kernel
theorem dX10_isEnding_33 : decode cX10_isEnding 33 = .ok (.iload_n 2, 1) := by decide +kernel
theorem dX10_isEnding_34 : decode cX10_isEnding 34 = .ok (.istore 6, 2) := by decide +kernel
theorem dX10_isEnding_36 : decode cX10_isEnding 36 = .ok (.iload 6, 2) := by decide +kernel
theorem dX10_isEnding_38 : decode cX10_isEnding 38 = .ok (.iload_n 2, 1) := by decide +kernel
theorem dX10_isEnding_39 : decode cX10_isEnding 39 = .ok (.iload 4, 2) := by decide +kernel
theorem dX10_isEnding_41 : decode cX10_isEnding 41 = .ok (.iadd, 1) := by decide +kernel
theorem dX10_isEnding_42 : decode cX10_isEnding 42 = .ok (.if_icmp .ge 23, 3) := by decide +kernel
theorem dX10_isEnding_45 : decode cX10_isEnding 45 = .ok (.iload 5, 2) := by decide +kernel
theorem dX10_isEnding_47 : decode cX10_isEnding 47 = .ok (.iconst 1, 1) := by decide +kernel
theorem dX10_isEnding_48 : decode cX10_isEnding 48 = .ok (.aload_n 0, 1) := by decide +kernel
theorem dX10_isEnding_49 : decode cX10_isEnding 49 = .ok (.getfield 46, 3) := by decide +kernel
theorem dX10_isEnding_52 : decode cX10_isEnding 52 = .ok (.iload 6, 2) := by decide +kernel
theorem dX10_isEnding_54 : decode cX10_isEnding 54 = .ok (.iaload, 1) := by decide +kernel
theorem dX10_isEnding_55 : decode cX10_isEnding 55 = .ok (.ishl, 1) := by decide +kernel
theorem dX10_isEnding_56 : decode cX10_isEnding 56 = .ok (.ior, 1) := by decide +kernel
theorem dX10_isEnding_57 : decode cX10_isEnding 57 = .ok (.istore 5, 2) := by decide +kernel
theorem dX10_isEnding_59 : decode cX10_isEnding 59 = .ok (.iinc 6 1, 3) := by decide +kernel
theorem dX10_isEnding_62 : decode cX10_isEnding 62 = .ok (.goto (-26), 3) := by decide +kernel
theorem dX10_isEnding_65 : decode cX10_isEnding 65 = .ok (.aload_n 0, 1) := by decide +kernel
theorem dX10_isEnding_66 : decode cX10_isEnding 66 = .ok (.invokevirtual 431, 3) := by decide +kernel
theorem dX10_isEnding_69 : decode cX10_isEnding 69 = .ok (.aload_n 0, 1) := by decide +kernel
theorem dX10_isEnding_70 : decode cX10_isEnding 70 = .ok (.getfield 7, 3) := by decide +kernel
theorem dX10_isEnding_73 : decode cX10_isEnding 73 = .ok (.bipush 11, 2) := by decide +kernel
theorem dX10_isEnding_75 : decode cX10_isEnding 75 = .ok (.dup2, 1) := by decide +kernel
theorem dX10_isEnding_76 : decode cX10_isEnding 76 = .ok (.iaload, 1) := by decide +kernel
theorem dX10_isEnding_77 : decode cX10_isEnding 77 = .ok (.iload_n 2, 1) := by decide +kernel
theorem dX10_isEnding_78 : decode cX10_isEnding 78 = .ok (.iload 4, 2) := by decide +kernel
theorem dX10_isEnding_80 : decode cX10_isEnding 80 = .ok (.iadd, 1) := by decide +kernel
theorem dX10_isEnding_81 : decode cX10_isEnding 81 = .ok (.iconst 1, 1) := by decide +kernel
theorem dX10_isEnding_82 : decode cX10_isEnding 82 = .ok (.isub, 1) := by decide +kernel
theorem dX10_isEnding_83 : decode cX10_isEnding 83 = .ok (.iadd, 1) := by decide +kernel
theorem dX10_isEnding_84 : decode cX10_isEnding 84 = .ok (.iastore, 1) := by decide +kernel
theorem dX10_isEnding_85 : decode cX10_isEnding 85 = .ok (.aload_n 0, 1) := by decide +kernel
theorem dX10_isEnding_86 : decode cX10_isEnding 86 = .ok (.getfield 7, 3) := by decide +kernel
theorem dX10_isEnding_89 : decode cX10_isEnding 89 = .ok (.bipush 8, 2) := by decide +kernel
theorem dX10_isEnding_91 : decode cX10_isEnding 91 = .ok (.aload_n 0, 1) := by decide +kernel
theorem dX10_isEnding_92 : decode cX10_isEnding 92 = .ok (.getfield 46, 3) := by decide +kernel
theorem dX10_isEnding_95 : decode cX10_isEnding 95 = .ok (.iload_n 2, 1) := by decide +kernel
theorem dX10_isEnding_96 : decode cX10_isEnding 96 = .ok (.iload 4, 2) := by decide +kernel
theorem dX10_isEnding_98 : decode cX10_isEnding 98 = .ok (.iadd, 1) := by decide +kernel
theorem dX10_isEnding_99 : decode cX10_isEnding 99 = .ok (.iconst 1, 1) := by decide +kernel
theorem dX10_isEnding_100 : decode cX10_isEnding 100 = .ok (.isub, 1) := by decide +kernel
theorem dX10_isEnding_101 : decode cX10_isEnding 101 = .ok (.iaload, 1) := by decide +kernel
theorem dX10_isEnding_102 : decode cX10_isEnding 102 = .ok (.iastore, 1) := by decide +kernel
theorem dX10_isEnding_103 : decode cX10_isEnding 103 = .ok (.aload_n 0, 1) := by decide +kernel
theorem dX10_isEnding_104 : decode cX10_isEnding 104 = .ok (.getfield 7, 3) := by decide +kernel
theorem dX10_isEnding_107 : decode cX10_isEnding 107 = .ok (.bipush 9, 2) := by decide +kernel
theorem dX10_isEnding_109 : decode cX10_isEnding 109 = .ok (.aload_n 0, 1) := by decide +kernel
theorem dX10_isEnding_110 : decode cX10_isEnding 110 = .ok (.getfield 49, 3) := by decide +kernel
theorem dX10_isEnding_113 : decode cX10_isEnding 113 = .ok (.iload_n 2, 1) := by decide +kernel
theorem dX10_isEnding_114 : decode cX10_isEnding 114 = .ok (.iload 4, 2) := by decide +kernel
theorem dX10_isEnding_116 : decode cX10_isEnding 116 = .ok (.iadd, 1) := by decide +kernel
theorem dX10_isEnding_117 : decode cX10_isEnding 117 = .ok (.iconst 1, 1) := by decide +kernel
theorem dX10_isEnding_118 : decode cX10_isEnding 118 = .ok (.isub, 1) := by decide +kernel
theorem dX10_isEnding_119 : decode cX10_isEnding 119 = .ok (.iaload, 1) := by decide +kernel
theorem dX10_isEnding_120 : decode cX10_isEnding 120 = .ok (.iastore, 1) := by decide +kernel
theorem dX10_isEnding_121 : decode cX10_isEnding 121 = .ok (.aload_n 0, 1) := by decide +kernel
theorem dX10_isEnding_122 : decode cX10_isEnding 122 = .ok (.getfield 7, 3) := by decide +kernel
theorem dX10_isEnding_125 : decode cX10_isEnding 125 = .ok (.bipush 10, 2) := by decide +kernel
theorem dX10_isEnding_127 : decode cX10_isEnding 127 = .ok (.aload_n 0, 1) := by decide +kernel
theorem dX10_isEnding_128 : decode cX10_isEnding 128 = .ok (.getfield 52, 3) := by decide +kernel
theorem dX10_isEnding_131 : decode cX10_isEnding 131 = .ok (.iload_n 2, 1) := by decide +kernel
theorem dX10_isEnding_132 : decode cX10_isEnding 132 = .ok (.iload 4, 2) := by decide +kernel
theorem dX10_isEnding_134 : decode cX10_isEnding 134 = .ok (.iadd, 1) := by decide +kernel
theorem dX10_isEnding_135 : decode cX10_isEnding 135 = .ok (.iconst 1, 1) := by decide +kernel
theorem dX10_isEnding_136 : decode cX10_isEnding 136 = .ok (.isub, 1) := by decide +kernel
theorem dX10_isEnding_137 : decode cX10_isEnding 137 = .ok (.iaload, 1) := by decide +kernel
theorem dX10_isEnding_138 : decode cX10_isEnding 138 = .ok (.iastore, 1) := by decide +kernel
theorem dX10_isEnding_139 : decode cX10_isEnding 139 = .ok (.aload_n 0, 1) := by decide +kernel
theorem dX10_isEnding_140 : decode cX10_isEnding 140 = .ok (.aload_n 0, 1) := by decide +kernel
theorem dX10_isEnding_141 : decode cX10_isEnding 141 = .ok (.iload_n 1, 1) := by decide +kernel
theorem dX10_isEnding_142 : decode cX10_isEnding 142 = .ok (.iload 4, 2) := by decide +kernel
theorem dX10_isEnding_144 : decode cX10_isEnding 144 = .ok (.iload 5, 2) := by decide +kernel
theorem dX10_isEnding_146 : decode cX10_isEnding 146 = .ok (.invokevirtual 356, 3) := by decide +kernel
theorem dX10_isEnding_149 : decode cX10_isEnding 149 = .ok (.putfield 440, 3) := by decide +kernel
theorem dX10_isEnding_152 : decode cX10_isEnding 152 = .ok (.aload_n 0, 1) := by decide +kernel
theorem dX10_isEnding_153 : decode cX10_isEnding 153 = .ok (.aload_n 0, 1) := by decide +kernel
theorem dX10_isEnding_154 : decode cX10_isEnding 154 = .ok (.getfield 440, 3) := by decide +kernel
theorem dX10_isEnding_157 : decode cX10_isEnding 157 = .ok (.ifCond .eq 15, 3) := by decide +kernel
theorem dX10_isEnding_160 : decode cX10_isEnding 160 = .ok (.aload_n 0, 1) := by decide +kernel
theorem dX10_isEnding_161 : decode cX10_isEnding 161 = .ok (.iload_n 1, 1) := by decide +kernel
theorem dX10_isEnding_162 : decode cX10_isEnding 162 = .ok (.iload 4, 2) := by decide +kernel
theorem dX10_isEnding_164 : decode cX10_isEnding 164 = .ok (.iload 5, 2) := by decide +kernel
theorem dX10_isEnding_166 : decode cX10_isEnding 166 = .ok (.invokevirtual 359, 3) := by decide +kernel
theorem dX10_isEnding_169 : decode cX10_isEnding 169 = .ok (.goto 4, 3) := by decide +kernel
theorem dX10_isEnding_172 : decode cX10_isEnding 172 = .ok (.iconst 0, 1) := by decide +kernel
theorem dX10_isEnding_173 : decode cX10_isEnding 173 = .ok (.putfield 443, 3) := by decide +kernel
theorem dX10_isEnding_176 : decode cX10_isEnding 176 = .ok (.aload_n 0, 1) := by decide +kernel
theorem dX10_isEnding_177 : decode cX10_isEnding 177 = .ok (.invokevirtual 434, 3) := by decide +kernel
theorem dX10_isEnding_180 : decode cX10_isEnding 180 = .ok (.iconst 1, 1) := by decide +kernel
theorem dX10_isEnding_181 : decode cX10_isEnding 181 = .ok (.ireturn, 1) := by decide +kernel
theorem dX10_ends_0 : decode cX10_ends 0 = .ok (.aload_n 0, 1) := by decide +kernel
theorem dX10_ends_1 : decode cX10_ends 1 = .ok (.iload_n 1, 1) := by decide +kernel
theorem dX10_ends_2 : decode cX10_ends 2 = .ok (.invokevirtual 377, 3) := by decide +kernel
theorem dX10_ends_5 : decode cX10_ends 5 = .ok (.ifCond .eq 32, 3) := by decide +kernel
theorem dX10_ends_8 : decode cX10_ends 8 = .ok (.iload_n 2, 1) := by decide +kernel
theorem dX10_ends_9 : decode cX10_ends 9 = .ok (.iconst 0, 1) := by decide +kernel
theorem dX10_ends_10 : decode cX10_ends 10 = .ok (.bipush 20, 2) := by decide +kernel
theorem dX10_ends_12 : decode cX10_ends 12 = .ok (.invokestatic 74, 3) := by decide +kernel
theorem dX10_ends_15 : decode cX10_ends 15 = .ok (.ifCond .eq 22, 3) := by decide +kernel
theorem dX10_ends_18 : decode cX10_ends 18 = .ok (.iload_n 3, 1) := by decide +kernel
theorem dX10_ends_19 : decode cX10_ends 19 = .ok (.iconst 0, 1) := by decide +kernel
theorem dX10_ends_20 : decode cX10_ends 20 = .ok (.iconst 3, 1) := by decide +kernel
theorem dX10_ends_21 : decode cX10_ends 21 = .ok (.invokestatic 74, 3) := by decide +kernel
theorem dX10_ends_24 : decode cX10_ends 24 = .ok (.ifCond .eq 13, 3) := by decide +kernel
theorem dX10_ends_27 : decode cX10_ends 27 = .ok (.iload 4, 2) := by decide +kernel
theorem dX10_ends_29 : decode cX10_ends 29 = .ok (.iconst 0, 1) := by decide +kernel
theorem dX10_ends_30 : decode cX10_ends 30 = .ok (.iconst 2, 1) := by decide +kernel
theorem dX10_ends_31 : decode cX10_ends 31 = .ok (.invokestatic 74, 3) := by decide +kernel
theorem dX10_ends_34 : decode cX10_ends 34 = .ok (.ifCond .ne 5, 3) := by decide +kernel
theorem dX10_ends_37 : decode cX10_ends 37 = .ok (.iconst (-1), 1) := by decide +kernel
theorem dX10_ends_38 : decode cX10_ends 38 = .ok (.ireturn, 1) := by decide +kernel
theorem dX10_ends_39 : decode cX10_ends 39 = .ok (.aload_n 0, 1) := by decide +kernel
theorem dX10_ends_40 : decode cX10_ends 40 = .ok (.bipush 40, 2) := by decide +kernel
theorem dX10_ends_42 : decode cX10_ends 42 = .ok (.invokevirtual 437, 3) := by decide +kernel
theorem dX10_ends_45 : decode cX10_ends 45 = .ok (.pop, 1) := by decide +kernel
theorem dX10_ends_46 : decode cX10_ends 46 = .ok (.aload_n 0, 1) := by decide +kernel
theorem dX10_ends_47 : decode cX10_ends 47 = .ok (.iload_n 1, 1) := by decide +kernel
theorem dX10_ends_48 : decode cX10_ends 48 = .ok (.iload_n 2, 1) := by decide +kernel
theorem dX10_ends_49 : decode cX10_ends 49 = .ok (.iload_n 3, 1) := by decide +kernel
theorem dX10_ends_50 : decode cX10_ends 50 = .ok (.invokevirtual 446, 3) := by decide +kernel
theorem dX10_ends_53 : decode cX10_ends 53 = .ok (.ifCond .ne 5, 3) := by decide +kernel
theorem dX10_ends_56 : decode cX10_ends 56 = .ok (.iconst (-1), 1) := by decide +kernel
theorem dX10_ends_57 : decode cX10_ends 57 = .ok (.ireturn, 1) := by decide +kernel
theorem dX10_ends_58 : decode cX10_ends 58 = .ok (.iload 4, 2) := by decide +kernel
theorem dX10_ends_60 : decode cX10_ends 60 = .ok (.ifCond .ne 16, 3) := by decide +kernel
theorem dX10_ends_63 : decode cX10_ends 63 = .ok (.iload_n 2, 1) := by decide +kernel
theorem dX10_ends_64 : decode cX10_ends 64 = .ok (.aload_n 0, 1) := by decide +kernel
theorem dX10_ends_65 : decode cX10_ends 65 = .ok (.iload_n 1, 1) := by decide +kernel
theorem dX10_ends_66 : decode cX10_ends 66 = .ok (.iconst 2, 1) := by decide +kernel
theorem dX10_ends_67 : decode cX10_ends 67 = .ok (.invokevirtual 82, 3) := by decide +kernel
theorem dX10_ends_70 : decode cX10_ends 70 = .ok (.iadd, 1) := by decide +kernel
theorem dX10_ends_71 : decode cX10_ends 71 = .ok (.iload_n 3, 1) := by decide +kernel
theorem dX10_ends_72 : decode cX10_ends 72 = .ok (.iadd, 1) := by decide +kernel
theorem dX10_ends_73 : decode cX10_ends 73 = .ok (.goto 28, 3) := by decide +kernel
theorem dX10_ends_76 : decode cX10_ends 76 = .ok (.iload 4, 2) := by decide +kernel
theorem dX10_ends_78 : decode cX10_ends 78 = .ok (.iconst 1, 1) := by decide +kernel
theorem dX10_ends_79 : decode cX10_ends 79 = .ok (.if_icmp .ne 18, 3) := by decide +kernel
theorem dX10_ends_82 : decode cX10_ends 82 = .ok (.aload_n 0, 1) := by decide +kernel
theorem dX10_ends_83 : decode cX10_ends 83 = .ok (.getfield 440, 3) := by decide +kernel
theorem dX10_ends_86 : decode cX10_ends 86 = .ok (.ifCond .eq 7, 3) := by decide +kernel
theorem dX10_ends_89 : decode cX10_ends 89 = .ok (.iconst 1, 1) := by decide +kernel
theorem dX10_ends_90 : decode cX10_ends 90 = .ok (.goto 11, 3) := by decide +kernel
theorem dX10_ends_93 : decode cX10_ends 93 = .ok (.iconst 0, 1) := by decide +kernel
theorem dX10_ends_94 : decode cX10_ends 94 = .ok (.goto 7, 3) := by decide +kernel
theorem dX10_ends_97 : decode cX10_ends 97 = .ok (.aload_n 0, 1) := by decide +kernel
theorem dX10_ends_98 : decode cX10_ends 98 = .ok (.getfield 443, 3) := by decide +kernel
theorem dX10_ends_101 : decode cX10_ends 101 = .ok (.ireturn, 1) := by decide +kernel
theorem dX10_best_0 : decode cX10_best 0 = .ok (.aload_n 0, 1) := by decide +kernel
theorem dX10_best_1 : decode cX10_best 1 = .ok (.iload_n 1, 1) := by decide +kernel
theorem dX10_best_2 : decode cX10_best 2 = .ok (.invokevirtual 377, 3) := by decide +kernel
theorem dX10_best_5 : decode cX10_best 5 = .ok (.ifCond .eq 12, 3) := by decide +kernel
theorem dX10_best_8 : decode cX10_best 8 = .ok (.iload_n 3, 1) := by decide +kernel
theorem dX10_best_9 : decode cX10_best 9 = .ok (.iconst 0, 1) := by decide +kernel
theorem dX10_best_10 : decode cX10_best 10 = .ok (.iconst 2, 1) := by decide +kernel
theorem dX10_best_11 : decode cX10_best 11 = .ok (.invokestatic 74, 3) := by decide +kernel
theorem dX10_best_14 : decode cX10_best 14 = .ok (.ifCond .ne 5, 3) := by decide +kernel
theorem dX10_best_17 : decode cX10_best 17 = .ok (.iconst (-1), 1) := by decide +kernel
theorem dX10_best_18 : decode cX10_best 18 = .ok (.ireturn, 1) := by decide +kernel
theorem dX10_best_19 : decode cX10_best 19 = .ok (.aload_n 0, 1) := by decide +kernel
theorem dX10_best_20 : decode cX10_best 20 = .ok (.bipush 40, 2) := by decide +kernel
theorem dX10_best_22 : decode cX10_best 22 = .ok (.invokevirtual 437, 3) := by decide +kernel
theorem dX10_best_25 : decode cX10_best 25 = .ok (.pop, 1) := by decide +kernel
theorem dX10_best_26 : decode cX10_best 26 = .ok (.iconst (-1), 1) := by decide +kernel
theorem dX10_best_27 : decode cX10_best 27 = .ok (.istore 4, 2) := by decide +kernel
theorem dX10_best_29 : decode cX10_best 29 = .ok (.iconst 0, 1) := by decide +kernel
theorem dX10_best_30 : decode cX10_best 30 = .ok (.istore 5, 2) := by decide +kernel
theorem dX10_best_32 : decode cX10_best 32 = .ok (.iconst 0, 1) := by decide +kernel
theorem dX10_best_33 : decode cX10_best 33 = .ok (.istore 6, 2) := by decide +kernel
theorem dX10_best_35 : decode cX10_best 35 = .ok (.iload 6, 2) := by decide +kernel
theorem dX10_best_37 : decode cX10_best 37 = .ok (.bipush 20, 2) := by decide +kernel
theorem dX10_best_39 : decode cX10_best 39 = .ok (.if_icmp .gt 74, 3) := by decide +kernel
theorem dX10_best_42 : decode cX10_best 42 = .ok (.iconst 0, 1) := by decide +kernel
theorem dX10_best_43 : decode cX10_best 43 = .ok (.istore 7, 2) := by decide +kernel
theorem dX10_best_45 : decode cX10_best 45 = .ok (.iload 7, 2) := by decide +kernel
theorem dX10_best_47 : decode cX10_best 47 = .ok (.iconst 3, 1) := by decide +kernel
theorem dX10_best_48 : decode cX10_best 48 = .ok (.if_icmp .gt 59, 3) := by decide +kernel
theorem dX10_best_51 : decode cX10_best 51 = .ok (.iload 4, 2) := by decide +kernel
theorem dX10_best_53 : decode cX10_best 53 = .ok (.iconst (-1), 1) := by decide +kernel
theorem dX10_best_54 : decode cX10_best 54 = .ok (.if_icmp .eq 16, 3) := by decide +kernel
theorem dX10_best_57 : decode cX10_best 57 = .ok (.iload 6, 2) := by decide +kernel
theorem dX10_best_59 : decode cX10_best 59 = .ok (.iload 7, 2) := by decide +kernel
theorem dX10_best_61 : decode cX10_best 61 = .ok (.iadd, 1) := by decide +kernel
theorem dX10_best_62 : decode cX10_best 62 = .ok (.iload 4, 2) := by decide +kernel
theorem dX10_best_64 : decode cX10_best 64 = .ok (.iload 5, 2) := by decide +kernel
theorem dX10_best_66 : decode cX10_best 66 = .ok (.iadd, 1) := by decide +kernel
theorem dX10_best_67 : decode cX10_best 67 = .ok (.if_icmp .ge 34, 3) := by decide +kernel
theorem dX10_best_70 : decode cX10_best 70 = .ok (.aload_n 0, 1) := by decide +kernel
theorem dX10_best_71 : decode cX10_best 71 = .ok (.iload_n 1, 1) := by decide +kernel
theorem dX10_best_72 : decode cX10_best 72 = .ok (.iload 6, 2) := by decide +kernel
theorem dX10_best_74 : decode cX10_best 74 = .ok (.iload 7, 2) := by decide +kernel
theorem dX10_best_76 : decode cX10_best 76 = .ok (.invokevirtual 446, 3) := by decide +kernel
theorem dX10_best_79 : decode cX10_best 79 = .ok (.ifCond .eq 22, 3) := by decide +kernel
theorem dX10_best_82 : decode cX10_best 82 = .ok (.aload_n 0, 1) := by decide +kernel
theorem dX10_best_83 : decode cX10_best 83 = .ok (.getfield 440, 3) := by decide +kernel
theorem dX10_best_86 : decode cX10_best 86 = .ok (.iload_n 2, 1) := by decide +kernel
theorem dX10_best_87 : decode cX10_best 87 = .ok (.if_icmp .eq 6, 3) := by decide +kernel
theorem dX10_best_90 : decode cX10_best 90 = .ok (.goto 11, 3) := by decide +kernel
theorem dX10_best_93 : decode cX10_best 93 = .ok (.iload 6, 2) := by decide +kernel
theorem dX10_best_95 : decode cX10_best 95 = .ok (.istore 4, 2) := by decide +kernel
theorem dX10_best_97 : decode cX10_best 97 = .ok (.iload 7, 2) := by decide +kernel
theorem dX10_best_99 : decode cX10_best 99 = .ok (.istore 5, 2) := by decide +kernel
theorem dX10_best_101 : decode cX10_best 101 = .ok (.iinc 7 1, 3) := by decide +kernel
theorem dX10_best_104 : decode cX10_best 104 = .ok (.goto (-59), 3) := by decide +kernel
theorem dX10_best_107 : decode cX10_best 107 = .ok (.iinc 6 1, 3) := by decide +kernel
theorem dX10_best_110 : decode cX10_best 110 = .ok (.goto (-75), 3) := by decide +kernel
theorem dX10_best_113 : decode cX10_best 113 = .ok (.iload 4, 2) := by decide +kernel
theorem dX10_best_115 : decode cX10_best 115 = .ok (.iconst (-1), 1) := by decide +kernel
theorem dX10_best_116 : decode cX10_best 116 = .ok (.if_icmp .ne 5, 3) := by decide +kernel
theorem dX10_best_119 : decode cX10_best 119 = .ok (.iconst (-1), 1) := by decide +kernel
theorem dX10_best_120 : decode cX10_best 120 = .ok (.ireturn, 1) := by decide +kernel
theorem dX10_best_121 : decode cX10_best 121 = .ok (.iload_n 3, 1) := by decide +kernel
theorem dX10_best_122 : decode cX10_best 122 = .ok (.ifCond .ne 8, 3) := by decide +kernel
theorem dX10_best_125 : decode cX10_best 125 = .ok (.iload 4, 2) := by decide +kernel
theorem dX10_best_127 : decode cX10_best 127 = .ok (.goto 25, 3) := by decide +kernel
theorem dX10_best_130 : decode cX10_best 130 = .ok (.iload_n 3, 1) := by decide +kernel
theorem dX10_best_131 : decode cX10_best 131 = .ok (.iconst 1, 1) := by decide +kernel
theorem dX10_best_132 : decode cX10_best 132 = .ok (.if_icmp .ne 8, 3) := by decide +kernel
theorem dX10_best_135 : decode cX10_best 135 = .ok (.iload 5, 2) := by decide +kernel
theorem dX10_best_137 : decode cX10_best 137 = .ok (.goto 15, 3) := by decide +kernel
theorem dX10_best_140 : decode cX10_best 140 = .ok (.iload 4, 2) := by decide +kernel
theorem dX10_best_142 : decode cX10_best 142 = .ok (.iload 5, 2) := by decide +kernel
theorem dX10_best_144 : decode cX10_best 144 = .ok (.iadd, 1) := by decide +kernel
theorem dX10_best_145 : decode cX10_best 145 = .ok (.aload_n 0, 1) := by decide +kernel
theorem dX10_best_146 : decode cX10_best 146 = .ok (.iload_n 1, 1) := by decide +kernel
theorem dX10_best_147 : decode cX10_best 147 = .ok (.iconst 2, 1) := by decide +kernel
theorem dX10_best_148 : decode cX10_best 148 = .ok (.invokevirtual 82, 3) := by decide +kernel
theorem dX10_best_151 : decode cX10_best 151 = .ok (.iadd, 1) := by decide +kernel
theorem dX10_best_152 : decode cX10_best 152 = .ok (.ireturn, 1) := by decide +kernel
theorem dX10_harshest_0 : decode cX10_harshest 0 = .ok (.aload_n 0, 1) := by decide +kernel
theorem dX10_harshest_1 : decode cX10_harshest 1 = .ok (.iload_n 1, 1) := by decide +kernel
theorem dX10_harshest_2 : decode cX10_harshest 2 = .ok (.invokevirtual 377, 3) := by decide +kernel
theorem dX10_harshest_5 : decode cX10_harshest 5 = .ok (.ifCond .ne 5, 3) := by decide +kernel
theorem dX10_harshest_8 : decode cX10_harshest 8 = .ok (.iconst (-1), 1) := by decide +kernel
theorem dX10_harshest_9 : decode cX10_harshest 9 = .ok (.ireturn, 1) := by decide +kernel
theorem dX10_harshest_10 : decode cX10_harshest 10 = .ok (.aload_n 0, 1) := by decide +kernel
theorem dX10_harshest_11 : decode cX10_harshest 11 = .ok (.bipush 40, 2) := by decide +kernel
theorem dX10_harshest_13 : decode cX10_harshest 13 = .ok (.invokevirtual 437, 3) := by decide +kernel
theorem dX10_harshest_16 : decode cX10_harshest 16 = .ok (.pop, 1) := by decide +kernel
theorem dX10_harshest_17 : decode cX10_harshest 17 = .ok (.iconst 0, 1) := by decide +kernel
theorem dX10_harshest_18 : decode cX10_harshest 18 = .ok (.istore_n 2, 1) := by decide +kernel
theorem dX10_harshest_19 : decode cX10_harshest 19 = .ok (.iconst 0, 1) := by decide +kernel
theorem dX10_harshest_20 : decode cX10_harshest 20 = .ok (.istore_n 3, 1) := by decide +kernel
theorem dX10_harshest_21 : decode cX10_harshest 21 = .ok (.iload_n 3, 1) := by decide +kernel
theorem dX10_harshest_22 : decode cX10_harshest 22 = .ok (.bipush 20, 2) := by decide +kernel
theorem dX10_harshest_24 : decode cX10_harshest 24 = .ok (.if_icmp .gt 48, 3) := by decide +kernel
theorem dX10_harshest_27 : decode cX10_harshest 27 = .ok (.iconst 0, 1) := by decide +kernel
theorem dX10_harshest_28 : decode cX10_harshest 28 = .ok (.istore 4, 2) := by decide +kernel
theorem dX10_harshest_30 : decode cX10_harshest 30 = .ok (.iload 4, 2) := by decide +kernel
theorem dX10_harshest_32 : decode cX10_harshest 32 = .ok (.iconst 3, 1) := by decide +kernel
theorem dX10_harshest_33 : decode cX10_harshest 33 = .ok (.if_icmp .gt 33, 3) := by decide +kernel
theorem dX10_harshest_36 : decode cX10_harshest 36 = .ok (.aload_n 0, 1) := by decide +kernel
theorem dX10_harshest_37 : decode cX10_harshest 37 = .ok (.iload_n 1, 1) := by decide +kernel
theorem dX10_harshest_38 : decode cX10_harshest 38 = .ok (.iload_n 3, 1) := by decide +kernel
theorem dX10_harshest_39 : decode cX10_harshest 39 = .ok (.iload 4, 2) := by decide +kernel
theorem dX10_harshest_41 : decode cX10_harshest 41 = .ok (.invokevirtual 446, 3) := by decide +kernel
theorem dX10_harshest_44 : decode cX10_harshest 44 = .ok (.ifCond .eq 16, 3) := by decide +kernel
theorem dX10_harshest_47 : decode cX10_harshest 47 = .ok (.aload_n 0, 1) := by decide +kernel
theorem dX10_harshest_48 : decode cX10_harshest 48 = .ok (.getfield 443, 3) := by decide +kernel
theorem dX10_harshest_51 : decode cX10_harshest 51 = .ok (.iload_n 2, 1) := by decide +kernel
theorem dX10_harshest_52 : decode cX10_harshest 52 = .ok (.if_icmp .le 8, 3) := by decide +kernel
theorem dX10_harshest_55 : decode cX10_harshest 55 = .ok (.aload_n 0, 1) := by decide +kernel
theorem dX10_harshest_56 : decode cX10_harshest 56 = .ok (.getfield 443, 3) := by decide +kernel
theorem dX10_harshest_59 : decode cX10_harshest 59 = .ok (.istore_n 2, 1) := by decide +kernel
theorem dX10_harshest_60 : decode cX10_harshest 60 = .ok (.iinc 4 1, 3) := by decide +kernel
theorem dX10_harshest_63 : decode cX10_harshest 63 = .ok (.goto (-33), 3) := by decide +kernel
theorem dX10_harshest_66 : decode cX10_harshest 66 = .ok (.iinc 3 1, 3) := by decide +kernel
theorem dX10_harshest_69 : decode cX10_harshest 69 = .ok (.goto (-48), 3) := by decide +kernel
theorem dX10_harshest_72 : decode cX10_harshest 72 = .ok (.iload_n 2, 1) := by decide +kernel
theorem dX10_harshest_73 : decode cX10_harshest 73 = .ok (.ireturn, 1) := by decide +kernel
theorem dX10_common_0 : decode cX10_common 0 = .ok (.lload_n 0, 1) := by decide +kernel
theorem dX10_common_1 : decode cX10_common 1 = .ok (.lstore 4, 2) := by decide +kernel
theorem dX10_common_3 : decode cX10_common 3 = .ok (.lload_n 2, 1) := by decide +kernel
theorem dX10_common_4 : decode cX10_common 4 = .ok (.lstore 6, 2) := by decide +kernel
theorem dX10_common_6 : decode cX10_common 6 = .ok (.lload 6, 2) := by decide +kernel
theorem dX10_common_8 : decode cX10_common 8 = .ok (.lconst 0, 1) := by decide +kernel
theorem dX10_common_9 : decode cX10_common 9 = .ok (.lcmp, 1) := by decide +kernel
theorem dX10_common_10 : decode cX10_common 10 = .ok (.ifCond .eq 21, 3) := by decide +kernel
theorem dX10_common_13 : decode cX10_common 13 = .ok (.lload 4, 2) := by decide +kernel
theorem dX10_common_15 : decode cX10_common 15 = .ok (.lload 6, 2) := by decide +kernel
theorem dX10_common_17 : decode cX10_common 17 = .ok (.lrem, 1) := by decide +kernel
theorem dX10_common_18 : decode cX10_common 18 = .ok (.lstore 8, 2) := by decide +kernel
theorem dX10_common_20 : decode cX10_common 20 = .ok (.lload 6, 2) := by decide +kernel
theorem dX10_common_22 : decode cX10_common 22 = .ok (.lstore 4, 2) := by decide +kernel
theorem dX10_common_24 : decode cX10_common 24 = .ok (.lload 8, 2) := by decide +kernel
theorem dX10_common_26 : decode cX10_common 26 = .ok (.lstore 6, 2) := by decide +kernel
theorem dX10_common_28 : decode cX10_common 28 = .ok (.goto (-22), 3) := by decide +kernel
theorem dX10_common_31 : decode cX10_common 31 = .ok (.lload 4, 2) := by decide +kernel
theorem dX10_common_33 : decode cX10_common 33 = .ok (.lreturn, 1) := by decide +kernel
theorem dX10_isGuiltyBy_0 : decode cX10_isGuiltyBy 0 = .ok (.aload_n 0, 1) := by decide +kernel
theorem dX10_isGuiltyBy_1 : decode cX10_isGuiltyBy 1 = .ok (.invokevirtual 431, 3) := by decide +kernel
theorem dX10_isGuiltyBy_4 : decode cX10_isGuiltyBy 4 = .ok (.iload_n 1, 1) := by decide +kernel
theorem dX10_isGuiltyBy_5 : decode cX10_isGuiltyBy 5 = .ok (.istore_n 3, 1) := by decide +kernel
theorem dX10_isGuiltyBy_6 : decode cX10_isGuiltyBy 6 = .ok (.aload_n 0, 1) := by decide +kernel
theorem dX10_isGuiltyBy_7 : decode cX10_isGuiltyBy 7 = .ok (.getfield 7, 3) := by decide +kernel
theorem dX10_isGuiltyBy_10 : decode cX10_isGuiltyBy 10 = .ok (.bipush 15, 2) := by decide +kernel
theorem dX10_isGuiltyBy_12 : decode cX10_isGuiltyBy 12 = .ok (.iaload, 1) := by decide +kernel
theorem dX10_isGuiltyBy_13 : decode cX10_isGuiltyBy 13 = .ok (.iconst 1, 1) := by decide +kernel
theorem dX10_isGuiltyBy_14 : decode cX10_isGuiltyBy 14 = .ok (.aload_n 0, 1) := by decide +kernel
theorem dX10_isGuiltyBy_15 : decode cX10_isGuiltyBy 15 = .ok (.getfield 7, 3) := by decide +kernel
theorem dX10_isGuiltyBy_18 : decode cX10_isGuiltyBy 18 = .ok (.bipush 8, 2) := by decide +kernel
theorem dX10_isGuiltyBy_20 : decode cX10_isGuiltyBy 20 = .ok (.iaload, 1) := by decide +kernel
theorem dX10_isGuiltyBy_21 : decode cX10_isGuiltyBy 21 = .ok (.ishl, 1) := by decide +kernel
theorem dX10_isGuiltyBy_22 : decode cX10_isGuiltyBy 22 = .ok (.ior, 1) := by decide +kernel
theorem dX10_isGuiltyBy_23 : decode cX10_isGuiltyBy 23 = .ok (.istore 4, 2) := by decide +kernel
theorem dX10_isGuiltyBy_25 : decode cX10_isGuiltyBy 25 = .ok (.iconst 1, 1) := by decide +kernel
theorem dX10_isGuiltyBy_26 : decode cX10_isGuiltyBy 26 = .ok (.istore 5, 2) := by decide +kernel
theorem dX10_isGuiltyBy_28 : decode cX10_isGuiltyBy 28 = .ok (.iload 5, 2) := by decide +kernel
theorem dX10_isGuiltyBy_30 : decode cX10_isGuiltyBy 30 = .ok (.iload_n 2, 1) := by decide +kernel
theorem dX10_isGuiltyBy_31 : decode cX10_isGuiltyBy 31 = .ok (.if_icmp .ge 36, 3) := by decide +kernel
theorem dX10_isGuiltyBy_34 : decode cX10_isGuiltyBy 34 = .ok (.aload_n 0, 1) := by decide +kernel
theorem dX10_isGuiltyBy_35 : decode cX10_isGuiltyBy 35 = .ok (.iload_n 3, 1) := by decide +kernel
theorem dX10_isGuiltyBy_36 : decode cX10_isGuiltyBy 36 = .ok (.bipush 10, 2) := by decide +kernel
theorem dX10_isGuiltyBy_38 : decode cX10_isGuiltyBy 38 = .ok (.irem, 1) := by decide +kernel
theorem dX10_isGuiltyBy_39 : decode cX10_isGuiltyBy 39 = .ok (.invokevirtual 374, 3) := by decide +kernel
theorem dX10_isGuiltyBy_42 : decode cX10_isGuiltyBy 42 = .ok (.iload_n 3, 1) := by decide +kernel
theorem dX10_isGuiltyBy_43 : decode cX10_isGuiltyBy 43 = .ok (.bipush 10, 2) := by decide +kernel
theorem dX10_isGuiltyBy_45 : decode cX10_isGuiltyBy 45 = .ok (.idiv, 1) := by decide +kernel
theorem dX10_isGuiltyBy_46 : decode cX10_isGuiltyBy 46 = .ok (.istore_n 3, 1) := by decide +kernel
theorem dX10_isGuiltyBy_47 : decode cX10_isGuiltyBy 47 = .ok (.iload 4, 2) := by decide +kernel
theorem dX10_isGuiltyBy_49 : decode cX10_isGuiltyBy 49 = .ok (.iconst 1, 1) := by decide +kernel
theorem dX10_isGuiltyBy_50 : decode cX10_isGuiltyBy 50 = .ok (.aload_n 0, 1) := by decide +kernel
theorem dX10_isGuiltyBy_51 : decode cX10_isGuiltyBy 51 = .ok (.getfield 7, 3) := by decide +kernel
theorem dX10_isGuiltyBy_54 : decode cX10_isGuiltyBy 54 = .ok (.bipush 8, 2) := by decide +kernel
theorem dX10_isGuiltyBy_56 : decode cX10_isGuiltyBy 56 = .ok (.iaload, 1) := by decide +kernel
theorem dX10_isGuiltyBy_57 : decode cX10_isGuiltyBy 57 = .ok (.ishl, 1) := by decide +kernel
theorem dX10_isGuiltyBy_58 : decode cX10_isGuiltyBy 58 = .ok (.ior, 1) := by decide +kernel
theorem dX10_isGuiltyBy_59 : decode cX10_isGuiltyBy 59 = .ok (.istore 4, 2) := by decide +kernel
theorem dX10_isGuiltyBy_61 : decode cX10_isGuiltyBy 61 = .ok (.iinc 5 1, 3) := by decide +kernel
theorem dX10_isGuiltyBy_64 : decode cX10_isGuiltyBy 64 = .ok (.goto (-36), 3) := by decide +kernel
theorem dX10_isGuiltyBy_67 : decode cX10_isGuiltyBy 67 = .ok (.aload_n 0, 1) := by decide +kernel
theorem dX10_isGuiltyBy_68 : decode cX10_isGuiltyBy 68 = .ok (.aload_n 0, 1) := by decide +kernel
theorem dX10_isGuiltyBy_69 : decode cX10_isGuiltyBy 69 = .ok (.getfield 7, 3) := by decide +kernel
theorem dX10_isGuiltyBy_72 : decode cX10_isGuiltyBy 72 = .ok (.bipush 13, 2) := by decide +kernel
theorem dX10_isGuiltyBy_74 : decode cX10_isGuiltyBy 74 = .ok (.iaload, 1) := by decide +kernel
theorem dX10_isGuiltyBy_75 : decode cX10_isGuiltyBy 75 = .ok (.aload_n 0, 1) := by decide +kernel
theorem dX10_isGuiltyBy_76 : decode cX10_isGuiltyBy 76 = .ok (.getfield 7, 3) := by decide +kernel
theorem dX10_isGuiltyBy_79 : decode cX10_isGuiltyBy 79 = .ok (.bipush 14, 2) := by decide +kernel
theorem dX10_isGuiltyBy_81 : decode cX10_isGuiltyBy 81 = .ok (.iaload, 1) := by decide +kernel
theorem dX10_isGuiltyBy_82 : decode cX10_isGuiltyBy 82 = .ok (.iload_n 2, 1) := by decide +kernel
theorem dX10_isGuiltyBy_83 : decode cX10_isGuiltyBy 83 = .ok (.iadd, 1) := by decide +kernel
theorem dX10_isGuiltyBy_84 : decode cX10_isGuiltyBy 84 = .ok (.iload 4, 2) := by decide +kernel
theorem dX10_isGuiltyBy_86 : decode cX10_isGuiltyBy 86 = .ok (.invokevirtual 356, 3) := by decide +kernel
theorem dX10_isGuiltyBy_89 : decode cX10_isGuiltyBy 89 = .ok (.istore 5, 2) := by decide +kernel
theorem dX10_isGuiltyBy_91 : decode cX10_isGuiltyBy 91 = .ok (.aload_n 0, 1) := by decide +kernel
theorem dX10_isGuiltyBy_92 : decode cX10_isGuiltyBy 92 = .ok (.invokevirtual 434, 3) := by decide +kernel
theorem dX10_isGuiltyBy_95 : decode cX10_isGuiltyBy 95 = .ok (.iload 5, 2) := by decide +kernel
theorem dX10_isGuiltyBy_97 : decode cX10_isGuiltyBy 97 = .ok (.ireturn, 1) := by decide +kernel
theorem dX10_odds_0 : decode cX10_odds 0 = .ok (.aload_n 0, 1) := by decide +kernel
theorem dX10_odds_1 : decode cX10_odds 1 = .ok (.getfield 7, 3) := by decide +kernel
theorem dX10_odds_4 : decode cX10_odds 4 = .ok (.bipush 13, 2) := by decide +kernel
theorem dX10_odds_6 : decode cX10_odds 6 = .ok (.iaload, 1) := by decide +kernel
theorem dX10_odds_7 : decode cX10_odds 7 = .ok (.iconst (-1), 1) := by decide +kernel
theorem dX10_odds_8 : decode cX10_odds 8 = .ok (.if_icmp .ne 7, 3) := by decide +kernel
theorem dX10_odds_11 : decode cX10_odds 11 = .ok (.ldc2_w 449, 3) := by decide +kernel
theorem dX10_odds_14 : decode cX10_odds 14 = .ok (.lreturn, 1) := by decide +kernel
theorem dX10_odds_15 : decode cX10_odds 15 = .ok (.aload_n 0, 1) := by decide +kernel
theorem dX10_odds_16 : decode cX10_odds 16 = .ok (.aload_n 0, 1) := by decide +kernel
theorem dX10_odds_17 : decode cX10_odds 17 = .ok (.getfield 7, 3) := by decide +kernel
theorem dX10_odds_20 : decode cX10_odds 20 = .ok (.bipush 13, 2) := by decide +kernel
theorem dX10_odds_22 : decode cX10_odds 22 = .ok (.iaload, 1) := by decide +kernel
theorem dX10_odds_23 : decode cX10_odds 23 = .ok (.iconst 2, 1) := by decide +kernel
theorem dX10_odds_24 : decode cX10_odds 24 = .ok (.invokevirtual 82, 3) := by decide +kernel
theorem dX10_odds_27 : decode cX10_odds 27 = .ok (.aload_n 0, 1) := by decide +kernel
theorem dX10_odds_28 : decode cX10_odds 28 = .ok (.getfield 7, 3) := by decide +kernel
theorem dX10_odds_31 : decode cX10_odds 31 = .ok (.bipush 16, 2) := by decide +kernel
theorem dX10_odds_33 : decode cX10_odds 33 = .ok (.iaload, 1) := by decide +kernel
theorem dX10_odds_34 : decode cX10_odds 34 = .ok (.iadd, 1) := by decide +kernel
theorem dX10_odds_35 : decode cX10_odds 35 = .ok (.aload_n 0, 1) := by decide +kernel
theorem dX10_odds_36 : decode cX10_odds 36 = .ok (.getfield 7, 3) := by decide +kernel
theorem dX10_odds_39 : decode cX10_odds 39 = .ok (.bipush 14, 2) := by decide +kernel
theorem dX10_odds_41 : decode cX10_odds 41 = .ok (.iaload, 1) := by decide +kernel
theorem dX10_odds_42 : decode cX10_odds 42 = .ok (.isub, 1) := by decide +kernel
theorem dX10_odds_43 : decode cX10_odds 43 = .ok (.istore_n 2, 1) := by decide +kernel
theorem dX10_odds_44 : decode cX10_odds 44 = .ok (.iload_n 2, 1) := by decide +kernel
theorem dX10_odds_45 : decode cX10_odds 45 = .ok (.iconst 3, 1) := by decide +kernel
theorem dX10_odds_46 : decode cX10_odds 46 = .ok (.if_icmp .le 7, 3) := by decide +kernel
theorem dX10_odds_49 : decode cX10_odds 49 = .ok (.ldc2_w 449, 3) := by decide +kernel
theorem dX10_odds_52 : decode cX10_odds 52 = .ok (.lreturn, 1) := by decide +kernel
theorem dX10_odds_53 : decode cX10_odds 53 = .ok (.iload_n 2, 1) := by decide +kernel
theorem dX10_odds_54 : decode cX10_odds 54 = .ok (.iconst 3, 1) := by decide +kernel
theorem dX10_odds_55 : decode cX10_odds 55 = .ok (.if_icmp .ne 8, 3) := by decide +kernel
theorem dX10_odds_58 : decode cX10_odds 58 = .ok (.bipush 100, 2) := by decide +kernel
theorem dX10_odds_60 : decode cX10_odds 60 = .ok (.goto 14, 3) := by decide +kernel
theorem dX10_odds_63 : decode cX10_odds 63 = .ok (.iload_n 2, 1) := by decide +kernel
theorem dX10_odds_64 : decode cX10_odds 64 = .ok (.iconst 2, 1) := by decide +kernel
theorem dX10_odds_65 : decode cX10_odds 65 = .ok (.if_icmp .ne 8, 3) := by decide +kernel
theorem dX10_odds_68 : decode cX10_odds 68 = .ok (.bipush 10, 2) := by decide +kernel
theorem dX10_odds_70 : decode cX10_odds 70 = .ok (.goto 4, 3) := by decide +kernel
theorem dX10_odds_73 : decode cX10_odds 73 = .ok (.iconst 1, 1) := by decide +kernel
theorem dX10_odds_74 : decode cX10_odds 74 = .ok (.istore_n 3, 1) := by decide +kernel
theorem dX10_odds_75 : decode cX10_odds 75 = .ok (.iconst 0, 1) := by decide +kernel
theorem dX10_odds_76 : decode cX10_odds 76 = .ok (.istore 4, 2) := by decide +kernel
theorem dX10_odds_78 : decode cX10_odds 78 = .ok (.iconst 0, 1) := by decide +kernel
theorem dX10_odds_79 : decode cX10_odds 79 = .ok (.istore 5, 2) := by decide +kernel
theorem dX10_odds_81 : decode cX10_odds 81 = .ok (.iload 5, 2) := by decide +kernel
theorem dX10_odds_83 : decode cX10_odds 83 = .ok (.iload_n 3, 1) := by decide +kernel
theorem dX10_odds_84 : decode cX10_odds 84 = .ok (.if_icmp .ge 29, 3) := by decide +kernel
theorem dX10_odds_87 : decode cX10_odds 87 = .ok (.iload 4, 2) := by decide +kernel
theorem dX10_odds_89 : decode cX10_odds 89 = .ok (.aload_n 0, 1) := by decide +kernel
theorem dX10_odds_90 : decode cX10_odds 90 = .ok (.iload 5, 2) := by decide +kernel
theorem dX10_odds_92 : decode cX10_odds 92 = .ok (.iload_n 2, 1) := by decide +kernel
theorem dX10_odds_93 : decode cX10_odds 93 = .ok (.invokevirtual 451, 3) := by decide +kernel
theorem dX10_odds_96 : decode cX10_odds 96 = .ok (.ifCond .eq 7, 3) := by decide +kernel
theorem dX10_odds_99 : decode cX10_odds 99 = .ok (.iconst 1, 1) := by decide +kernel
theorem dX10_odds_100 : decode cX10_odds 100 = .ok (.goto 4, 3) := by decide +kernel
theorem dX10_odds_103 : decode cX10_odds 103 = .ok (.iconst 0, 1) := by decide +kernel
theorem dX10_odds_104 : decode cX10_odds 104 = .ok (.iadd, 1) := by decide +kernel
theorem dX10_odds_105 : decode cX10_odds 105 = .ok (.istore 4, 2) := by decide +kernel
theorem dX10_odds_107 : decode cX10_odds 107 = .ok (.iinc 5 1, 3) := by decide +kernel
theorem dX10_odds_110 : decode cX10_odds 110 = .ok (.goto (-29), 3) := by decide +kernel
theorem dX10_odds_113 : decode cX10_odds 113 = .ok (.iload_n 1, 1) := by decide +kernel
theorem dX10_odds_114 : decode cX10_odds 114 = .ok (.ifCond .eq 7, 3) := by decide +kernel
theorem dX10_odds_117 : decode cX10_odds 117 = .ok (.iload_n 3, 1) := by decide +kernel
theorem dX10_odds_118 : decode cX10_odds 118 = .ok (.goto 5, 3) := by decide +kernel
theorem dX10_odds_121 : decode cX10_odds 121 = .ok (.iload 4, 2) := by decide +kernel
theorem dX10_odds_123 : decode cX10_odds 123 = .ok (.i2l, 1) := by decide +kernel
theorem dX10_odds_124 : decode cX10_odds 124 = .ok (.iload 4, 2) := by decide +kernel
theorem dX10_odds_126 : decode cX10_odds 126 = .ok (.i2l, 1) := by decide +kernel
theorem dX10_odds_127 : decode cX10_odds 127 = .ok (.iload_n 3, 1) := by decide +kernel
theorem dX10_odds_128 : decode cX10_odds 128 = .ok (.i2l, 1) := by decide +kernel
theorem dX10_odds_129 : decode cX10_odds 129 = .ok (.invokestatic 454, 3) := by decide +kernel
theorem dX10_odds_132 : decode cX10_odds 132 = .ok (.ldiv, 1) := by decide +kernel
theorem dX10_odds_133 : decode cX10_odds 133 = .ok (.lreturn, 1) := by decide +kernel
theorem dX10_clashOf_0 : decode cX10_clashOf 0 = .ok (.iconst 0, 1) := by decide +kernel
theorem dX10_clashOf_1 : decode cX10_clashOf 1 = .ok (.istore_n 3, 1) := by decide +kernel
theorem dX10_clashOf_2 : decode cX10_clashOf 2 = .ok (.iconst 0, 1) := by decide +kernel
theorem dX10_clashOf_3 : decode cX10_clashOf 3 = .ok (.istore 4, 2) := by decide +kernel
theorem dX10_clashOf_5 : decode cX10_clashOf 5 = .ok (.iload 4, 2) := by decide +kernel
theorem dX10_clashOf_7 : decode cX10_clashOf 7 = .ok (.iconst 4, 1) := by decide +kernel
theorem dX10_clashOf_8 : decode cX10_clashOf 8 = .ok (.if_icmp .ge 43, 3) := by decide +kernel
theorem dX10_clashOf_11 : decode cX10_clashOf 11 = .ok (.iload_n 3, 1) := by decide +kernel
theorem dX10_clashOf_12 : decode cX10_clashOf 12 = .ok (.aload_n 0, 1) := by decide +kernel
theorem dX10_clashOf_13 : decode cX10_clashOf 13 = .ok (.aload_n 0, 1) := by decide +kernel
theorem dX10_clashOf_14 : decode cX10_clashOf 14 = .ok (.getfield 7, 3) := by decide +kernel
theorem dX10_clashOf_17 : decode cX10_clashOf 17 = .ok (.iconst 2, 1) := by decide +kernel
theorem dX10_clashOf_18 : decode cX10_clashOf 18 = .ok (.iaload, 1) := by decide +kernel
theorem dX10_clashOf_19 : decode cX10_clashOf 19 = .ok (.iload 4, 2) := by decide +kernel
theorem dX10_clashOf_21 : decode cX10_clashOf 21 = .ok (.iload_n 1, 1) := by decide +kernel
theorem dX10_clashOf_22 : decode cX10_clashOf 22 = .ok (.aload_n 0, 1) := by decide +kernel
theorem dX10_clashOf_23 : decode cX10_clashOf 23 = .ok (.iload_n 1, 1) := by decide +kernel
theorem dX10_clashOf_24 : decode cX10_clashOf 24 = .ok (.iconst 2, 1) := by decide +kernel
theorem dX10_clashOf_25 : decode cX10_clashOf 25 = .ok (.invokevirtual 82, 3) := by decide +kernel
theorem dX10_clashOf_28 : decode cX10_clashOf 28 = .ok (.iload_n 2, 1) := by decide +kernel
theorem dX10_clashOf_29 : decode cX10_clashOf 29 = .ok (.invokevirtual 349, 3) := by decide +kernel
theorem dX10_clashOf_32 : decode cX10_clashOf 32 = .ok (.ifCond .eq 10, 3) := by decide +kernel
theorem dX10_clashOf_35 : decode cX10_clashOf 35 = .ok (.iconst 1, 1) := by decide +kernel
theorem dX10_clashOf_36 : decode cX10_clashOf 36 = .ok (.iload 4, 2) := by decide +kernel
theorem dX10_clashOf_38 : decode cX10_clashOf 38 = .ok (.ishl, 1) := by decide +kernel
theorem dX10_clashOf_39 : decode cX10_clashOf 39 = .ok (.goto 4, 3) := by decide +kernel
