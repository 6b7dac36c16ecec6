theorem dX7_init_37 : decode cX7_init 37 = .ok (.return_, 1) := by decide +kernel
theorem dX7_clear_0 : decode cX7_clear 0 = .ok (.aload_n 0, 1) := by decide +kernel
theorem dX7_clear_1 : decode cX7_clear 1 = .ok (.iconst 0, 1) := by decide +kernel
theorem dX7_clear_2 : decode cX7_clear 2 = .ok (.putfield 26, 3) := by decide +kernel
theorem dX7_clear_5 : decode cX7_clear 5 = .ok (.aload_n 0, 1) := by decide +kernel
theorem dX7_clear_6 : decode cX7_clear 6 = .ok (.iconst 0, 1) := by decide +kernel
theorem dX7_clear_7 : decode cX7_clear 7 = .ok (.putfield 30, 3) := by decide +kernel
theorem dX7_clear_10 : decode cX7_clear 10 = .ok (.aload_n 0, 1) := by decide +kernel
theorem dX7_clear_11 : decode cX7_clear 11 = .ok (.iconst 0, 1) := by decide +kernel
theorem dX7_clear_12 : decode cX7_clear 12 = .ok (.putfield 33, 3) := by decide +kernel
theorem dX7_clear_15 : decode cX7_clear 15 = .ok (.iconst 0, 1) := by decide +kernel
theorem dX7_clear_16 : decode cX7_clear 16 = .ok (.istore_n 1, 1) := by decide +kernel
theorem dX7_clear_17 : decode cX7_clear 17 = .ok (.iload_n 1, 1) := by decide +kernel
theorem dX7_clear_18 : decode cX7_clear 18 = .ok (.bipush 8, 2) := by decide +kernel
theorem dX7_clear_20 : decode cX7_clear 20 = .ok (.if_icmp .ge 23, 3) := by decide +kernel
theorem dX7_clear_23 : decode cX7_clear 23 = .ok (.aload_n 0, 1) := by decide +kernel
theorem dX7_clear_24 : decode cX7_clear 24 = .ok (.getfield 17, 3) := by decide +kernel
theorem dX7_clear_27 : decode cX7_clear 27 = .ok (.iload_n 1, 1) := by decide +kernel
theorem dX7_clear_28 : decode cX7_clear 28 = .ok (.iconst 0, 1) := by decide +kernel
theorem dX7_clear_29 : decode cX7_clear 29 = .ok (.iastore, 1) := by decide +kernel
theorem dX7_clear_30 : decode cX7_clear 30 = .ok (.aload_n 0, 1) := by decide +kernel
theorem dX7_clear_31 : decode cX7_clear 31 = .ok (.getfield 20, 3) := by decide +kernel
theorem dX7_clear_34 : decode cX7_clear 34 = .ok (.iload_n 1, 1) := by decide +kernel
theorem dX7_clear_35 : decode cX7_clear 35 = .ok (.iconst 0, 1) := by decide +kernel
theorem dX7_clear_36 : decode cX7_clear 36 = .ok (.iastore, 1) := by decide +kernel
theorem dX7_clear_37 : decode cX7_clear 37 = .ok (.iinc 1 1, 3) := by decide +kernel
theorem dX7_clear_40 : decode cX7_clear 40 = .ok (.goto (-23), 3) := by decide +kernel
theorem dX7_clear_43 : decode cX7_clear 43 = .ok (.return_, 1) := by decide +kernel
theorem dX7_has_0 : decode cX7_has 0 = .ok (.iload_n 1, 1) := by decide +kernel
theorem dX7_has_1 : decode cX7_has 1 = .ok (.ifCond .lt 28, 3) := by decide +kernel
theorem dX7_has_4 : decode cX7_has 4 = .ok (.iload_n 1, 1) := by decide +kernel
theorem dX7_has_5 : decode cX7_has 5 = .ok (.bipush 8, 2) := by decide +kernel
theorem dX7_has_7 : decode cX7_has 7 = .ok (.if_icmp .ge 22, 3) := by decide +kernel
theorem dX7_has_10 : decode cX7_has 10 = .ok (.aload_n 0, 1) := by decide +kernel
theorem dX7_has_11 : decode cX7_has 11 = .ok (.getfield 20, 3) := by decide +kernel
theorem dX7_has_14 : decode cX7_has 14 = .ok (.iload_n 1, 1) := by decide +kernel
theorem dX7_has_15 : decode cX7_has 15 = .ok (.iaload, 1) := by decide +kernel
theorem dX7_has_16 : decode cX7_has 16 = .ok (.aload_n 0, 1) := by decide +kernel
theorem dX7_has_17 : decode cX7_has 17 = .ok (.getfield 17, 3) := by decide +kernel
theorem dX7_has_20 : decode cX7_has 20 = .ok (.iload_n 1, 1) := by decide +kernel
theorem dX7_has_21 : decode cX7_has 21 = .ok (.iaload, 1) := by decide +kernel
theorem dX7_has_22 : decode cX7_has 22 = .ok (.if_icmp .le 7, 3) := by decide +kernel
theorem dX7_has_25 : decode cX7_has 25 = .ok (.iconst 1, 1) := by decide +kernel
theorem dX7_has_26 : decode cX7_has 26 = .ok (.goto 4, 3) := by decide +kernel
theorem dX7_has_29 : decode cX7_has 29 = .ok (.iconst 0, 1) := by decide +kernel
theorem dX7_has_30 : decode cX7_has 30 = .ok (.ireturn, 1) := by decide +kernel
theorem dX7_setLaw_0 : decode cX7_setLaw 0 = .ok (.iload_n 1, 1) := by decide +kernel
theorem dX7_setLaw_1 : decode cX7_setLaw 1 = .ok (.ifCond .lt 26, 3) := by decide +kernel
theorem dX7_setLaw_4 : decode cX7_setLaw 4 = .ok (.iload_n 1, 1) := by decide +kernel
theorem dX7_setLaw_5 : decode cX7_setLaw 5 = .ok (.bipush 8, 2) := by decide +kernel
theorem dX7_setLaw_7 : decode cX7_setLaw 7 = .ok (.if_icmp .ge 20, 3) := by decide +kernel
theorem dX7_setLaw_10 : decode cX7_setLaw 10 = .ok (.aload_n 0, 1) := by decide +kernel
theorem dX7_setLaw_11 : decode cX7_setLaw 11 = .ok (.getfield 17, 3) := by decide +kernel
theorem dX7_setLaw_14 : decode cX7_setLaw 14 = .ok (.iload_n 1, 1) := by decide +kernel
theorem dX7_setLaw_15 : decode cX7_setLaw 15 = .ok (.iload_n 2, 1) := by decide +kernel
theorem dX7_setLaw_16 : decode cX7_setLaw 16 = .ok (.iastore, 1) := by decide +kernel
theorem dX7_setLaw_17 : decode cX7_setLaw 17 = .ok (.aload_n 0, 1) := by decide +kernel
theorem dX7_setLaw_18 : decode cX7_setLaw 18 = .ok (.getfield 20, 3) := by decide +kernel
theorem dX7_setLaw_21 : decode cX7_setLaw 21 = .ok (.iload_n 1, 1) := by decide +kernel
theorem dX7_setLaw_22 : decode cX7_setLaw 22 = .ok (.aload_n 0, 1) := by decide +kernel
theorem dX7_setLaw_23 : decode cX7_setLaw 23 = .ok (.getfield 26, 3) := by decide +kernel
theorem dX7_setLaw_26 : decode cX7_setLaw 26 = .ok (.iastore, 1) := by decide +kernel
theorem dX7_setLaw_27 : decode cX7_setLaw 27 = .ok (.return_, 1) := by decide +kernel
theorem dX7_emit_0 : decode cX7_emit 0 = .ok (.aload_n 0, 1) := by decide +kernel
theorem dX7_emit_1 : decode cX7_emit 1 = .ok (.getfield 26, 3) := by decide +kernel
theorem dX7_emit_4 : decode cX7_emit 4 = .ok (.aload_n 0, 1) := by decide +kernel
theorem dX7_emit_5 : decode cX7_emit 5 = .ok (.getfield 11, 3) := by decide +kernel
theorem dX7_emit_8 : decode cX7_emit 8 = .ok (.arraylength, 1) := by decide +kernel
theorem dX7_emit_9 : decode cX7_emit 9 = .ok (.if_icmp .ge 28, 3) := by decide +kernel
theorem dX7_emit_12 : decode cX7_emit 12 = .ok (.aload_n 0, 1) := by decide +kernel
theorem dX7_emit_13 : decode cX7_emit 13 = .ok (.getfield 11, 3) := by decide +kernel
theorem dX7_emit_16 : decode cX7_emit 16 = .ok (.aload_n 0, 1) := by decide +kernel
theorem dX7_emit_17 : decode cX7_emit 17 = .ok (.getfield 26, 3) := by decide +kernel
theorem dX7_emit_20 : decode cX7_emit 20 = .ok (.iload_n 1, 1) := by decide +kernel
theorem dX7_emit_21 : decode cX7_emit 21 = .ok (.bipush 14, 2) := by decide +kernel
theorem dX7_emit_23 : decode cX7_emit 23 = .ok (.ishl, 1) := by decide +kernel
theorem dX7_emit_24 : decode cX7_emit 24 = .ok (.iload_n 2, 1) := by decide +kernel
theorem dX7_emit_25 : decode cX7_emit 25 = .ok (.ior, 1) := by decide +kernel
theorem dX7_emit_26 : decode cX7_emit 26 = .ok (.iastore, 1) := by decide +kernel
theorem dX7_emit_27 : decode cX7_emit 27 = .ok (.aload_n 0, 1) := by decide +kernel
theorem dX7_emit_28 : decode cX7_emit 28 = .ok (.dup, 1) := by decide +kernel
theorem dX7_emit_29 : decode cX7_emit 29 = .ok (.getfield 26, 3) := by decide +kernel
theorem dX7_emit_32 : decode cX7_emit 32 = .ok (.iconst 1, 1) := by decide +kernel
theorem dX7_emit_33 : decode cX7_emit 33 = .ok (.iadd, 1) := by decide +kernel
theorem dX7_emit_34 : decode cX7_emit 34 = .ok (.putfield 26, 3) := by decide +kernel
theorem dX7_emit_37 : decode cX7_emit 37 = .ok (.return_, 1) := by decide +kernel
theorem dX7_emitFact_0 : decode cX7_emitFact 0 = .ok (.aload_n 0, 1) := by decide +kernel
theorem dX7_emitFact_1 : decode cX7_emitFact 1 = .ok (.dup, 1) := by decide +kernel
theorem dX7_emitFact_2 : decode cX7_emitFact 2 = .ok (.getfield 33, 3) := by decide +kernel
theorem dX7_emitFact_5 : decode cX7_emitFact 5 = .ok (.iconst 1, 1) := by decide +kernel
theorem dX7_emitFact_6 : decode cX7_emitFact 6 = .ok (.iload_n 1, 1) := by decide +kernel
theorem dX7_emitFact_7 : decode cX7_emitFact 7 = .ok (.ishl, 1) := by decide +kernel
theorem dX7_emitFact_8 : decode cX7_emitFact 8 = .ok (.ior, 1) := by decide +kernel
theorem dX7_emitFact_9 : decode cX7_emitFact 9 = .ok (.putfield 33, 3) := by decide +kernel
theorem dX7_emitFact_12 : decode cX7_emitFact 12 = .ok (.aload_n 0, 1) := by decide +kernel
theorem dX7_emitFact_13 : decode cX7_emitFact 13 = .ok (.bipush 24, 2) := by decide +kernel
theorem dX7_emitFact_15 : decode cX7_emitFact 15 = .ok (.iload_n 1, 1) := by decide +kernel
theorem dX7_emitFact_16 : decode cX7_emitFact 16 = .ok (.invokevirtual 38, 3) := by decide +kernel
theorem dX7_emitFact_19 : decode cX7_emitFact 19 = .ok (.return_, 1) := by decide +kernel
theorem dX7_startClause_0 : decode cX7_startClause 0 = .ok (.aload_n 0, 1) := by decide +kernel
theorem dX7_startClause_1 : decode cX7_startClause 1 = .ok (.getfield 30, 3) := by decide +kernel
theorem dX7_startClause_4 : decode cX7_startClause 4 = .ok (.bipush 24, 2) := by decide +kernel
theorem dX7_startClause_6 : decode cX7_startClause 6 = .ok (.if_icmp .ge 25, 3) := by decide +kernel
theorem dX7_startClause_9 : decode cX7_startClause 9 = .ok (.aload_n 0, 1) := by decide +kernel
theorem dX7_startClause_10 : decode cX7_startClause 10 = .ok (.getfield 23, 3) := by decide +kernel
theorem dX7_startClause_13 : decode cX7_startClause 13 = .ok (.aload_n 0, 1) := by decide +kernel
theorem dX7_startClause_14 : decode cX7_startClause 14 = .ok (.getfield 30, 3) := by decide +kernel
theorem dX7_startClause_17 : decode cX7_startClause 17 = .ok (.iconst 4, 1) := by decide +kernel
theorem dX7_startClause_18 : decode cX7_startClause 18 = .ok (.imul, 1) := by decide +kernel
theorem dX7_startClause_19 : decode cX7_startClause 19 = .ok (.iload_n 1, 1) := by decide +kernel
theorem dX7_startClause_20 : decode cX7_startClause 20 = .ok (.iastore, 1) := by decide +kernel
theorem dX7_startClause_21 : decode cX7_startClause 21 = .ok (.aload_n 0, 1) := by decide +kernel
theorem dX7_startClause_22 : decode cX7_startClause 22 = .ok (.dup, 1) := by decide +kernel
theorem dX7_startClause_23 : decode cX7_startClause 23 = .ok (.getfield 30, 3) := by decide +kernel
theorem dX7_startClause_26 : decode cX7_startClause 26 = .ok (.iconst 1, 1) := by decide +kernel
theorem dX7_startClause_27 : decode cX7_startClause 27 = .ok (.iadd, 1) := by decide +kernel
theorem dX7_startClause_28 : decode cX7_startClause 28 = .ok (.putfield 30, 3) := by decide +kernel
theorem dX7_startClause_31 : decode cX7_startClause 31 = .ok (.return_, 1) := by decide +kernel
theorem dX7_tellOfClause_0 : decode cX7_tellOfClause 0 = .ok (.aload_n 0, 1) := by decide +kernel
theorem dX7_tellOfClause_1 : decode cX7_tellOfClause 1 = .ok (.getfield 30, 3) := by decide +kernel
theorem dX7_tellOfClause_4 : decode cX7_tellOfClause 4 = .ok (.ifCond .le 28, 3) := by decide +kernel
theorem dX7_tellOfClause_7 : decode cX7_tellOfClause 7 = .ok (.iload_n 1, 1) := by decide +kernel
theorem dX7_tellOfClause_8 : decode cX7_tellOfClause 8 = .ok (.ifCond .lt 24, 3) := by decide +kernel
theorem dX7_tellOfClause_11 : decode cX7_tellOfClause 11 = .ok (.iload_n 1, 1) := by decide +kernel
theorem dX7_tellOfClause_12 : decode cX7_tellOfClause 12 = .ok (.iconst 4, 1) := by decide +kernel
theorem dX7_tellOfClause_13 : decode cX7_tellOfClause 13 = .ok (.if_icmp .ge 19, 3) := by decide +kernel
theorem dX7_tellOfClause_16 : decode cX7_tellOfClause 16 = .ok (.aload_n 0, 1) := by decide +kernel
theorem dX7_tellOfClause_17 : decode cX7_tellOfClause 17 = .ok (.getfield 23, 3) := by decide +kernel
theorem dX7_tellOfClause_20 : decode cX7_tellOfClause 20 = .ok (.aload_n 0, 1) := by decide +kernel
theorem dX7_tellOfClause_21 : decode cX7_tellOfClause 21 = .ok (.getfield 30, 3) := by decide +kernel
theorem dX7_tellOfClause_24 : decode cX7_tellOfClause 24 = .ok (.iconst 1, 1) := by decide +kernel
theorem dX7_tellOfClause_25 : decode cX7_tellOfClause 25 = .ok (.isub, 1) := by decide +kernel
theorem dX7_tellOfClause_26 : decode cX7_tellOfClause 26 = .ok (.iconst 4, 1) := by decide +kernel
theorem dX7_tellOfClause_27 : decode cX7_tellOfClause 27 = .ok (.imul, 1) := by decide +kernel
theorem dX7_tellOfClause_28 : decode cX7_tellOfClause 28 = .ok (.iload_n 1, 1) := by decide +kernel
theorem dX7_tellOfClause_29 : decode cX7_tellOfClause 29 = .ok (.iadd, 1) := by decide +kernel
theorem dX7_tellOfClause_30 : decode cX7_tellOfClause 30 = .ok (.iload_n 2, 1) := by decide +kernel
theorem dX7_tellOfClause_31 : decode cX7_tellOfClause 31 = .ok (.iastore, 1) := by decide +kernel
theorem dX7_tellOfClause_32 : decode cX7_tellOfClause 32 = .ok (.return_, 1) := by decide +kernel
theorem dX7_clauseAt_0 : decode cX7_clauseAt 0 = .ok (.iload_n 1, 1) := by decide +kernel
theorem dX7_clauseAt_1 : decode cX7_clauseAt 1 = .ok (.ifCond .lt 24, 3) := by decide +kernel
theorem dX7_clauseAt_4 : decode cX7_clauseAt 4 = .ok (.iload_n 1, 1) := by decide +kernel
theorem dX7_clauseAt_5 : decode cX7_clauseAt 5 = .ok (.aload_n 0, 1) := by decide +kernel
theorem dX7_clauseAt_6 : decode cX7_clauseAt 6 = .ok (.getfield 30, 3) := by decide +kernel
theorem dX7_clauseAt_9 : decode cX7_clauseAt 9 = .ok (.if_icmp .ge 16, 3) := by decide +kernel
theorem dX7_clauseAt_12 : decode cX7_clauseAt 12 = .ok (.iload_n 2, 1) := by decide +kernel
theorem dX7_clauseAt_13 : decode cX7_clauseAt 13 = .ok (.ifCond .lt 12, 3) := by decide +kernel
theorem dX7_clauseAt_16 : decode cX7_clauseAt 16 = .ok (.iload_n 2, 1) := by decide +kernel
theorem dX7_clauseAt_17 : decode cX7_clauseAt 17 = .ok (.iconst 4, 1) := by decide +kernel
theorem dX7_clauseAt_18 : decode cX7_clauseAt 18 = .ok (.if_icmp .ge 7, 3) := by decide +kernel
theorem dX7_clauseAt_21 : decode cX7_clauseAt 21 = .ok (.iconst 1, 1) := by decide +kernel
theorem dX7_clauseAt_22 : decode cX7_clauseAt 22 = .ok (.goto 4, 3) := by decide +kernel
theorem dX7_clauseAt_25 : decode cX7_clauseAt 25 = .ok (.iconst 0, 1) := by decide +kernel
theorem dX7_clauseAt_26 : decode cX7_clauseAt 26 = .ok (.istore_n 3, 1) := by decide +kernel
theorem dX7_clauseAt_27 : decode cX7_clauseAt 27 = .ok (.iload_n 3, 1) := by decide +kernel
theorem dX7_clauseAt_28 : decode cX7_clauseAt 28 = .ok (.ifCond .eq 16, 3) := by decide +kernel
theorem dX7_clauseAt_31 : decode cX7_clauseAt 31 = .ok (.aload_n 0, 1) := by decide +kernel
theorem dX7_clauseAt_32 : decode cX7_clauseAt 32 = .ok (.getfield 23, 3) := by decide +kernel
theorem dX7_clauseAt_35 : decode cX7_clauseAt 35 = .ok (.iload_n 1, 1) := by decide +kernel
theorem dX7_clauseAt_36 : decode cX7_clauseAt 36 = .ok (.iconst 4, 1) := by decide +kernel
theorem dX7_clauseAt_37 : decode cX7_clauseAt 37 = .ok (.imul, 1) := by decide +kernel
theorem dX7_clauseAt_38 : decode cX7_clauseAt 38 = .ok (.iload_n 2, 1) := by decide +kernel
theorem dX7_clauseAt_39 : decode cX7_clauseAt 39 = .ok (.iadd, 1) := by decide +kernel
theorem dX7_clauseAt_40 : decode cX7_clauseAt 40 = .ok (.iaload, 1) := by decide +kernel
theorem dX7_clauseAt_41 : decode cX7_clauseAt 41 = .ok (.goto 4, 3) := by decide +kernel
theorem dX7_clauseAt_44 : decode cX7_clauseAt 44 = .ok (.iconst (-1), 1) := by decide +kernel
theorem dX7_clauseAt_45 : decode cX7_clauseAt 45 = .ok (.ireturn, 1) := by decide +kernel
theorem dX9_init_0 : decode cX9_init 0 = .ok (.aload_n 0, 1) := by decide +kernel
theorem dX9_init_1 : decode cX9_init 1 = .ok (.invokespecial 3, 3) := by decide +kernel
theorem dX9_init_4 : decode cX9_init 4 = .ok (.new 9, 3) := by decide +kernel
theorem dX9_init_7 : decode cX9_init 7 = .ok (.dup, 1) := by decide +kernel
theorem dX9_init_8 : decode cX9_init 8 = .ok (.invokespecial 11, 3) := by decide +kernel
theorem dX9_init_11 : decode cX9_init 11 = .ok (.astore_n 1, 1) := by decide +kernel
theorem dX9_init_12 : decode cX9_init 12 = .ok (.new 12, 3) := by decide +kernel
theorem dX9_init_15 : decode cX9_init 15 = .ok (.dup, 1) := by decide +kernel
theorem dX9_init_16 : decode cX9_init 16 = .ok (.invokespecial 14, 3) := by decide +kernel
theorem dX9_init_19 : decode cX9_init 19 = .ok (.astore_n 2, 1) := by decide +kernel
theorem dX9_init_20 : decode cX9_init 20 = .ok (.aload_n 0, 1) := by decide +kernel
theorem dX9_init_21 : decode cX9_init 21 = .ok (.aload_n 1, 1) := by decide +kernel
theorem dX9_init_22 : decode cX9_init 22 = .ok (.putfield 15, 3) := by decide +kernel
theorem dX9_init_25 : decode cX9_init 25 = .ok (.aload_n 0, 1) := by decide +kernel
theorem dX9_init_26 : decode cX9_init 26 = .ok (.aload_n 2, 1) := by decide +kernel
theorem dX9_init_27 : decode cX9_init 27 = .ok (.putfield 19, 3) := by decide +kernel
theorem dX9_init_30 : decode cX9_init 30 = .ok (.aload_n 0, 1) := by decide +kernel
theorem dX9_init_31 : decode cX9_init 31 = .ok (.new 23, 3) := by decide +kernel
theorem dX9_init_34 : decode cX9_init 34 = .ok (.dup, 1) := by decide +kernel
theorem dX9_init_35 : decode cX9_init 35 = .ok (.aload_n 1, 1) := by decide +kernel
theorem dX9_init_36 : decode cX9_init 36 = .ok (.aload_n 2, 1) := by decide +kernel
theorem dX9_init_37 : decode cX9_init 37 = .ok (.invokespecial 25, 3) := by decide +kernel
theorem dX9_init_40 : decode cX9_init 40 = .ok (.putfield 28, 3) := by decide +kernel
theorem dX9_init_43 : decode cX9_init 43 = .ok (.aload_n 0, 1) := by decide +kernel
theorem dX9_init_44 : decode cX9_init 44 = .ok (.new 9, 3) := by decide +kernel
theorem dX9_init_47 : decode cX9_init 47 = .ok (.dup, 1) := by decide +kernel
theorem dX9_init_48 : decode cX9_init 48 = .ok (.invokespecial 11, 3) := by decide +kernel
theorem dX9_init_51 : decode cX9_init 51 = .ok (.putfield 32, 3) := by decide +kernel
theorem dX9_init_54 : decode cX9_init 54 = .ok (.aload_n 0, 1) := by decide +kernel
theorem dX9_init_55 : decode cX9_init 55 = .ok (.new 35, 3) := by decide +kernel
theorem dX9_init_58 : decode cX9_init 58 = .ok (.dup, 1) := by decide +kernel
theorem dX9_init_59 : decode cX9_init 59 = .ok (.invokespecial 37, 3) := by decide +kernel
theorem dX9_init_62 : decode cX9_init 62 = .ok (.putfield 38, 3) := by decide +kernel
theorem dX9_init_65 : decode cX9_init 65 = .ok (.aload_n 0, 1) := by decide +kernel
theorem dX9_init_66 : decode cX9_init 66 = .ok (.iconst 4, 1) := by decide +kernel
theorem dX9_init_67 : decode cX9_init 67 = .ok (.anewarray 42, 3) := by decide +kernel
theorem dX9_init_70 : decode cX9_init 70 = .ok (.putfield 44, 3) := by decide +kernel
theorem dX9_init_73 : decode cX9_init 73 = .ok (.iconst 0, 1) := by decide +kernel
theorem dX9_init_74 : decode cX9_init 74 = .ok (.istore_n 3, 1) := by decide +kernel
theorem dX9_init_75 : decode cX9_init 75 = .ok (.iload_n 3, 1) := by decide +kernel
theorem dX9_init_76 : decode cX9_init 76 = .ok (.iconst 4, 1) := by decide +kernel
theorem dX9_init_77 : decode cX9_init 77 = .ok (.if_icmp .ge 22, 3) := by decide +kernel
theorem dX9_init_80 : decode cX9_init 80 = .ok (.aload_n 0, 1) := by decide +kernel
theorem dX9_init_81 : decode cX9_init 81 = .ok (.getfield 44, 3) := by decide +kernel
theorem dX9_init_84 : decode cX9_init 84 = .ok (.iload_n 3, 1) := by decide +kernel
theorem dX9_init_85 : decode cX9_init 85 = .ok (.new 42, 3) := by decide +kernel
theorem dX9_init_88 : decode cX9_init 88 = .ok (.dup, 1) := by decide +kernel
theorem dX9_init_89 : decode cX9_init 89 = .ok (.invokespecial 48, 3) := by decide +kernel
theorem dX9_init_92 : decode cX9_init 92 = .ok (.aastore, 1) := by decide +kernel
theorem dX9_init_93 : decode cX9_init 93 = .ok (.iinc 3 1, 3) := by decide +kernel
theorem dX9_init_96 : decode cX9_init 96 = .ok (.goto (-21), 3) := by decide +kernel
theorem dX9_init_99 : decode cX9_init 99 = .ok (.aload_n 0, 1) := by decide +kernel
theorem dX9_init_100 : decode cX9_init 100 = .ok (.sipush 256, 3) := by decide +kernel
theorem dX9_init_103 : decode cX9_init 103 = .ok (.newarray .int, 2) := by decide +kernel
theorem dX9_init_105 : decode cX9_init 105 = .ok (.putfield 49, 3) := by decide +kernel
theorem dX9_init_108 : decode cX9_init 108 = .ok (.aload_n 0, 1) := by decide +kernel
theorem dX9_init_109 : decode cX9_init 109 = .ok (.iconst (-1), 1) := by decide +kernel
theorem dX9_init_110 : decode cX9_init 110 = .ok (.putfield 53, 3) := by decide +kernel
theorem dX9_init_113 : decode cX9_init 113 = .ok (.aload_n 0, 1) := by decide +kernel
theorem dX9_init_114 : decode cX9_init 114 = .ok (.iconst (-1), 1) := by decide +kernel
theorem dX9_init_115 : decode cX9_init 115 = .ok (.putfield 57, 3) := by decide +kernel
theorem dX9_init_118 : decode cX9_init 118 = .ok (.return_, 1) := by decide +kernel
theorem dX9_newCase_0 : decode cX9_newCase 0 = .ok (.iload_n 1, 1) := by decide +kernel
theorem dX9_newCase_1 : decode cX9_newCase 1 = .ok (.iconst 0, 1) := by decide +kernel
theorem dX9_newCase_2 : decode cX9_newCase 2 = .ok (.iconst 5, 1) := by decide +kernel
theorem dX9_newCase_3 : decode cX9_newCase 3 = .ok (.invokestatic 60, 3) := by decide +kernel
theorem dX9_newCase_6 : decode cX9_newCase 6 = .ok (.ifCond .eq 39, 3) := by decide +kernel
theorem dX9_newCase_9 : decode cX9_newCase 9 = .ok (.iload_n 2, 1) := by decide +kernel
theorem dX9_newCase_10 : decode cX9_newCase 10 = .ok (.iconst 1, 1) := by decide +kernel
theorem dX9_newCase_11 : decode cX9_newCase 11 = .ok (.bipush 9, 2) := by decide +kernel
theorem dX9_newCase_13 : decode cX9_newCase 13 = .ok (.invokestatic 60, 3) := by decide +kernel
theorem dX9_newCase_16 : decode cX9_newCase 16 = .ok (.ifCond .eq 29, 3) := by decide +kernel
theorem dX9_newCase_19 : decode cX9_newCase 19 = .ok (.iload_n 3, 1) := by decide +kernel
theorem dX9_newCase_20 : decode cX9_newCase 20 = .ok (.iconst 1, 1) := by decide +kernel
theorem dX9_newCase_21 : decode cX9_newCase 21 = .ok (.bipush 9, 2) := by decide +kernel
theorem dX9_newCase_23 : decode cX9_newCase 23 = .ok (.invokestatic 60, 3) := by decide +kernel
theorem dX9_newCase_26 : decode cX9_newCase 26 = .ok (.ifCond .eq 19, 3) := by decide +kernel
theorem dX9_newCase_29 : decode cX9_newCase 29 = .ok (.iload 4, 2) := by decide +kernel
theorem dX9_newCase_31 : decode cX9_newCase 31 = .ok (.iconst 0, 1) := by decide +kernel
theorem dX9_newCase_32 : decode cX9_newCase 32 = .ok (.sipush 255, 3) := by decide +kernel
theorem dX9_newCase_35 : decode cX9_newCase 35 = .ok (.invokestatic 60, 3) := by decide +kernel
theorem dX9_newCase_38 : decode cX9_newCase 38 = .ok (.ifCond .eq 7, 3) := by decide +kernel
theorem dX9_newCase_41 : decode cX9_newCase 41 = .ok (.iconst 1, 1) := by decide +kernel
theorem dX9_newCase_42 : decode cX9_newCase 42 = .ok (.goto 4, 3) := by decide +kernel
theorem dX9_newCase_45 : decode cX9_newCase 45 = .ok (.iconst 0, 1) := by decide +kernel
theorem dX9_newCase_46 : decode cX9_newCase 46 = .ok (.istore 5, 2) := by decide +kernel
theorem dX9_newCase_48 : decode cX9_newCase 48 = .ok (.iload 5, 2) := by decide +kernel
theorem dX9_newCase_50 : decode cX9_newCase 50 = .ok (.ifCond .eq 16, 3) := by decide +kernel
theorem dX9_newCase_53 : decode cX9_newCase 53 = .ok (.aload_n 0, 1) := by decide +kernel
theorem dX9_newCase_54 : decode cX9_newCase 54 = .ok (.getfield 15, 3) := by decide +kernel
theorem dX9_newCase_57 : decode cX9_newCase 57 = .ok (.getfield 64, 3) := by decide +kernel
theorem dX9_newCase_60 : decode cX9_newCase 60 = .ok (.invokevirtual 68, 3) := by decide +kernel
theorem dX9_newCase_63 : decode cX9_newCase 63 = .ok (.ifCond .eq 5, 3) := by decide +kernel
theorem dX9_newCase_66 : decode cX9_newCase 66 = .ok (.iconst (-1), 1) := by decide +kernel
theorem dX9_newCase_67 : decode cX9_newCase 67 = .ok (.ireturn, 1) := by decide +kernel
theorem dX9_newCase_68 : decode cX9_newCase 68 = .ok (.aload_n 0, 1) := by decide +kernel
theorem dX9_newCase_69 : decode cX9_newCase 69 = .ok (.getfield 15, 3) := by decide +kernel
theorem dX9_newCase_72 : decode cX9_newCase 72 = .ok (.getfield 64, 3) := by decide +kernel
theorem dX9_newCase_75 : decode cX9_newCase 75 = .ok (.iload_n 1, 1) := by decide +kernel
theorem dX9_newCase_76 : decode cX9_newCase 76 = .ok (.iload_n 2, 1) := by decide +kernel
theorem dX9_newCase_77 : decode cX9_newCase 77 = .ok (.iload_n 3, 1) := by decide +kernel
theorem dX9_newCase_78 : decode cX9_newCase 78 = .ok (.iload 4, 2) := by decide +kernel
theorem dX9_newCase_80 : decode cX9_newCase 80 = .ok (.invokevirtual 74, 3) := by decide +kernel
theorem dX9_newCase_83 : decode cX9_newCase 83 = .ok (.iconst 1, 1) := by decide +kernel
theorem dX9_newCase_84 : decode cX9_newCase 84 = .ok (.isub, 1) := by decide +kernel
theorem dX9_newCase_85 : decode cX9_newCase 85 = .ok (.ireturn, 1) := by decide +kernel
theorem dX9_feed_0 : decode cX9_feed 0 = .ok (.aload_n 0, 1) := by decide +kernel
theorem dX9_feed_1 : decode cX9_feed 1 = .ok (.getfield 38, 3) := by decide +kernel
theorem dX9_feed_4 : decode cX9_feed 4 = .ok (.invokevirtual 78, 3) := by decide +kernel
theorem dX9_feed_7 : decode cX9_feed 7 = .ok (.ifCond .ne 5, 3) := by decide +kernel
theorem dX9_feed_10 : decode cX9_feed 10 = .ok (.iconst (-1), 1) := by decide +kernel
theorem dX9_feed_11 : decode cX9_feed 11 = .ok (.ireturn, 1) := by decide +kernel
theorem dX9_feed_12 : decode cX9_feed 12 = .ok (.aload_n 0, 1) := by decide +kernel
theorem dX9_feed_13 : decode cX9_feed 13 = .ok (.getfield 38, 3) := by decide +kernel
theorem dX9_feed_16 : decode cX9_feed 16 = .ok (.iload_n 1, 1) := by decide +kernel
theorem dX9_feed_17 : decode cX9_feed 17 = .ok (.invokevirtual 81, 3) := by decide +kernel
theorem dX9_feed_20 : decode cX9_feed 20 = .ok (.aload_n 0, 1) := by decide +kernel
theorem dX9_feed_21 : decode cX9_feed 21 = .ok (.getfield 38, 3) := by decide +kernel
theorem dX9_feed_24 : decode cX9_feed 24 = .ok (.iload_n 2, 1) := by decide +kernel
theorem dX9_feed_25 : decode cX9_feed 25 = .ok (.invokevirtual 81, 3) := by decide +kernel
theorem dX9_feed_28 : decode cX9_feed 28 = .ok (.aload_n 0, 1) := by decide +kernel
theorem dX9_feed_29 : decode cX9_feed 29 = .ok (.getfield 38, 3) := by decide +kernel
theorem dX9_feed_32 : decode cX9_feed 32 = .ok (.iload_n 3, 1) := by decide +kernel
theorem dX9_feed_33 : decode cX9_feed 33 = .ok (.invokevirtual 81, 3) := by decide +kernel
theorem dX9_feed_36 : decode cX9_feed 36 = .ok (.aload_n 0, 1) := by decide +kernel
theorem dX9_feed_37 : decode cX9_feed 37 = .ok (.getfield 38, 3) := by decide +kernel
theorem dX9_feed_40 : decode cX9_feed 40 = .ok (.iload 4, 2) := by decide +kernel
theorem dX9_feed_42 : decode cX9_feed 42 = .ok (.invokevirtual 81, 3) := by decide +kernel
theorem dX9_feed_45 : decode cX9_feed 45 = .ok (.aload_n 0, 1) := by decide +kernel
theorem dX9_feed_46 : decode cX9_feed 46 = .ok (.getfield 38, 3) := by decide +kernel
theorem dX9_feed_49 : decode cX9_feed 49 = .ok (.iload 5, 2) := by decide +kernel
theorem dX9_feed_51 : decode cX9_feed 51 = .ok (.invokevirtual 81, 3) := by decide +kernel
theorem dX9_feed_54 : decode cX9_feed 54 = .ok (.aload_n 0, 1) := by decide +kernel
theorem dX9_feed_55 : decode cX9_feed 55 = .ok (.getfield 38, 3) := by decide +kernel
theorem dX9_feed_58 : decode cX9_feed 58 = .ok (.getfield 85, 3) := by decide +kernel
theorem dX9_feed_61 : decode cX9_feed 61 = .ok (.ireturn, 1) := by decide +kernel
theorem dX9_end_0 : decode cX9_end 0 = .ok (.iload_n 1, 1) := by decide +kernel
theorem dX9_end_1 : decode cX9_end 1 = .ok (.iconst 0, 1) := by decide +kernel
theorem dX9_end_2 : decode cX9_end 2 = .ok (.aload_n 0, 1) := by decide +kernel
theorem dX9_end_3 : decode cX9_end 3 = .ok (.getfield 38, 3) := by decide +kernel
theorem dX9_end_6 : decode cX9_end 6 = .ok (.getfield 85, 3) := by decide +kernel
theorem dX9_end_9 : decode cX9_end 9 = .ok (.invokestatic 60, 3) := by decide +kernel
theorem dX9_end_12 : decode cX9_end 12 = .ok (.ifCond .ne 5, 3) := by decide +kernel
theorem dX9_end_15 : decode cX9_end 15 = .ok (.iconst (-1), 1) := by decide +kernel
theorem dX9_end_16 : decode cX9_end 16 = .ok (.ireturn, 1) := by decide +kernel
theorem dX9_end_17 : decode cX9_end 17 = .ok (.aload_n 0, 1) := by decide +kernel
theorem dX9_end_18 : decode cX9_end 18 = .ok (.getfield 38, 3) := by decide +kernel
theorem dX9_end_21 : decode cX9_end 21 = .ok (.iload_n 1, 1) := by decide +kernel
theorem dX9_end_22 : decode cX9_end 22 = .ok (.putfield 85, 3) := by decide +kernel
theorem dX9_end_25 : decode cX9_end 25 = .ok (.iload_n 1, 1) := by decide +kernel
theorem dX9_end_26 : decode cX9_end 26 = .ok (.ireturn, 1) := by decide +kernel
theorem dX9_text_0 : decode cX9_text 0 = .ok (.aload_n 0, 1) := by decide +kernel
theorem dX9_text_1 : decode cX9_text 1 = .ok (.getfield 15, 3) := by decide +kernel
theorem dX9_text_4 : decode cX9_text 4 = .ok (.getfield 88, 3) := by decide +kernel
theorem dX9_text_7 : decode cX9_text 7 = .ok (.istore_n 1, 1) := by decide +kernel
theorem dX9_text_8 : decode cX9_text 8 = .ok (.iload_n 1, 1) := by decide +kernel
theorem dX9_text_9 : decode cX9_text 9 = .ok (.iconst 0, 1) := by decide +kernel
theorem dX9_text_10 : decode cX9_text 10 = .ok (.iconst 3, 1) := by decide +kernel
theorem dX9_text_11 : decode cX9_text 11 = .ok (.invokestatic 60, 3) := by decide +kernel
theorem dX9_text_14 : decode cX9_text 14 = .ok (.ifCond .ne 5, 3) := by decide +kernel
theorem dX9_text_17 : decode cX9_text 17 = .ok (.iconst (-1), 1) := by decide +kernel
theorem dX9_text_18 : decode cX9_text 18 = .ok (.ireturn, 1) := by decide +kernel
theorem dX9_text_19 : decode cX9_text 19 = .ok (.aload_n 0, 1) := by decide +kernel
theorem dX9_text_20 : decode cX9_text 20 = .ok (.getfield 38, 3) := by decide +kernel
theorem dX9_text_23 : decode cX9_text 23 = .ok (.invokevirtual 90, 3) := by decide +kernel
theorem dX9_text_26 : decode cX9_text 26 = .ok (.new 93, 3) := by decide +kernel
theorem dX9_text_29 : decode cX9_text 29 = .ok (.dup, 1) := by decide +kernel
theorem dX9_text_30 : decode cX9_text 30 = .ok (.aload_n 0, 1) := by decide +kernel
theorem dX9_text_31 : decode cX9_text 31 = .ok (.getfield 38, 3) := by decide +kernel
theorem dX9_text_34 : decode cX9_text 34 = .ok (.aload_n 0, 1) := by decide +kernel
theorem dX9_text_35 : decode cX9_text 35 = .ok (.getfield 44, 3) := by decide +kernel
theorem dX9_text_38 : decode cX9_text 38 = .ok (.iload_n 1, 1) := by decide +kernel
theorem dX9_text_39 : decode cX9_text 39 = .ok (.aaload, 1) := by decide +kernel
theorem dX9_text_40 : decode cX9_text 40 = .ok (.invokespecial 95, 3) := by decide +kernel
theorem dX9_text_43 : decode cX9_text 43 = .ok (.astore_n 2, 1) := by decide +kernel
theorem dX9_text_44 : decode cX9_text 44 = .ok (.aload_n 2, 1) := by decide +kernel
theorem dX9_text_45 : decode cX9_text 45 = .ok (.invokevirtual 98, 3) := by decide +kernel
theorem dX9_text_48 : decode cX9_text 48 = .ok (.istore_n 3, 1) := by decide +kernel
theorem dX9_text_49 : decode cX9_text 49 = .ok (.aload_n 0, 1) := by decide +kernel
theorem dX9_text_50 : decode cX9_text 50 = .ok (.aload_n 2, 1) := by decide +kernel
theorem dX9_text_51 : decode cX9_text 51 = .ok (.getfield 101, 3) := by decide +kernel
theorem dX9_text_54 : decode cX9_text 54 = .ok (.putfield 53, 3) := by decide +kernel
theorem dX9_text_57 : decode cX9_text 57 = .ok (.aload_n 0, 1) := by decide +kernel
theorem dX9_text_58 : decode cX9_text 58 = .ok (.aload_n 2, 1) := by decide +kernel
theorem dX9_text_59 : decode cX9_text 59 = .ok (.getfield 102, 3) := by decide +kernel
theorem dX9_text_62 : decode cX9_text 62 = .ok (.putfield 57, 3) := by decide +kernel
theorem dX9_text_65 : decode cX9_text 65 = .ok (.aload_n 0, 1) := by decide +kernel
theorem dX9_text_66 : decode cX9_text 66 = .ok (.getfield 38, 3) := by decide +kernel
theorem dX9_text_69 : decode cX9_text 69 = .ok (.iconst 0, 1) := by decide +kernel
theorem dX9_text_70 : decode cX9_text 70 = .ok (.putfield 85, 3) := by decide +kernel
theorem dX9_text_73 : decode cX9_text 73 = .ok (.iload_n 3, 1) := by decide +kernel
theorem dX9_text_74 : decode cX9_text 74 = .ok (.ifCond .ne 5, 3) := by decide +kernel
theorem dX9_text_77 : decode cX9_text 77 = .ok (.iconst (-1), 1) := by decide +kernel
theorem dX9_text_78 : decode cX9_text 78 = .ok (.ireturn, 1) := by decide +kernel
theorem dX9_text_79 : decode cX9_text 79 = .ok (.aload_n 0, 1) := by decide +kernel
theorem dX9_text_80 : decode cX9_text 80 = .ok (.getfield 15, 3) := by decide +kernel
theorem dX9_text_83 : decode cX9_text 83 = .ok (.iload_n 1, 1) := by decide +kernel
theorem dX9_text_84 : decode cX9_text 84 = .ok (.iconst 1, 1) := by decide +kernel
theorem dX9_text_85 : decode cX9_text 85 = .ok (.iadd, 1) := by decide +kernel
theorem dX9_text_86 : decode cX9_text 86 = .ok (.putfield 88, 3) := by decide +kernel
theorem dX9_text_89 : decode cX9_text 89 = .ok (.iload_n 1, 1) := by decide +kernel
theorem dX9_text_90 : decode cX9_text 90 = .ok (.ireturn, 1) := by decide +kernel
theorem dX9_fault_0 : decode cX9_fault 0 = .ok (.iload_n 1, 1) := by decide +kernel
theorem dX9_fault_1 : decode cX9_fault 1 = .ok (.ifCond .ne 8, 3) := by decide +kernel
theorem dX9_fault_4 : decode cX9_fault 4 = .ok (.aload_n 0, 1) := by decide +kernel
theorem dX9_fault_5 : decode cX9_fault 5 = .ok (.getfield 53, 3) := by decide +kernel
theorem dX9_fault_8 : decode cX9_fault 8 = .ok (.ireturn, 1) := by decide +kernel
theorem dX9_fault_9 : decode cX9_fault 9 = .ok (.iload_n 1, 1) := by decide +kernel
theorem dX9_fault_10 : decode cX9_fault 10 = .ok (.iconst 1, 1) := by decide +kernel
theorem dX9_fault_11 : decode cX9_fault 11 = .ok (.if_icmp .ne 10, 3) := by decide +kernel
theorem dX9_fault_14 : decode cX9_fault 14 = .ok (.aload_n 0, 1) := by decide +kernel
theorem dX9_fault_15 : decode cX9_fault 15 = .ok (.getfield 57, 3) := by decide +kernel
theorem dX9_fault_18 : decode cX9_fault 18 = .ok (.goto 4, 3) := by decide +kernel
theorem dX9_fault_21 : decode cX9_fault 21 = .ok (.iconst (-1), 1) := by decide +kernel
theorem dX9_fault_22 : decode cX9_fault 22 = .ok (.ireturn, 1) := by decide +kernel
theorem dX9_by_0 : decode cX9_by 0 = .ok (.iload_n 1, 1) := by decide +kernel
theorem dX9_by_1 : decode cX9_by 1 = .ok (.iconst (-1), 1) := by decide +kernel
theorem dX9_by_2 : decode cX9_by 2 = .ok (.if_icmp .eq 13, 3) := by decide +kernel
theorem dX9_by_5 : decode cX9_by 5 = .ok (.aload_n 0, 1) := by decide +kernel
theorem dX9_by_6 : decode cX9_by 6 = .ok (.iload_n 1, 1) := by decide +kernel
theorem dX9_by_7 : decode cX9_by 7 = .ok (.invokevirtual 103, 3) := by decide +kernel
theorem dX9_by_10 : decode cX9_by 10 = .ok (.ifCond .ne 5, 3) := by decide +kernel
theorem dX9_by_13 : decode cX9_by 13 = .ok (.iconst 0, 1) := by decide +kernel
theorem dX9_by_14 : decode cX9_by 14 = .ok (.ireturn, 1) := by decide +kernel
theorem dX9_by_15 : decode cX9_by 15 = .ok (.aload_n 0, 1) := by decide +kernel
theorem dX9_by_16 : decode cX9_by 16 = .ok (.getfield 15, 3) := by decide +kernel
theorem dX9_by_19 : decode cX9_by 19 = .ok (.iload_n 1, 1) := by decide +kernel
theorem dX9_by_20 : decode cX9_by 20 = .ok (.putfield 107, 3) := by decide +kernel
theorem dX9_by_23 : decode cX9_by 23 = .ok (.iconst 1, 1) := by decide +kernel
theorem dX9_by_24 : decode cX9_by 24 = .ok (.ireturn, 1) := by decide +kernel
theorem dX9_call_0 : decode cX9_call 0 = .ok (.aload_n 0, 1) := by decide +kernel
theorem dX9_call_1 : decode cX9_call 1 = .ok (.getfield 15, 3) := by decide +kernel
theorem dX9_call_4 : decode cX9_call 4 = .ok (.iload_n 1, 1) := by decide +kernel
theorem dX9_call_5 : decode cX9_call 5 = .ok (.invokevirtual 110, 3) := by decide +kernel
theorem dX9_call_8 : decode cX9_call 8 = .ok (.ifCond .ne 5, 3) := by decide +kernel
theorem dX9_call_11 : decode cX9_call 11 = .ok (.iconst 0, 1) := by decide +kernel
theorem dX9_call_12 : decode cX9_call 12 = .ok (.ireturn, 1) := by decide +kernel
theorem dX9_call_13 : decode cX9_call 13 = .ok (.aload_n 0, 1) := by decide +kernel
theorem dX9_call_14 : decode cX9_call 14 = .ok (.getfield 15, 3) := by decide +kernel
theorem dX9_call_17 : decode cX9_call 17 = .ok (.invokevirtual 113, 3) := by decide +kernel
theorem dX9_call_20 : decode cX9_call 20 = .ok (.aload_n 0, 1) := by decide +kernel
theorem dX9_call_21 : decode cX9_call 21 = .ok (.getfield 15, 3) := by decide +kernel
theorem dX9_call_24 : decode cX9_call 24 = .ok (.iload_n 1, 1) := by decide +kernel
theorem dX9_call_25 : decode cX9_call 25 = .ok (.invokevirtual 116, 3) := by decide +kernel
theorem dX9_call_28 : decode cX9_call 28 = .ok (.iconst 1, 1) := by decide +kernel
theorem dX9_call_29 : decode cX9_call 29 = .ok (.ireturn, 1) := by decide +kernel
theorem dX9_delay_0 : decode cX9_delay 0 = .ok (.aload_n 0, 1) := by decide +kernel
theorem dX9_delay_1 : decode cX9_delay 1 = .ok (.getfield 15, 3) := by decide +kernel
theorem dX9_delay_4 : decode cX9_delay 4 = .ok (.invokevirtual 119, 3) := by decide +kernel
theorem dX9_delay_7 : decode cX9_delay 7 = .ok (.ifCond .ne 5, 3) := by decide +kernel
theorem dX9_delay_10 : decode cX9_delay 10 = .ok (.iconst (-1), 1) := by decide +kernel
theorem dX9_delay_11 : decode cX9_delay 11 = .ok (.ireturn, 1) := by decide +kernel
theorem dX9_delay_12 : decode cX9_delay 12 = .ok (.aload_n 0, 1) := by decide +kernel
theorem dX9_delay_13 : decode cX9_delay 13 = .ok (.getfield 15, 3) := by decide +kernel
theorem dX9_delay_16 : decode cX9_delay 16 = .ok (.invokevirtual 113, 3) := by decide +kernel
theorem dX9_delay_19 : decode cX9_delay 19 = .ok (.aload_n 0, 1) := by decide +kernel
theorem dX9_delay_20 : decode cX9_delay 20 = .ok (.getfield 15, 3) := by decide +kernel
theorem dX9_delay_23 : decode cX9_delay 23 = .ok (.invokevirtual 122, 3) := by decide +kernel
theorem dX9_delay_26 : decode cX9_delay 26 = .ok (.aload_n 0, 1) := by decide +kernel
theorem dX9_delay_27 : decode cX9_delay 27 = .ok (.getfield 15, 3) := by decide +kernel
theorem dX9_delay_30 : decode cX9_delay 30 = .ok (.getfield 125, 3) := by decide +kernel
theorem dX9_delay_33 : decode cX9_delay 33 = .ok (.bipush 8, 2) := by decide +kernel
theorem dX9_delay_35 : decode cX9_delay 35 = .ok (.iaload, 1) := by decide +kernel
theorem dX9_delay_36 : decode cX9_delay 36 = .ok (.ireturn, 1) := by decide +kernel
theorem dX9_appeal_0 : decode cX9_appeal 0 = .ok (.aload_n 0, 1) := by decide +kernel
theorem dX9_appeal_1 : decode cX9_appeal 1 = .ok (.getfield 15, 3) := by decide +kernel
theorem dX9_appeal_4 : decode cX9_appeal 4 = .ok (.iload_n 1, 1) := by decide +kernel
theorem dX9_appeal_5 : decode cX9_appeal 5 = .ok (.invokevirtual 128, 3) := by decide +kernel
theorem dX9_appeal_8 : decode cX9_appeal 8 = .ok (.ifCond .ne 5, 3) := by decide +kernel
theorem dX9_appeal_11 : decode cX9_appeal 11 = .ok (.iconst 0, 1) := by decide +kernel
theorem dX9_appeal_12 : decode cX9_appeal 12 = .ok (.ireturn, 1) := by decide +kernel
theorem dX9_appeal_13 : decode cX9_appeal 13 = .ok (.aload_n 0, 1) := by decide +kernel
theorem dX9_appeal_14 : decode cX9_appeal 14 = .ok (.getfield 15, 3) := by decide +kernel
theorem dX9_appeal_17 : decode cX9_appeal 17 = .ok (.invokevirtual 113, 3) := by decide +kernel
theorem dX9_appeal_20 : decode cX9_appeal 20 = .ok (.aload_n 0, 1) := by decide +kernel
theorem dX9_appeal_21 : decode cX9_appeal 21 = .ok (.getfield 15, 3) := by decide +kernel
theorem dX9_appeal_24 : decode cX9_appeal 24 = .ok (.iload_n 1, 1) := by decide +kernel
theorem dX9_appeal_25 : decode cX9_appeal 25 = .ok (.invokevirtual 131, 3) := by decide +kernel
theorem dX9_appeal_28 : decode cX9_appeal 28 = .ok (.iconst 1, 1) := by decide +kernel
theorem dX9_appeal_29 : decode cX9_appeal 29 = .ok (.ireturn, 1) := by decide +kernel
theorem dX9_gust_0 : decode cX9_gust 0 = .ok (.iload_n 1, 1) := by decide +kernel
theorem dX9_gust_1 : decode cX9_gust 1 = .ok (.iconst 0, 1) := by decide +kernel
theorem dX9_gust_2 : decode cX9_gust 2 = .ok (.iconst 3, 1) := by decide +kernel
theorem dX9_gust_3 : decode cX9_gust 3 = .ok (.invokestatic 60, 3) := by decide +kernel
theorem dX9_gust_6 : decode cX9_gust 6 = .ok (.ifCond .eq 17, 3) := by decide +kernel
theorem dX9_gust_9 : decode cX9_gust 9 = .ok (.iload_n 2, 1) := by decide +kernel
theorem dX9_gust_10 : decode cX9_gust 10 = .ok (.iconst 0, 1) := by decide +kernel
theorem dX9_gust_11 : decode cX9_gust 11 = .ok (.bipush 9, 2) := by decide +kernel
theorem dX9_gust_13 : decode cX9_gust 13 = .ok (.invokestatic 60, 3) := by decide +kernel
theorem dX9_gust_16 : decode cX9_gust 16 = .ok (.ifCond .eq 7, 3) := by decide +kernel
theorem dX9_gust_19 : decode cX9_gust 19 = .ok (.iconst 1, 1) := by decide +kernel
theorem dX9_gust_20 : decode cX9_gust 20 = .ok (.goto 4, 3) := by decide +kernel
theorem dX9_gust_23 : decode cX9_gust 23 = .ok (.iconst 0, 1) := by decide +kernel
theorem dX9_gust_24 : decode cX9_gust 24 = .ok (.istore_n 3, 1) := by decide +kernel
theorem dX9_gust_25 : decode cX9_gust 25 = .ok (.iload_n 3, 1) := by decide +kernel
theorem dX9_gust_26 : decode cX9_gust 26 = .ok (.ifCond .eq 29, 3) := by decide +kernel
theorem dX9_gust_29 : decode cX9_gust 29 = .ok (.aload_n 0, 1) := by decide +kernel
theorem dX9_gust_30 : decode cX9_gust 30 = .ok (.getfield 15, 3) := by decide +kernel
theorem dX9_gust_33 : decode cX9_gust 33 = .ok (.getfield 125, 3) := by decide +kernel
theorem dX9_gust_36 : decode cX9_gust 36 = .ok (.iconst 0, 1) := by decide +kernel
theorem dX9_gust_37 : decode cX9_gust 37 = .ok (.iaload, 1) := by decide +kernel
theorem dX9_gust_38 : decode cX9_gust 38 = .ok (.iload_n 1, 1) := by decide +kernel
theorem dX9_gust_39 : decode cX9_gust 39 = .ok (.if_icmp .ne 18, 3) := by decide +kernel
theorem dX9_gust_42 : decode cX9_gust 42 = .ok (.aload_n 0, 1) := by decide +kernel
theorem dX9_gust_43 : decode cX9_gust 43 = .ok (.getfield 15, 3) := by decide +kernel
theorem dX9_gust_46 : decode cX9_gust 46 = .ok (.getfield 125, 3) := by decide +kernel
theorem dX9_gust_49 : decode cX9_gust 49 = .ok (.iconst 1, 1) := by decide +kernel
theorem dX9_gust_50 : decode cX9_gust 50 = .ok (.iaload, 1) := by decide +kernel
theorem dX9_gust_51 : decode cX9_gust 51 = .ok (.iload_n 2, 1) := by decide +kernel
theorem dX9_gust_52 : decode cX9_gust 52 = .ok (.if_icmp .ne 5, 3) := by decide +kernel
theorem dX9_gust_55 : decode cX9_gust 55 = .ok (.iconst 0, 1) := by decide +kernel
theorem dX9_gust_56 : decode cX9_gust 56 = .ok (.ireturn, 1) := by decide +kernel
theorem dX9_gust_57 : decode cX9_gust 57 = .ok (.aload_n 0, 1) := by decide +kernel
theorem dX9_gust_58 : decode cX9_gust 58 = .ok (.getfield 15, 3) := by decide +kernel
theorem dX9_gust_61 : decode cX9_gust 61 = .ok (.invokevirtual 113, 3) := by decide +kernel
theorem dX9_gust_64 : decode cX9_gust 64 = .ok (.aload_n 0, 1) := by decide +kernel
theorem dX9_gust_65 : decode cX9_gust 65 = .ok (.getfield 15, 3) := by decide +kernel
theorem dX9_gust_68 : decode cX9_gust 68 = .ok (.getfield 125, 3) := by decide +kernel
theorem dX9_gust_71 : decode cX9_gust 71 = .ok (.iconst 0, 1) := by decide +kernel
theorem dX9_gust_72 : decode cX9_gust 72 = .ok (.iload_n 1, 1) := by decide +kernel
theorem dX9_gust_73 : decode cX9_gust 73 = .ok (.iastore, 1) := by decide +kernel
theorem dX9_gust_74 : decode cX9_gust 74 = .ok (.aload_n 0, 1) := by decide +kernel
theorem dX9_gust_75 : decode cX9_gust 75 = .ok (.getfield 15, 3) := by decide +kernel
theorem dX9_gust_78 : decode cX9_gust 78 = .ok (.getfield 125, 3) := by decide +kernel
theorem dX9_gust_81 : decode cX9_gust 81 = .ok (.iconst 1, 1) := by decide +kernel
theorem dX9_gust_82 : decode cX9_gust 82 = .ok (.iload_n 2, 1) := by decide +kernel
theorem dX9_gust_83 : decode cX9_gust 83 = .ok (.iastore, 1) := by decide +kernel
theorem dX9_gust_84 : decode cX9_gust 84 = .ok (.iconst 1, 1) := by decide +kernel
theorem dX9_gust_85 : decode cX9_gust 85 = .ok (.ireturn, 1) := by decide +kernel
theorem dX9_withdraw_0 : decode cX9_withdraw 0 = .ok (.aload_n 0, 1) := by decide +kernel
theorem dX9_withdraw_1 : decode cX9_withdraw 1 = .ok (.getfield 15, 3) := by decide +kernel
theorem dX9_withdraw_4 : decode cX9_withdraw 4 = .ok (.getfield 125, 3) := by decide +kernel
theorem dX9_withdraw_7 : decode cX9_withdraw 7 = .ok (.iconst 5, 1) := by decide +kernel
theorem dX9_withdraw_8 : decode cX9_withdraw 8 = .ok (.iaload, 1) := by decide +kernel
theorem dX9_withdraw_9 : decode cX9_withdraw 9 = .ok (.istore_n 1, 1) := by decide +kernel
theorem dX9_withdraw_10 : decode cX9_withdraw 10 = .ok (.aload_n 0, 1) := by decide +kernel
theorem dX9_withdraw_11 : decode cX9_withdraw 11 = .ok (.getfield 15, 3) := by decide +kernel
theorem dX9_withdraw_14 : decode cX9_withdraw 14 = .ok (.getfield 64, 3) := by decide +kernel
theorem dX9_withdraw_17 : decode cX9_withdraw 17 = .ok (.iload_n 1, 1) := by decide +kernel
theorem dX9_withdraw_18 : decode cX9_withdraw 18 = .ok (.invokevirtual 134, 3) := by decide +kernel
theorem dX9_withdraw_21 : decode cX9_withdraw 21 = .ok (.ifCond .ne 5, 3) := by decide +kernel
theorem dX9_withdraw_24 : decode cX9_withdraw 24 = .ok (.iconst (-1), 1) := by decide +kernel
theorem dX9_withdraw_25 : decode cX9_withdraw 25 = .ok (.ireturn, 1) := by decide +kernel
theorem dX9_withdraw_26 : decode cX9_withdraw 26 = .ok (.aload_n 0, 1) := by decide +kernel
theorem dX9_withdraw_27 : decode cX9_withdraw 27 = .ok (.getfield 15, 3) := by decide +kernel
theorem dX9_withdraw_30 : decode cX9_withdraw 30 = .ok (.invokevirtual 113, 3) := by decide +kernel
theorem dX9_withdraw_33 : decode cX9_withdraw 33 = .ok (.aload_n 0, 1) := by decide +kernel
theorem dX9_withdraw_34 : decode cX9_withdraw 34 = .ok (.getfield 15, 3) := by decide +kernel
theorem dX9_withdraw_37 : decode cX9_withdraw 37 = .ok (.iload_n 1, 1) := by decide +kernel
theorem dX9_withdraw_38 : decode cX9_withdraw 38 = .ok (.iconst 0, 1) := by decide +kernel
theorem dX9_withdraw_39 : decode cX9_withdraw 39 = .ok (.invokevirtual 137, 3) := by decide +kernel
theorem dX9_withdraw_42 : decode cX9_withdraw 42 = .ok (.iload_n 1, 1) := by decide +kernel
theorem dX9_withdraw_43 : decode cX9_withdraw 43 = .ok (.ireturn, 1) := by decide +kernel
theorem dX9_hour_0 : decode cX9_hour 0 = .ok (.iload_n 1, 1) := by decide +kernel
theorem dX9_hour_1 : decode cX9_hour 1 = .ok (.iconst 1, 1) := by decide +kernel
theorem dX9_hour_2 : decode cX9_hour 2 = .ok (.bipush 60, 2) := by decide +kernel
theorem dX9_hour_4 : decode cX9_hour 4 = .ok (.invokestatic 60, 3) := by decide +kernel
theorem dX9_hour_7 : decode cX9_hour 7 = .ok (.ifCond .eq 14, 3) := by decide +kernel
theorem dX9_hour_10 : decode cX9_hour 10 = .ok (.iload_n 1, 1) := by decide +kernel
theorem dX9_hour_11 : decode cX9_hour 11 = .ok (.aload_n 0, 1) := by decide +kernel
theorem dX9_hour_12 : decode cX9_hour 12 = .ok (.getfield 15, 3) := by decide +kernel
theorem dX9_hour_15 : decode cX9_hour 15 = .ok (.invokevirtual 141, 3) := by decide +kernel
theorem dX9_hour_18 : decode cX9_hour 18 = .ok (.if_icmp .le 5, 3) := by decide +kernel
theorem dX9_hour_21 : decode cX9_hour 21 = .ok (.iconst (-1), 1) := by decide +kernel
theorem dX9_hour_22 : decode cX9_hour 22 = .ok (.ireturn, 1) := by decide +kernel
theorem dX9_hour_23 : decode cX9_hour 23 = .ok (.aload_n 0, 1) := by decide +kernel
theorem dX9_hour_24 : decode cX9_hour 24 = .ok (.iload_n 1, 1) := by decide +kernel
theorem dX9_hour_25 : decode cX9_hour 25 = .ok (.invokevirtual 145, 3) := by decide +kernel
theorem dX9_hour_28 : decode cX9_hour 28 = .ok (.ireturn, 1) := by decide +kernel
theorem dX9_played_0 : decode cX9_played 0 = .ok (.aload_n 0, 1) := by decide +kernel
theorem dX9_played_1 : decode cX9_played 1 = .ok (.iload_n 1, 1) := by decide +kernel
theorem dX9_played_2 : decode cX9_played 2 = .ok (.invokevirtual 103, 3) := by decide +kernel
theorem dX9_played_5 : decode cX9_played 5 = .ok (.ifCond .ne 6, 3) := by decide +kernel
theorem dX9_played_8 : decode cX9_played 8 = .ok (.bipush (-2), 2) := by decide +kernel
theorem dX9_played_10 : decode cX9_played 10 = .ok (.ireturn, 1) := by decide +kernel
theorem dX9_played_11 : decode cX9_played 11 = .ok (.aload_n 0, 1) := by decide +kernel
theorem dX9_played_12 : decode cX9_played 12 = .ok (.getfield 44, 3) := by decide +kernel
theorem dX9_played_15 : decode cX9_played 15 = .ok (.iload_n 1, 1) := by decide +kernel
theorem dX9_played_16 : decode cX9_played 16 = .ok (.aaload, 1) := by decide +kernel
theorem dX9_played_17 : decode cX9_played 17 = .ok (.astore_n 2, 1) := by decide +kernel
theorem dX9_played_18 : decode cX9_played 18 = .ok (.iconst 0, 1) := by decide +kernel
theorem dX9_played_19 : decode cX9_played 19 = .ok (.istore_n 3, 1) := by decide +kernel
theorem dX9_played_20 : decode cX9_played 20 = .ok (.iload_n 3, 1) := by decide +kernel
theorem dX9_played_21 : decode cX9_played 21 = .ok (.aload_n 2, 1) := by decide +kernel
theorem dX9_played_22 : decode cX9_played 22 = .ok (.getfield 149, 3) := by decide +kernel
theorem dX9_played_25 : decode cX9_played 25 = .ok (.if_icmp .ge 20, 3) := by decide +kernel
theorem dX9_played_28 : decode cX9_played 28 = .ok (.aload_n 0, 1) := by decide +kernel
theorem dX9_played_29 : decode cX9_played 29 = .ok (.aload_n 2, 1) := by decide +kernel
theorem dX9_played_30 : decode cX9_played 30 = .ok (.iload_n 3, 1) := by decide +kernel
theorem dX9_played_31 : decode cX9_played 31 = .ok (.invokevirtual 152, 3) := by decide +kernel
theorem dX9_played_34 : decode cX9_played 34 = .ok (.ifCond .ne 5, 3) := by decide +kernel
theorem dX9_played_37 : decode cX9_played 37 = .ok (.iload_n 3, 1) := by decide +kernel
theorem dX9_played_38 : decode cX9_played 38 = .ok (.ireturn, 1) := by decide +kernel
theorem dX9_played_39 : decode cX9_played 39 = .ok (.iinc 3 1, 3) := by decide +kernel
theorem dX9_played_42 : decode cX9_played 42 = .ok (.goto (-22), 3) := by decide +kernel
theorem dX9_played_45 : decode cX9_played 45 = .ok (.iconst (-1), 1) := by decide +kernel
theorem dX9_played_46 : decode cX9_played 46 = .ok (.ireturn, 1) := by decide +kernel
theorem dX9_decades_0 : decode cX9_decades 0 = .ok (.iload_n 1, 1) := by decide +kernel
theorem dX9_decades_1 : decode cX9_decades 1 = .ok (.iconst 0, 1) := by decide +kernel
theorem dX9_decades_2 : decode cX9_decades 2 = .ok (.sipush 9999, 3) := by decide +kernel
theorem dX9_decades_5 : decode cX9_decades 5 = .ok (.invokestatic 60, 3) := by decide +kernel
theorem dX9_decades_8 : decode cX9_decades 8 = .ok (.ifCond .eq 26, 3) := by decide +kernel
theorem dX9_decades_11 : decode cX9_decades 11 = .ok (.iload_n 2, 1) := by decide +kernel
theorem dX9_decades_12 : decode cX9_decades 12 = .ok (.iconst 1, 1) := by decide +kernel
theorem dX9_decades_13 : decode cX9_decades 13 = .ok (.bipush 40, 2) := by decide +kernel
theorem dX9_decades_15 : decode cX9_decades 15 = .ok (.invokestatic 60, 3) := by decide +kernel
theorem dX9_decades_18 : decode cX9_decades 18 = .ok (.ifCond .eq 16, 3) := by decide +kernel
theorem dX9_decades_21 : decode cX9_decades 21 = .ok (.aload_n 0, 1) := by decide +kernel
theorem dX9_decades_22 : decode cX9_decades 22 = .ok (.getfield 15, 3) := by decide +kernel
theorem dX9_decades_25 : decode cX9_decades 25 = .ok (.getfield 64, 3) := by decide +kernel
theorem dX9_decades_28 : decode cX9_decades 28 = .ok (.getfield 156, 3) := by decide +kernel
theorem dX9_decades_31 : decode cX9_decades 31 = .ok (.ifCond .ne 5, 3) := by decide +kernel
theorem dX9_decades_34 : decode cX9_decades 34 = .ok (.iconst (-1), 1) := by decide +kernel
theorem dX9_decades_35 : decode cX9_decades 35 = .ok (.ireturn, 1) := by decide +kernel
theorem dX9_decades_36 : decode cX9_decades 36 = .ok (.aload_n 0, 1) := by decide +kernel
theorem dX9_decades_37 : decode cX9_decades 37 = .ok (.getfield 15, 3) := by decide +kernel
theorem dX9_decades_40 : decode cX9_decades 40 = .ok (.invokevirtual 113, 3) := by decide +kernel
theorem dX9_decades_43 : decode cX9_decades 43 = .ok (.aload_n 0, 1) := by decide +kernel
theorem dX9_decades_44 : decode cX9_decades 44 = .ok (.getfield 15, 3) := by decide +kernel
theorem dX9_decades_47 : decode cX9_decades 47 = .ok (.getfield 125, 3) := by decide +kernel
theorem dX9_decades_50 : decode cX9_decades 50 = .ok (.iconst 4, 1) := by decide +kernel
theorem dX9_decades_51 : decode cX9_decades 51 = .ok (.iload_n 1, 1) := by decide +kernel
theorem dX9_decades_52 : decode cX9_decades 52 = .ok (.iconst 2, 1) := by decide +kernel
theorem dX9_decades_53 : decode cX9_decades 53 = .ok (.imul, 1) := by decide +kernel
theorem dX9_decades_54 : decode cX9_decades 54 = .ok (.bipush 107, 2) := by decide +kernel
theorem dX9_decades_56 : decode cX9_decades 56 = .ok (.iadd, 1) := by decide +kernel
theorem dX9_decades_57 : decode cX9_decades 57 = .ok (.iastore, 1) := by decide +kernel
theorem dX9_decades_58 : decode cX9_decades 58 = .ok (.iconst 0, 1) := by decide +kernel
theorem dX9_decades_59 : decode cX9_decades 59 = .ok (.istore_n 3, 1) := by decide +kernel
theorem dX9_decades_60 : decode cX9_decades 60 = .ok (.iload_n 3, 1) := by decide +kernel
theorem dX9_decades_61 : decode cX9_decades 61 = .ok (.iload_n 2, 1) := by decide +kernel
theorem dX9_decades_62 : decode cX9_decades 62 = .ok (.if_icmp .ge 24, 3) := by decide +kernel
theorem dX9_decades_65 : decode cX9_decades 65 = .ok (.aload_n 0, 1) := by decide +kernel
theorem dX9_decades_66 : decode cX9_decades 66 = .ok (.getfield 15, 3) := by decide +kernel
theorem dX9_decades_69 : decode cX9_decades 69 = .ok (.aload_n 0, 1) := by decide +kernel
theorem dX9_decades_70 : decode cX9_decades 70 = .ok (.getfield 19, 3) := by decide +kernel
theorem dX9_decades_73 : decode cX9_decades 73 = .ok (.aload_n 0, 1) := by decide +kernel
theorem dX9_decades_74 : decode cX9_decades 74 = .ok (.invokevirtual 159, 3) := by decide +kernel
theorem dX9_decades_77 : decode cX9_decades 77 = .ok (.invokevirtual 162, 3) := by decide +kernel
theorem dX9_decades_80 : decode cX9_decades 80 = .ok (.iinc 3 1, 3) := by decide +kernel
theorem dX9_decades_83 : decode cX9_decades 83 = .ok (.goto (-23), 3) := by decide +kernel
theorem dX9_decades_86 : decode cX9_decades 86 = .ok (.aload_n 0, 1) := by decide +kernel
theorem dX9_decades_87 : decode cX9_decades 87 = .ok (.getfield 15, 3) := by decide +kernel
theorem dX9_decades_90 : decode cX9_decades 90 = .ok (.getfield 125, 3) := by decide +kernel
theorem dX9_decades_93 : decode cX9_decades 93 = .ok (.iconst 3, 1) := by decide +kernel
theorem dX9_decades_94 : decode cX9_decades 94 = .ok (.iaload, 1) := by decide +kernel
theorem dX9_decades_95 : decode cX9_decades 95 = .ok (.ireturn, 1) := by decide +kernel
theorem dX9_undo_0 : decode cX9_undo 0 = .ok (.aload_n 0, 1) := by decide +kernel
theorem dX9_undo_1 : decode cX9_undo 1 = .ok (.getfield 15, 3) := by decide +kernel
theorem dX9_undo_4 : decode cX9_undo 4 = .ok (.invokevirtual 166, 3) := by decide +kernel
theorem dX9_undo_7 : decode cX9_undo 7 = .ok (.ifCond .eq 13, 3) := by decide +kernel
theorem dX9_undo_10 : decode cX9_undo 10 = .ok (.aload_n 0, 1) := by decide +kernel
theorem dX9_undo_11 : decode cX9_undo 11 = .ok (.getfield 15, 3) := by decide +kernel
theorem dX9_undo_14 : decode cX9_undo 14 = .ok (.getfield 169, 3) := by decide +kernel
theorem dX9_undo_17 : decode cX9_undo 17 = .ok (.goto 4, 3) := by decide +kernel
theorem dX9_undo_20 : decode cX9_undo 20 = .ok (.iconst (-1), 1) := by decide +kernel
theorem dX9_undo_21 : decode cX9_undo 21 = .ok (.ireturn, 1) := by decide +kernel
theorem dX9_ofCase_0 : decode cX9_ofCase 0 = .ok (.aload_n 0, 1) := by decide +kernel
theorem dX9_ofCase_1 : decode cX9_ofCase 1 = .ok (.getfield 15, 3) := by decide +kernel
theorem dX9_ofCase_4 : decode cX9_ofCase 4 = .ok (.getfield 64, 3) := by decide +kernel
theorem dX9_ofCase_7 : decode cX9_ofCase 7 = .ok (.iload_n 1, 1) := by decide +kernel
theorem dX9_ofCase_8 : decode cX9_ofCase 8 = .ok (.invokevirtual 134, 3) := by decide +kernel
theorem dX9_ofCase_11 : decode cX9_ofCase 11 = .ok (.ifCond .ne 5, 3) := by decide +kernel
theorem dX9_ofCase_14 : decode cX9_ofCase 14 = .ok (.iconst (-1), 1) := by decide +kernel
theorem dX9_ofCase_15 : decode cX9_ofCase 15 = .ok (.ireturn, 1) := by decide +kernel
theorem dX9_ofCase_16 : decode cX9_ofCase 16 = .ok (.iload_n 2, 1) := by decide +kernel
theorem dX9_ofCase_17 : decode cX9_ofCase 17 = .ok (.tableswitch 95 0 6 #[43, 43, 43, 43, 56, 69, 82], 43) := by decide +kernel
theorem dX9_ofCase_60 : decode cX9_ofCase 60 = .ok (.aload_n 0, 1) := by decide +kernel
theorem dX9_ofCase_61 : decode cX9_ofCase 61 = .ok (.getfield 15, 3) := by decide +kernel
theorem dX9_ofCase_64 : decode cX9_ofCase 64 = .ok (.getfield 64, 3) := by decide +kernel
theorem dX9_ofCase_67 : decode cX9_ofCase 67 = .ok (.iload_n 1, 1) := by decide +kernel
theorem dX9_ofCase_68 : decode cX9_ofCase 68 = .ok (.iload_n 2, 1) := by decide +kernel
theorem dX9_ofCase_69 : decode cX9_ofCase 69 = .ok (.invokevirtual 172, 3) := by decide +kernel
theorem dX9_ofCase_72 : decode cX9_ofCase 72 = .ok (.ireturn, 1) := by decide +kernel
theorem dX9_ofCase_73 : decode cX9_ofCase 73 = .ok (.aload_n 0, 1) := by decide +kernel
theorem dX9_ofCase_74 : decode cX9_ofCase 74 = .ok (.getfield 15, 3) := by decide +kernel
theorem dX9_ofCase_77 : decode cX9_ofCase 77 = .ok (.getfield 125, 3) := by decide +kernel
theorem dX9_ofCase_80 : decode cX9_ofCase 80 = .ok (.bipush 10, 2) := by decide +kernel
theorem dX9_ofCase_82 : decode cX9_ofCase 82 = .ok (.iload_n 1, 1) := by decide +kernel
theorem dX9_ofCase_83 : decode cX9_ofCase 83 = .ok (.iadd, 1) := by decide +kernel
theorem dX9_ofCase_84 : decode cX9_ofCase 84 = .ok (.iaload, 1) := by decide +kernel
theorem dX9_ofCase_85 : decode cX9_ofCase 85 = .ok (.ireturn, 1) := by decide +kernel
theorem dX9_ofCase_86 : decode cX9_ofCase 86 = .ok (.aload_n 0, 1) := by decide +kernel
theorem dX9_ofCase_87 : decode cX9_ofCase 87 = .ok (.getfield 15, 3) := by decide +kernel
theorem dX9_ofCase_90 : decode cX9_ofCase 90 = .ok (.getfield 125, 3) := by decide +kernel
theorem dX9_ofCase_93 : decode cX9_ofCase 93 = .ok (.bipush 18, 2) := by decide +kernel
theorem dX9_ofCase_95 : decode cX9_ofCase 95 = .ok (.iload_n 1, 1) := by decide +kernel
theorem dX9_ofCase_96 : decode cX9_ofCase 96 = .ok (.iadd, 1) := by decide +kernel
theorem dX9_ofCase_97 : decode cX9_ofCase 97 = .ok (.iaload, 1) := by decide +kernel
theorem dX9_ofCase_98 : decode cX9_ofCase 98 = .ok (.ireturn, 1) := by decide +kernel
theorem dX9_ofCase_99 : decode cX9_ofCase 99 = .ok (.aload_n 0, 1) := by decide +kernel
theorem dX9_ofCase_100 : decode cX9_ofCase 100 = .ok (.getfield 15, 3) := by decide +kernel
theorem dX9_ofCase_103 : decode cX9_ofCase 103 = .ok (.getfield 125, 3) := by decide +kernel
theorem dX9_ofCase_106 : decode cX9_ofCase 106 = .ok (.bipush 26, 2) := by decide +kernel
theorem dX9_ofCase_108 : decode cX9_ofCase 108 = .ok (.iload_n 1, 1) := by decide +kernel
theorem dX9_ofCase_109 : decode cX9_ofCase 109 = .ok (.iadd, 1) := by decide +kernel
theorem dX9_ofCase_110 : decode cX9_ofCase 110 = .ok (.iaload, 1) := by decide +kernel
theorem dX9_ofCase_111 : decode cX9_ofCase 111 = .ok (.ireturn, 1) := by decide +kernel
theorem dX9_ofCase_112 : decode cX9_ofCase 112 = .ok (.iconst (-1), 1) := by decide +kernel
theorem dX9_ofCase_113 : decode cX9_ofCase 113 = .ok (.ireturn, 1) := by decide +kernel
theorem dX9_is_0 : decode cX9_is 0 = .ok (.iload_n 1, 1) := by decide +kernel
theorem dX9_is_1 : decode cX9_is 1 = .ok (.iconst 0, 1) := by decide +kernel
theorem dX9_is_2 : decode cX9_is 2 = .ok (.bipush 8, 2) := by decide +kernel
theorem dX9_is_4 : decode cX9_is 4 = .ok (.invokestatic 60, 3) := by decide +kernel
theorem dX9_is_7 : decode cX9_is 7 = .ok (.ifCond .eq 15, 3) := by decide +kernel
theorem dX9_is_10 : decode cX9_is 10 = .ok (.aload_n 0, 1) := by decide +kernel
theorem dX9_is_11 : decode cX9_is 11 = .ok (.getfield 15, 3) := by decide +kernel
theorem dX9_is_14 : decode cX9_is 14 = .ok (.getfield 125, 3) := by decide +kernel
theorem dX9_is_17 : decode cX9_is 17 = .ok (.iload_n 1, 1) := by decide +kernel
theorem dX9_is_18 : decode cX9_is 18 = .ok (.iaload, 1) := by decide +kernel
theorem dX9_is_19 : decode cX9_is 19 = .ok (.goto 5, 3) := by decide +kernel
theorem dX9_is_22 : decode cX9_is 22 = .ok (.bipush (-2), 2) := by decide +kernel
theorem dX9_is_24 : decode cX9_is 24 = .ok (.ireturn, 1) := by decide +kernel
theorem dX9_book_0 : decode cX9_book 0 = .ok (.iload_n 1, 1) := by decide +kernel
theorem dX9_book_1 : decode cX9_book 1 = .ok (.iconst (-1), 1) := by decide +kernel
theorem dX9_book_2 : decode cX9_book 2 = .ok (.if_icmp .ne 14, 3) := by decide +kernel
theorem dX9_book_5 : decode cX9_book 5 = .ok (.aload_n 0, 1) := by decide +kernel
theorem dX9_book_6 : decode cX9_book 6 = .ok (.getfield 15, 3) := by decide +kernel
theorem dX9_book_9 : decode cX9_book 9 = .ok (.getfield 125, 3) := by decide +kernel
theorem dX9_book_12 : decode cX9_book 12 = .ok (.bipush 9, 2) := by decide +kernel
theorem dX9_book_14 : decode cX9_book 14 = .ok (.iaload, 1) := by decide +kernel
theorem dX9_book_15 : decode cX9_book 15 = .ok (.ireturn, 1) := by decide +kernel
theorem dX9_book_16 : decode cX9_book 16 = .ok (.iload_n 1, 1) := by decide +kernel
theorem dX9_book_17 : decode cX9_book 17 = .ok (.iconst 0, 1) := by decide +kernel
theorem dX9_book_18 : decode cX9_book 18 = .ok (.aload_n 0, 1) := by decide +kernel
theorem dX9_book_19 : decode cX9_book 19 = .ok (.getfield 15, 3) := by decide +kernel
theorem dX9_book_22 : decode cX9_book 22 = .ok (.getfield 125, 3) := by decide +kernel
theorem dX9_book_25 : decode cX9_book 25 = .ok (.bipush 9, 2) := by decide +kernel
theorem dX9_book_27 : decode cX9_book 27 = .ok (.iaload, 1) := by decide +kernel
theorem dX9_book_28 : decode cX9_book 28 = .ok (.iconst 1, 1) := by decide +kernel
theorem dX9_book_29 : decode cX9_book 29 = .ok (.isub, 1) := by decide +kernel
theorem dX9_book_30 : decode cX9_book 30 = .ok (.invokestatic 60, 3) := by decide +kernel
theorem dX9_book_33 : decode cX9_book 33 = .ok (.ifCond .ne 6, 3) := by decide +kernel
theorem dX9_book_36 : decode cX9_book 36 = .ok (.bipush (-2), 2) := by decide +kernel
theorem dX9_book_38 : decode cX9_book 38 = .ok (.ireturn, 1) := by decide +kernel
theorem dX9_book_39 : decode cX9_book 39 = .ok (.aload_n 0, 1) := by decide +kernel
theorem dX9_book_40 : decode cX9_book 40 = .ok (.getfield 15, 3) := by decide +kernel
theorem dX9_book_43 : decode cX9_book 43 = .ok (.getfield 125, 3) := by decide +kernel
theorem dX9_book_46 : decode cX9_book 46 = .ok (.bipush 34, 2) := by decide +kernel
theorem dX9_book_48 : decode cX9_book 48 = .ok (.iload_n 1, 1) := by decide +kernel
theorem dX9_book_49 : decode cX9_book 49 = .ok (.iadd, 1) := by decide +kernel
theorem dX9_book_50 : decode cX9_book 50 = .ok (.iaload, 1) := by decide +kernel
theorem dX9_book_51 : decode cX9_book 51 = .ok (.istore_n 3, 1) := by decide +kernel
theorem dX9_book_52 : decode cX9_book 52 = .ok (.iload_n 2, 1) := by decide +kernel
theorem dX9_book_53 : decode cX9_book 53 = .ok (.tableswitch 60 0 3 #[31, 37, 46, 54], 31) := by decide +kernel
theorem dX9_book_84 : decode cX9_book 84 = .ok (.iload_n 3, 1) := by decide +kernel
theorem dX9_book_85 : decode cX9_book 85 = .ok (.sipush 16000, 3) := by decide +kernel
theorem dX9_book_88 : decode cX9_book 88 = .ok (.idiv, 1) := by decide +kernel
theorem dX9_book_89 : decode cX9_book 89 = .ok (.ireturn, 1) := by decide +kernel
theorem dX9_book_90 : decode cX9_book 90 = .ok (.iload_n 3, 1) := by decide +kernel
theorem dX9_book_91 : decode cX9_book 91 = .ok (.sipush 2000, 3) := by decide +kernel
theorem dX9_book_94 : decode cX9_book 94 = .ok (.idiv, 1) := by decide +kernel
theorem dX9_book_95 : decode cX9_book 95 = .ok (.bipush 8, 2) := by decide +kernel
theorem dX9_book_97 : decode cX9_book 97 = .ok (.irem, 1) := by decide +kernel
theorem dX9_book_98 : decode cX9_book 98 = .ok (.ireturn, 1) := by decide +kernel
theorem dX9_book_99 : decode cX9_book 99 = .ok (.iload_n 3, 1) := by decide +kernel
theorem dX9_book_100 : decode cX9_book 100 = .ok (.sipush 1000, 3) := by decide +kernel
theorem dX9_book_103 : decode cX9_book 103 = .ok (.idiv, 1) := by decide +kernel
theorem dX9_book_104 : decode cX9_book 104 = .ok (.iconst 2, 1) := by decide +kernel
theorem dX9_book_105 : decode cX9_book 105 = .ok (.irem, 1) := by decide +kernel
theorem dX9_book_106 : decode cX9_book 106 = .ok (.ireturn, 1) := by decide +kernel
theorem dX9_book_107 : decode cX9_book 107 = .ok (.iload_n 3, 1) := by decide +kernel
theorem dX9_book_108 : decode cX9_book 108 = .ok (.sipush 1000, 3) := by decide +kernel
theorem dX9_book_111 : decode cX9_book 111 = .ok (.irem, 1) := by decide +kernel
theorem dX9_book_112 : decode cX9_book 112 = .ok (.ireturn, 1) := by decide +kernel
theorem dX9_book_113 : decode cX9_book 113 = .ok (.bipush (-2), 2) := by decide +kernel
theorem dX9_book_115 : decode cX9_book 115 = .ok (.ireturn, 1) := by decide +kernel
theorem dX9_foretold_0 : decode cX9_foretold 0 = .ok (.iload_n 1, 1) := by decide +kernel
theorem dX9_foretold_1 : decode cX9_foretold 1 = .ok (.iconst 1, 1) := by decide +kernel
theorem dX9_foretold_2 : decode cX9_foretold 2 = .ok (.bipush 60, 2) := by decide +kernel
theorem dX9_foretold_4 : decode cX9_foretold 4 = .ok (.invokestatic 60, 3) := by decide +kernel
theorem dX9_foretold_7 : decode cX9_foretold 7 = .ok (.ifCond .ne 5, 3) := by decide +kernel
theorem dX9_foretold_10 : decode cX9_foretold 10 = .ok (.iconst (-1), 1) := by decide +kernel
theorem dX9_foretold_11 : decode cX9_foretold 11 = .ok (.ireturn, 1) := by decide +kernel
theorem dX9_foretold_12 : decode cX9_foretold 12 = .ok (.aload_n 0, 1) := by decide +kernel
theorem dX9_foretold_13 : decode cX9_foretold 13 = .ok (.getfield 28, 3) := by decide +kernel
theorem dX9_foretold_16 : decode cX9_foretold 16 = .ok (.aload_n 0, 1) := by decide +kernel
theorem dX9_foretold_17 : decode cX9_foretold 17 = .ok (.invokevirtual 159, 3) := by decide +kernel
theorem dX9_foretold_20 : decode cX9_foretold 20 = .ok (.iload_n 1, 1) := by decide +kernel
theorem dX9_foretold_21 : decode cX9_foretold 21 = .ok (.invokevirtual 176, 3) := by decide +kernel
theorem dX9_foretold_24 : decode cX9_foretold 24 = .ok (.aload_n 0, 1) := by decide +kernel
theorem dX9_foretold_25 : decode cX9_foretold 25 = .ok (.getfield 28, 3) := by decide +kernel
theorem dX9_foretold_28 : decode cX9_foretold 28 = .ok (.getfield 180, 3) := by decide +kernel
theorem dX9_foretold_31 : decode cX9_foretold 31 = .ok (.istore_n 3, 1) := by decide +kernel
theorem dX9_foretold_32 : decode cX9_foretold 32 = .ok (.iload_n 3, 1) := by decide +kernel
theorem dX9_foretold_33 : decode cX9_foretold 33 = .ok (.iconst 0, 1) := by decide +kernel
theorem dX9_foretold_34 : decode cX9_foretold 34 = .ok (.bipush 60, 2) := by decide +kernel
theorem dX9_foretold_36 : decode cX9_foretold 36 = .ok (.invokestatic 60, 3) := by decide +kernel
theorem dX9_foretold_39 : decode cX9_foretold 39 = .ok (.ifCond .ne 5, 3) := by decide +kernel
theorem dX9_foretold_42 : decode cX9_foretold 42 = .ok (.iconst (-1), 1) := by decide +kernel
theorem dX9_foretold_43 : decode cX9_foretold 43 = .ok (.ireturn, 1) := by decide +kernel
theorem dX9_foretold_44 : decode cX9_foretold 44 = .ok (.iload_n 2, 1) := by decide +kernel
theorem dX9_foretold_45 : decode cX9_foretold 45 = .ok (.tableswitch 57 0 2 #[27, 37, 47], 27) := by decide +kernel
theorem dX9_foretold_72 : decode cX9_foretold 72 = .ok (.aload_n 0, 1) := by decide +kernel
theorem dX9_foretold_73 : decode cX9_foretold 73 = .ok (.getfield 28, 3) := by decide +kernel
theorem dX9_foretold_76 : decode cX9_foretold 76 = .ok (.getfield 183, 3) := by decide +kernel
theorem dX9_foretold_79 : decode cX9_foretold 79 = .ok (.iload_n 3, 1) := by decide +kernel
theorem dX9_foretold_80 : decode cX9_foretold 80 = .ok (.iaload, 1) := by decide +kernel
theorem dX9_foretold_81 : decode cX9_foretold 81 = .ok (.ireturn, 1) := by decide +kernel
theorem dX9_foretold_82 : decode cX9_foretold 82 = .ok (.aload_n 0, 1) := by decide +kernel
theorem dX9_foretold_83 : decode cX9_foretold 83 = .ok (.getfield 28, 3) := by decide +kernel
theorem dX9_foretold_86 : decode cX9_foretold 86 = .ok (.getfield 186, 3) := by decide +kernel
theorem dX9_foretold_89 : decode cX9_foretold 89 = .ok (.iload_n 3, 1) := by decide +kernel
theorem dX9_foretold_90 : decode cX9_foretold 90 = .ok (.iaload, 1) := by decide +kernel
theorem dX9_foretold_91 : decode cX9_foretold 91 = .ok (.ireturn, 1) := by decide +kernel
theorem dX9_foretold_92 : decode cX9_foretold 92 = .ok (.aload_n 0, 1) := by decide +kernel
theorem dX9_foretold_93 : decode cX9_foretold 93 = .ok (.getfield 28, 3) := by decide +kernel
theorem dX9_foretold_96 : decode cX9_foretold 96 = .ok (.getfield 189, 3) := by decide +kernel
theorem dX9_foretold_99 : decode cX9_foretold 99 = .ok (.iload_n 3, 1) := by decide +kernel
theorem dX9_foretold_100 : decode cX9_foretold 100 = .ok (.iaload, 1) := by decide +kernel
theorem dX9_foretold_101 : decode cX9_foretold 101 = .ok (.ireturn, 1) := by decide +kernel
theorem dX9_foretold_102 : decode cX9_foretold 102 = .ok (.iconst (-1), 1) := by decide +kernel
theorem dX9_foretold_103 : decode cX9_foretold 103 = .ok (.ireturn, 1) := by decide +kernel
theorem dX9_ends_0 : decode cX9_ends 0 = .ok (.iload_n 2, 1) := by decide +kernel
theorem dX9_ends_1 : decode cX9_ends 1 = .ok (.iconst 0, 1) := by decide +kernel
theorem dX9_ends_2 : decode cX9_ends 2 = .ok (.bipush 20, 2) := by decide +kernel
theorem dX9_ends_4 : decode cX9_ends 4 = .ok (.invokestatic 60, 3) := by decide +kernel
theorem dX9_ends_7 : decode cX9_ends 7 = .ok (.ifCond .eq 26, 3) := by decide +kernel
theorem dX9_ends_10 : decode cX9_ends 10 = .ok (.iload_n 3, 1) := by decide +kernel
theorem dX9_ends_11 : decode cX9_ends 11 = .ok (.iconst 0, 1) := by decide +kernel
theorem dX9_ends_12 : decode cX9_ends 12 = .ok (.iconst 3, 1) := by decide +kernel
theorem dX9_ends_13 : decode cX9_ends 13 = .ok (.invokestatic 60, 3) := by decide +kernel
theorem dX9_ends_16 : decode cX9_ends 16 = .ok (.ifCond .eq 17, 3) := by decide +kernel
theorem dX9_ends_19 : decode cX9_ends 19 = .ok (.iload 4, 2) := by decide +kernel
theorem dX9_ends_21 : decode cX9_ends 21 = .ok (.iconst 0, 1) := by decide +kernel
theorem dX9_ends_22 : decode cX9_ends 22 = .ok (.iconst 2, 1) := by decide +kernel
theorem dX9_ends_23 : decode cX9_ends 23 = .ok (.invokestatic 60, 3) := by decide +kernel
theorem dX9_ends_26 : decode cX9_ends 26 = .ok (.ifCond .eq 7, 3) := by decide +kernel
theorem dX9_ends_29 : decode cX9_ends 29 = .ok (.iconst 1, 1) := by decide +kernel
theorem dX9_ends_30 : decode cX9_ends 30 = .ok (.goto 4, 3) := by decide +kernel
theorem dX9_ends_33 : decode cX9_ends 33 = .ok (.iconst 0, 1) := by decide +kernel
theorem dX9_ends_34 : decode cX9_ends 34 = .ok (.istore 5, 2) := by decide +kernel
theorem dX9_ends_36 : decode cX9_ends 36 = .ok (.iload 5, 2) := by decide +kernel
theorem dX9_ends_38 : decode cX9_ends 38 = .ok (.ifCond .eq 14, 3) := by decide +kernel
theorem dX9_ends_41 : decode cX9_ends 41 = .ok (.aload_n 0, 1) := by decide +kernel
theorem dX9_ends_42 : decode cX9_ends 42 = .ok (.getfield 15, 3) := by decide +kernel
theorem dX9_ends_45 : decode cX9_ends 45 = .ok (.iload_n 1, 1) := by decide +kernel
theorem dX9_ends_46 : decode cX9_ends 46 = .ok (.invokevirtual 192, 3) := by decide +kernel
theorem dX9_ends_49 : decode cX9_ends 49 = .ok (.ifCond .ne 5, 3) := by decide +kernel
theorem dX9_ends_52 : decode cX9_ends 52 = .ok (.iconst (-1), 1) := by decide +kernel
theorem dX9_ends_53 : decode cX9_ends 53 = .ok (.ireturn, 1) := by decide +kernel
theorem dX9_ends_54 : decode cX9_ends 54 = .ok (.aload_n 0, 1) := by decide +kernel
theorem dX9_ends_55 : decode cX9_ends 55 = .ok (.getfield 15, 3) := by decide +kernel
theorem dX9_ends_58 : decode cX9_ends 58 = .ok (.getfield 64, 3) := by decide +kernel
theorem dX9_ends_61 : decode cX9_ends 61 = .ok (.iload_n 1, 1) := by decide +kernel
theorem dX9_ends_62 : decode cX9_ends 62 = .ok (.iconst 2, 1) := by decide +kernel
theorem dX9_ends_63 : decode cX9_ends 63 = .ok (.invokevirtual 172, 3) := by decide +kernel
theorem dX9_ends_66 : decode cX9_ends 66 = .ok (.iload_n 3, 1) := by decide +kernel
theorem dX9_ends_67 : decode cX9_ends 67 = .ok (.iadd, 1) := by decide +kernel
theorem dX9_ends_68 : decode cX9_ends 68 = .ok (.istore 6, 2) := by decide +kernel
theorem dX9_ends_70 : decode cX9_ends 70 = .ok (.aload_n 0, 1) := by decide +kernel
theorem dX9_ends_71 : decode cX9_ends 71 = .ok (.getfield 28, 3) := by decide +kernel
theorem dX9_ends_74 : decode cX9_ends 74 = .ok (.aload_n 0, 1) := by decide +kernel
theorem dX9_ends_75 : decode cX9_ends 75 = .ok (.invokevirtual 159, 3) := by decide +kernel
theorem dX9_ends_78 : decode cX9_ends 78 = .ok (.iload_n 2, 1) := by decide +kernel
theorem dX9_ends_79 : decode cX9_ends 79 = .ok (.iload 6, 2) := by decide +kernel
theorem dX9_ends_81 : decode cX9_ends 81 = .ok (.iadd, 1) := by decide +kernel
theorem dX9_ends_82 : decode cX9_ends 82 = .ok (.invokevirtual 176, 3) := by decide +kernel
theorem dX9_ends_85 : decode cX9_ends 85 = .ok (.aload_n 0, 1) := by decide +kernel
theorem dX9_ends_86 : decode cX9_ends 86 = .ok (.getfield 28, 3) := by decide +kernel
theorem dX9_ends_89 : decode cX9_ends 89 = .ok (.iload_n 1, 1) := by decide +kernel
theorem dX9_ends_90 : decode cX9_ends 90 = .ok (.iload_n 2, 1) := by decide +kernel
theorem dX9_ends_91 : decode cX9_ends 91 = .ok (.iload 6, 2) := by decide +kernel
theorem dX9_ends_93 : decode cX9_ends 93 = .ok (.invokevirtual 195, 3) := by decide +kernel
theorem dX9_ends_96 : decode cX9_ends 96 = .ok (.istore 7, 2) := by decide +kernel
theorem dX9_ends_98 : decode cX9_ends 98 = .ok (.iload 7, 2) := by decide +kernel
theorem dX9_ends_100 : decode cX9_ends 100 = .ok (.bipush (-2), 2) := by decide +kernel
theorem dX9_ends_102 : decode cX9_ends 102 = .ok (.if_icmp .ne 5, 3) := by decide +kernel
theorem dX9_ends_105 : decode cX9_ends 105 = .ok (.iconst (-1), 1) := by decide +kernel
theorem dX9_ends_106 : decode cX9_ends 106 = .ok (.ireturn, 1) := by decide +kernel
theorem dX9_ends_107 : decode cX9_ends 107 = .ok (.iload 4, 2) := by decide +kernel
theorem dX9_ends_109 : decode cX9_ends 109 = .ok (.ifCond .ne 8, 3) := by decide +kernel
theorem dX9_ends_112 : decode cX9_ends 112 = .ok (.iload_n 2, 1) := by decide +kernel
theorem dX9_ends_113 : decode cX9_ends 113 = .ok (.iload 6, 2) := by decide +kernel
theorem dX9_ends_115 : decode cX9_ends 115 = .ok (.iadd, 1) := by decide +kernel
theorem dX9_ends_116 : decode cX9_ends 116 = .ok (.ireturn, 1) := by decide +kernel
theorem dX9_ends_117 : decode cX9_ends 117 = .ok (.iload 4, 2) := by decide +kernel
theorem dX9_ends_119 : decode cX9_ends 119 = .ok (.iconst 1, 1) := by decide +kernel
theorem dX9_ends_120 : decode cX9_ends 120 = .ok (.if_icmp .ne 15, 3) := by decide +kernel
theorem dX9_ends_123 : decode cX9_ends 123 = .ok (.iload 7, 2) := by decide +kernel
theorem dX9_ends_125 : decode cX9_ends 125 = .ok (.iconst (-1), 1) := by decide +kernel
theorem dX9_ends_126 : decode cX9_ends 126 = .ok (.if_icmp .ne 7, 3) := by decide +kernel
theorem dX9_ends_129 : decode cX9_ends 129 = .ok (.iconst 0, 1) := by decide +kernel
theorem dX9_ends_130 : decode cX9_ends 130 = .ok (.goto 4, 3) := by decide +kernel
theorem dX9_ends_133 : decode cX9_ends 133 = .ok (.iconst 1, 1) := by decide +kernel
theorem dX9_ends_134 : decode cX9_ends 134 = .ok (.ireturn, 1) := by decide +kernel
theorem dX9_ends_135 : decode cX9_ends 135 = .ok (.iload 7, 2) := by decide +kernel
theorem dX9_ends_137 : decode cX9_ends 137 = .ok (.iconst (-1), 1) := by decide +kernel
theorem dX9_ends_138 : decode cX9_ends 138 = .ok (.if_icmp .ne 7, 3) := by decide +kernel
theorem dX9_ends_141 : decode cX9_ends 141 = .ok (.iconst 0, 1) := by decide +kernel
theorem dX9_ends_142 : decode cX9_ends 142 = .ok (.goto 5, 3) := by decide +kernel
theorem dX9_ends_145 : decode cX9_ends 145 = .ok (.iload 7, 2) := by decide +kernel
theorem dX9_ends_147 : decode cX9_ends 147 = .ok (.ireturn, 1) := by decide +kernel
theorem dX9_best_0 : decode cX9_best 0 = .ok (.aload_n 0, 1) := by decide +kernel
theorem dX9_best_1 : decode cX9_best 1 = .ok (.getfield 15, 3) := by decide +kernel
theorem dX9_best_4 : decode cX9_best 4 = .ok (.iload_n 1, 1) := by decide +kernel
theorem dX9_best_5 : decode cX9_best 5 = .ok (.invokevirtual 192, 3) := by decide +kernel
theorem dX9_best_8 : decode cX9_best 8 = .ok (.ifCond .eq 12, 3) := by decide +kernel
theorem dX9_best_11 : decode cX9_best 11 = .ok (.iload_n 3, 1) := by decide +kernel
theorem dX9_best_12 : decode cX9_best 12 = .ok (.iconst 0, 1) := by decide +kernel
theorem dX9_best_13 : decode cX9_best 13 = .ok (.iconst 2, 1) := by decide +kernel
theorem dX9_best_14 : decode cX9_best 14 = .ok (.invokestatic 60, 3) := by decide +kernel
theorem dX9_best_17 : decode cX9_best 17 = .ok (.ifCond .ne 5, 3) := by decide +kernel
theorem dX9_best_20 : decode cX9_best 20 = .ok (.iconst (-1), 1) := by decide +kernel
theorem dX9_best_21 : decode cX9_best 21 = .ok (.ireturn, 1) := by decide +kernel
theorem dX9_best_22 : decode cX9_best 22 = .ok (.aload_n 0, 1) := by decide +kernel
theorem dX9_best_23 : decode cX9_best 23 = .ok (.iload_n 1, 1) := by decide +kernel
theorem dX9_best_24 : decode cX9_best 24 = .ok (.invokevirtual 199, 3) := by decide +kernel
theorem dX9_best_27 : decode cX9_best 27 = .ok (.aload_n 0, 1) := by decide +kernel
theorem dX9_best_28 : decode cX9_best 28 = .ok (.getfield 28, 3) := by decide +kernel
theorem dX9_best_31 : decode cX9_best 31 = .ok (.iload_n 1, 1) := by decide +kernel
theorem dX9_best_32 : decode cX9_best 32 = .ok (.iload_n 2, 1) := by decide +kernel
theorem dX9_best_33 : decode cX9_best 33 = .ok (.invokevirtual 202, 3) := by decide +kernel
theorem dX9_best_36 : decode cX9_best 36 = .ok (.istore 4, 2) := by decide +kernel
theorem dX9_best_38 : decode cX9_best 38 = .ok (.iload 4, 2) := by decide +kernel
theorem dX9_best_40 : decode cX9_best 40 = .ok (.iconst (-1), 1) := by decide +kernel
theorem dX9_best_41 : decode cX9_best 41 = .ok (.if_icmp .ne 5, 3) := by decide +kernel
theorem dX9_best_44 : decode cX9_best 44 = .ok (.iconst (-1), 1) := by decide +kernel
theorem dX9_best_45 : decode cX9_best 45 = .ok (.ireturn, 1) := by decide +kernel
theorem dX9_best_46 : decode cX9_best 46 = .ok (.iload 4, 2) := by decide +kernel
theorem dX9_best_48 : decode cX9_best 48 = .ok (.iconst 4, 1) := by decide +kernel
theorem dX9_best_49 : decode cX9_best 49 = .ok (.idiv, 1) := by decide +kernel
theorem dX9_best_50 : decode cX9_best 50 = .ok (.istore 5, 2) := by decide +kernel
theorem dX9_best_52 : decode cX9_best 52 = .ok (.iload 4, 2) := by decide +kernel
theorem dX9_best_54 : decode cX9_best 54 = .ok (.iconst 4, 1) := by decide +kernel
theorem dX9_best_55 : decode cX9_best 55 = .ok (.irem, 1) := by decide +kernel
theorem dX9_best_56 : decode cX9_best 56 = .ok (.istore 6, 2) := by decide +kernel
theorem dX9_best_58 : decode cX9_best 58 = .ok (.iload_n 3, 1) := by decide +kernel
theorem dX9_best_59 : decode cX9_best 59 = .ok (.ifCond .ne 6, 3) := by decide +kernel
theorem dX9_best_62 : decode cX9_best 62 = .ok (.iload 5, 2) := by decide +kernel
theorem dX9_best_64 : decode cX9_best 64 = .ok (.ireturn, 1) := by decide +kernel
theorem dX9_best_65 : decode cX9_best 65 = .ok (.iload_n 3, 1) := by decide +kernel
theorem dX9_best_66 : decode cX9_best 66 = .ok (.iconst 1, 1) := by decide +kernel
theorem dX9_best_67 : decode cX9_best 67 = .ok (.if_icmp .ne 8, 3) := by decide +kernel
theorem dX9_best_70 : decode cX9_best 70 = .ok (.iload 6, 2) := by decide +kernel
theorem dX9_best_72 : decode cX9_best 72 = .ok (.goto 21, 3) := by decide +kernel
theorem dX9_best_75 : decode cX9_best 75 = .ok (.iload 5, 2) := by decide +kernel
theorem dX9_best_77 : decode cX9_best 77 = .ok (.iload 6, 2) := by decide +kernel
theorem dX9_best_79 : decode cX9_best 79 = .ok (.iadd, 1) := by decide +kernel
theorem dX9_best_80 : decode cX9_best 80 = .ok (.aload_n 0, 1) := by decide +kernel
theorem dX9_best_81 : decode cX9_best 81 = .ok (.getfield 15, 3) := by decide +kernel
theorem dX9_best_84 : decode cX9_best 84 = .ok (.getfield 64, 3) := by decide +kernel
theorem dX9_best_87 : decode cX9_best 87 = .ok (.iload_n 1, 1) := by decide +kernel
theorem dX9_best_88 : decode cX9_best 88 = .ok (.iconst 2, 1) := by decide +kernel
theorem dX9_best_89 : decode cX9_best 89 = .ok (.invokevirtual 172, 3) := by decide +kernel
theorem dX9_best_92 : decode cX9_best 92 = .ok (.iadd, 1) := by decide +kernel
theorem dX9_best_93 : decode cX9_best 93 = .ok (.ireturn, 1) := by decide +kernel
theorem dX9_harshest_0 : decode cX9_harshest 0 = .ok (.aload_n 0, 1) := by decide +kernel
theorem dX9_harshest_1 : decode cX9_harshest 1 = .ok (.getfield 15, 3) := by decide +kernel
theorem dX9_harshest_4 : decode cX9_harshest 4 = .ok (.iload_n 1, 1) := by decide +kernel
theorem dX9_harshest_5 : decode cX9_harshest 5 = .ok (.invokevirtual 192, 3) := by decide +kernel
theorem dX9_harshest_8 : decode cX9_harshest 8 = .ok (.ifCond .ne 5, 3) := by decide +kernel
theorem dX9_harshest_11 : decode cX9_harshest 11 = .ok (.iconst (-1), 1) := by decide +kernel
theorem dX9_harshest_12 : decode cX9_harshest 12 = .ok (.ireturn, 1) := by decide +kernel
theorem dX9_harshest_13 : decode cX9_harshest 13 = .ok (.aload_n 0, 1) := by decide +kernel
theorem dX9_harshest_14 : decode cX9_harshest 14 = .ok (.iload_n 1, 1) := by decide +kernel
theorem dX9_harshest_15 : decode cX9_harshest 15 = .ok (.invokevirtual 199, 3) := by decide +kernel
theorem dX9_harshest_18 : decode cX9_harshest 18 = .ok (.aload_n 0, 1) := by decide +kernel
theorem dX9_harshest_19 : decode cX9_harshest 19 = .ok (.getfield 28, 3) := by decide +kernel
theorem dX9_harshest_22 : decode cX9_harshest 22 = .ok (.iload_n 1, 1) := by decide +kernel
theorem dX9_harshest_23 : decode cX9_harshest 23 = .ok (.invokevirtual 206, 3) := by decide +kernel
theorem dX9_harshest_26 : decode cX9_harshest 26 = .ok (.ireturn, 1) := by decide +kernel
theorem dX9_odds_0 : decode cX9_odds 0 = .ok (.aload_n 0, 1) := by decide +kernel
theorem dX9_odds_1 : decode cX9_odds 1 = .ok (.getfield 15, 3) := by decide +kernel
theorem dX9_odds_4 : decode cX9_odds 4 = .ok (.getfield 125, 3) := by decide +kernel
theorem dX9_odds_7 : decode cX9_odds 7 = .ok (.iconst 5, 1) := by decide +kernel
theorem dX9_odds_8 : decode cX9_odds 8 = .ok (.iaload, 1) := by decide +kernel
theorem dX9_odds_9 : decode cX9_odds 9 = .ok (.istore_n 2, 1) := by decide +kernel
theorem dX9_odds_10 : decode cX9_odds 10 = .ok (.aload_n 0, 1) := by decide +kernel
theorem dX9_odds_11 : decode cX9_odds 11 = .ok (.getfield 15, 3) := by decide +kernel
theorem dX9_odds_14 : decode cX9_odds 14 = .ok (.getfield 64, 3) := by decide +kernel
theorem dX9_odds_17 : decode cX9_odds 17 = .ok (.iload_n 2, 1) := by decide +kernel
theorem dX9_odds_18 : decode cX9_odds 18 = .ok (.invokevirtual 134, 3) := by decide +kernel
theorem dX9_odds_21 : decode cX9_odds 21 = .ok (.ifCond .ne 7, 3) := by decide +kernel
theorem dX9_odds_24 : decode cX9_odds 24 = .ok (.ldc2_w 209, 3) := by decide +kernel
theorem dX9_odds_27 : decode cX9_odds 27 = .ok (.lreturn, 1) := by decide +kernel
theorem dX9_odds_28 : decode cX9_odds 28 = .ok (.aload_n 0, 1) := by decide +kernel
theorem dX9_odds_29 : decode cX9_odds 29 = .ok (.getfield 15, 3) := by decide +kernel
theorem dX9_odds_32 : decode cX9_odds 32 = .ok (.getfield 64, 3) := by decide +kernel
theorem dX9_odds_35 : decode cX9_odds 35 = .ok (.iload_n 2, 1) := by decide +kernel
theorem dX9_odds_36 : decode cX9_odds 36 = .ok (.iconst 2, 1) := by decide +kernel
theorem dX9_odds_37 : decode cX9_odds 37 = .ok (.invokevirtual 172, 3) := by decide +kernel
theorem dX9_odds_40 : decode cX9_odds 40 = .ok (.aload_n 0, 1) := by decide +kernel
theorem dX9_odds_41 : decode cX9_odds 41 = .ok (.getfield 15, 3) := by decide +kernel
theorem dX9_odds_44 : decode cX9_odds 44 = .ok (.getfield 125, 3) := by decide +kernel
theorem dX9_odds_47 : decode cX9_odds 47 = .ok (.bipush 8, 2) := by decide +kernel
theorem dX9_odds_49 : decode cX9_odds 49 = .ok (.iaload, 1) := by decide +kernel
theorem dX9_odds_50 : decode cX9_odds 50 = .ok (.iadd, 1) := by decide +kernel
theorem dX9_odds_51 : decode cX9_odds 51 = .ok (.aload_n 0, 1) := by decide +kernel
theorem dX9_odds_52 : decode cX9_odds 52 = .ok (.getfield 15, 3) := by decide +kernel
theorem dX9_odds_55 : decode cX9_odds 55 = .ok (.getfield 125, 3) := by decide +kernel
theorem dX9_odds_58 : decode cX9_odds 58 = .ok (.bipush 6, 2) := by decide +kernel
theorem dX9_odds_60 : decode cX9_odds 60 = .ok (.iaload, 1) := by decide +kernel
theorem dX9_odds_61 : decode cX9_odds 61 = .ok (.isub, 1) := by decide +kernel
theorem dX9_odds_62 : decode cX9_odds 62 = .ok (.istore_n 3, 1) := by decide +kernel
theorem dX9_odds_63 : decode cX9_odds 63 = .ok (.iload_n 3, 1) := by decide +kernel
theorem dX9_odds_64 : decode cX9_odds 64 = .ok (.iconst 1, 1) := by decide +kernel
theorem dX9_odds_65 : decode cX9_odds 65 = .ok (.iconst 3, 1) := by decide +kernel
theorem dX9_odds_66 : decode cX9_odds 66 = .ok (.invokestatic 60, 3) := by decide +kernel
theorem dX9_odds_69 : decode cX9_odds 69 = .ok (.ifCond .ne 7, 3) := by decide +kernel
theorem dX9_odds_72 : decode cX9_odds 72 = .ok (.ldc2_w 209, 3) := by decide +kernel
theorem dX9_odds_75 : decode cX9_odds 75 = .ok (.lreturn, 1) := by decide +kernel
theorem dX9_odds_76 : decode cX9_odds 76 = .ok (.iload_n 3, 1) := by decide +kernel
theorem dX9_odds_77 : decode cX9_odds 77 = .ok (.iconst 1, 1) := by decide +kernel
theorem dX9_odds_78 : decode cX9_odds 78 = .ok (.if_icmp .ne 7, 3) := by decide +kernel
theorem dX9_odds_81 : decode cX9_odds 81 = .ok (.lconst 1, 1) := by decide +kernel
theorem dX9_odds_82 : decode cX9_odds 82 = .ok (.goto 17, 3) := by decide +kernel
theorem dX9_odds_85 : decode cX9_odds 85 = .ok (.iload_n 3, 1) := by decide +kernel
theorem dX9_odds_86 : decode cX9_odds 86 = .ok (.iconst 2, 1) := by decide +kernel
theorem dX9_odds_87 : decode cX9_odds 87 = .ok (.if_icmp .ne 9, 3) := by decide +kernel
theorem dX9_odds_90 : decode cX9_odds 90 = .ok (.ldc2_w 211, 3) := by decide +kernel
theorem dX9_odds_93 : decode cX9_odds 93 = .ok (.goto 6, 3) := by decide +kernel
theorem dX9_odds_96 : decode cX9_odds 96 = .ok (.ldc2_w 213, 3) := by decide +kernel
theorem dX9_odds_99 : decode cX9_odds 99 = .ok (.lstore 4, 2) := by decide +kernel
theorem dX9_odds_101 : decode cX9_odds 101 = .ok (.aload_n 0, 1) := by decide +kernel
theorem dX9_odds_102 : decode cX9_odds 102 = .ok (.getfield 28, 3) := by decide +kernel
theorem dX9_odds_105 : decode cX9_odds 105 = .ok (.aload_n 0, 1) := by decide +kernel
theorem dX9_odds_106 : decode cX9_odds 106 = .ok (.invokevirtual 159, 3) := by decide +kernel
theorem dX9_odds_109 : decode cX9_odds 109 = .ok (.iload_n 2, 1) := by decide +kernel
theorem dX9_odds_110 : decode cX9_odds 110 = .ok (.iload_n 3, 1) := by decide +kernel
theorem dX9_odds_111 : decode cX9_odds 111 = .ok (.invokevirtual 215, 3) := by decide +kernel
theorem dX9_odds_114 : decode cX9_odds 114 = .ok (.i2l, 1) := by decide +kernel
theorem dX9_odds_115 : decode cX9_odds 115 = .ok (.lstore 6, 2) := by decide +kernel
theorem dX9_odds_117 : decode cX9_odds 117 = .ok (.lload 6, 2) := by decide +kernel
theorem dX9_odds_119 : decode cX9_odds 119 = .ok (.lload 4, 2) := by decide +kernel
theorem dX9_odds_121 : decode cX9_odds 121 = .ok (.invokestatic 219, 3) := by decide +kernel
theorem dX9_odds_124 : decode cX9_odds 124 = .ok (.lstore 8, 2) := by decide +kernel
theorem dX9_odds_126 : decode cX9_odds 126 = .ok (.lload 8, 2) := by decide +kernel
theorem dX9_odds_128 : decode cX9_odds 128 = .ok (.lconst 1, 1) := by decide +kernel
theorem dX9_odds_129 : decode cX9_odds 129 = .ok (.lcmp, 1) := by decide +kernel
theorem dX9_odds_130 : decode cX9_odds 130 = .ok (.ifCond .ge 7, 3) := by decide +kernel
theorem dX9_odds_133 : decode cX9_odds 133 = .ok (.ldc2_w 209, 3) := by decide +kernel
theorem dX9_odds_136 : decode cX9_odds 136 = .ok (.lreturn, 1) := by decide +kernel
theorem dX9_odds_137 : decode cX9_odds 137 = .ok (.iload_n 1, 1) := by decide +kernel
theorem dX9_odds_138 : decode cX9_odds 138 = .ok (.ifCond .eq 11, 3) := by decide +kernel
theorem dX9_odds_141 : decode cX9_odds 141 = .ok (.lload 4, 2) := by decide +kernel
theorem dX9_odds_143 : decode cX9_odds 143 = .ok (.lload 8, 2) := by decide +kernel
theorem dX9_odds_145 : decode cX9_odds 145 = .ok (.ldiv, 1) := by decide +kernel
theorem dX9_odds_146 : decode cX9_odds 146 = .ok (.goto 8, 3) := by decide +kernel
theorem dX9_odds_149 : decode cX9_odds 149 = .ok (.lload 6, 2) := by decide +kernel
theorem dX9_odds_151 : decode cX9_odds 151 = .ok (.lload 8, 2) := by decide +kernel
theorem dX9_odds_153 : decode cX9_odds 153 = .ok (.ldiv, 1) := by decide +kernel
theorem dX9_odds_154 : decode cX9_odds 154 = .ok (.lreturn, 1) := by decide +kernel
theorem dX9_clash_0 : decode cX9_clash 0 = .ok (.aload_n 0, 1) := by decide +kernel
theorem dX9_clash_1 : decode cX9_clash 1 = .ok (.getfield 15, 3) := by decide +kernel
theorem dX9_clash_4 : decode cX9_clash 4 = .ok (.getfield 64, 3) := by decide +kernel
theorem dX9_clash_7 : decode cX9_clash 7 = .ok (.iload_n 1, 1) := by decide +kernel
theorem dX9_clash_8 : decode cX9_clash 8 = .ok (.invokevirtual 134, 3) := by decide +kernel
theorem dX9_clash_11 : decode cX9_clash 11 = .ok (.ifCond .ne 5, 3) := by decide +kernel
theorem dX9_clash_14 : decode cX9_clash 14 = .ok (.iconst (-1), 1) := by decide +kernel
theorem dX9_clash_15 : decode cX9_clash 15 = .ok (.ireturn, 1) := by decide +kernel
theorem dX9_clash_16 : decode cX9_clash 16 = .ok (.aload_n 0, 1) := by decide +kernel
theorem dX9_clash_17 : decode cX9_clash 17 = .ok (.iload_n 1, 1) := by decide +kernel
theorem dX9_clash_18 : decode cX9_clash 18 = .ok (.aload_n 0, 1) := by decide +kernel
theorem dX9_clash_19 : decode cX9_clash 19 = .ok (.getfield 15, 3) := by decide +kernel
theorem dX9_clash_22 : decode cX9_clash 22 = .ok (.getfield 64, 3) := by decide +kernel
theorem dX9_clash_25 : decode cX9_clash 25 = .ok (.iload_n 1, 1) := by decide +kernel
theorem dX9_clash_26 : decode cX9_clash 26 = .ok (.iconst 3, 1) := by decide +kernel
theorem dX9_clash_27 : decode cX9_clash 27 = .ok (.invokevirtual 172, 3) := by decide +kernel
theorem dX9_clash_30 : decode cX9_clash 30 = .ok (.invokevirtual 223, 3) := by decide +kernel
theorem dX9_clash_33 : decode cX9_clash 33 = .ok (.ireturn, 1) := by decide +kernel
theorem dX9_leastFacts_0 : decode cX9_leastFacts 0 = .ok (.aload_n 0, 1) := by decide +kernel
theorem dX9_leastFacts_1 : decode cX9_leastFacts 1 = .ok (.getfield 15, 3) := by decide +kernel
theorem dX9_leastFacts_4 : decode cX9_leastFacts 4 = .ok (.getfield 64, 3) := by decide +kernel
theorem dX9_leastFacts_7 : decode cX9_leastFacts 7 = .ok (.iload_n 1, 1) := by decide +kernel
theorem dX9_leastFacts_8 : decode cX9_leastFacts 8 = .ok (.invokevirtual 134, 3) := by decide +kernel
theorem dX9_leastFacts_11 : decode cX9_leastFacts 11 = .ok (.ifCond .ne 5, 3) := by decide +kernel
theorem dX9_leastFacts_14 : decode cX9_leastFacts 14 = .ok (.iconst (-1), 1) := by decide +kernel
theorem dX9_leastFacts_15 : decode cX9_leastFacts 15 = .ok (.ireturn, 1) := by decide +kernel
theorem dX9_leastFacts_16 : decode cX9_leastFacts 16 = .ok (.aload_n 0, 1) := by decide +kernel
theorem dX9_leastFacts_17 : decode cX9_leastFacts 17 = .ok (.getfield 15, 3) := by decide +kernel
theorem dX9_leastFacts_20 : decode cX9_leastFacts 20 = .ok (.getfield 64, 3) := by decide +kernel
theorem dX9_leastFacts_23 : decode cX9_leastFacts 23 = .ok (.iload_n 1, 1) := by decide +kernel
theorem dX9_leastFacts_24 : decode cX9_leastFacts 24 = .ok (.iconst 3, 1) := by decide +kernel
theorem dX9_leastFacts_25 : decode cX9_leastFacts 25 = .ok (.invokevirtual 172, 3) := by decide +kernel
theorem dX9_leastFacts_28 : decode cX9_leastFacts 28 = .ok (.istore_n 2, 1) := by decide +kernel
theorem dX9_leastFacts_29 : decode cX9_leastFacts 29 = .ok (.aload_n 0, 1) := by decide +kernel
theorem dX9_leastFacts_30 : decode cX9_leastFacts 30 = .ok (.invokevirtual 159, 3) := by decide +kernel
theorem dX9_leastFacts_33 : decode cX9_leastFacts 33 = .ok (.astore_n 3, 1) := by decide +kernel
theorem dX9_leastFacts_34 : decode cX9_leastFacts 34 = .ok (.aload_n 3, 1) := by decide +kernel
theorem dX9_leastFacts_35 : decode cX9_leastFacts 35 = .ok (.ifnonnull 7, 3) := by decide +kernel
theorem dX9_leastFacts_38 : decode cX9_leastFacts 38 = .ok (.iconst 1, 1) := by decide +kernel
theorem dX9_leastFacts_39 : decode cX9_leastFacts 39 = .ok (.goto 9, 3) := by decide +kernel
theorem dX9_leastFacts_42 : decode cX9_leastFacts 42 = .ok (.aload_n 3, 1) := by decide +kernel
theorem dX9_leastFacts_43 : decode cX9_leastFacts 43 = .ok (.getfield 226, 3) := by decide +kernel
theorem dX9_leastFacts_46 : decode cX9_leastFacts 46 = .ok (.iconst 1, 1) := by decide +kernel
theorem dX9_leastFacts_47 : decode cX9_leastFacts 47 = .ok (.ior, 1) := by decide +kernel
theorem dX9_leastFacts_48 : decode cX9_leastFacts 48 = .ok (.istore 4, 2) := by decide +kernel
theorem dX9_leastFacts_50 : decode cX9_leastFacts 50 = .ok (.iconst 0, 1) := by decide +kernel
theorem dX9_leastFacts_51 : decode cX9_leastFacts 51 = .ok (.istore 5, 2) := by decide +kernel
theorem dX9_leastFacts_53 : decode cX9_leastFacts 53 = .ok (.iload 5, 2) := by decide +kernel
theorem dX9_leastFacts_55 : decode cX9_leastFacts 55 = .ok (.bipush 8, 2) := by decide +kernel
theorem dX9_leastFacts_57 : decode cX9_leastFacts 57 = .ok (.if_icmp .gt 61, 3) := by decide +kernel
theorem dX9_leastFacts_60 : decode cX9_leastFacts 60 = .ok (.iconst 0, 1) := by decide +kernel
theorem dX9_leastFacts_61 : decode cX9_leastFacts 61 = .ok (.istore 6, 2) := by decide +kernel
theorem dX9_leastFacts_63 : decode cX9_leastFacts 63 = .ok (.iload 6, 2) := by decide +kernel
theorem dX9_leastFacts_65 : decode cX9_leastFacts 65 = .ok (.sipush 256, 3) := by decide +kernel
theorem dX9_leastFacts_68 : decode cX9_leastFacts 68 = .ok (.if_icmp .ge 44, 3) := by decide +kernel
theorem dX9_leastFacts_71 : decode cX9_leastFacts 71 = .ok (.iload 6, 2) := by decide +kernel
theorem dX9_leastFacts_73 : decode cX9_leastFacts 73 = .ok (.iload 4, 2) := by decide +kernel
theorem dX9_leastFacts_75 : decode cX9_leastFacts 75 = .ok (.iconst (-1), 1) := by decide +kernel
theorem dX9_leastFacts_76 : decode cX9_leastFacts 76 = .ok (.ixor, 1) := by decide +kernel
theorem dX9_leastFacts_77 : decode cX9_leastFacts 77 = .ok (.iand, 1) := by decide +kernel
theorem dX9_leastFacts_78 : decode cX9_leastFacts 78 = .ok (.ifCond .ne 28, 3) := by decide +kernel
theorem dX9_leastFacts_81 : decode cX9_leastFacts 81 = .ok (.iload 6, 2) := by decide +kernel
theorem dX9_leastFacts_83 : decode cX9_leastFacts 83 = .ok (.invokestatic 229, 3) := by decide +kernel
theorem dX9_leastFacts_86 : decode cX9_leastFacts 86 = .ok (.iload 5, 2) := by decide +kernel
theorem dX9_leastFacts_88 : decode cX9_leastFacts 88 = .ok (.if_icmp .ne 18, 3) := by decide +kernel
theorem dX9_leastFacts_91 : decode cX9_leastFacts 91 = .ok (.aload_n 0, 1) := by decide +kernel
theorem dX9_leastFacts_92 : decode cX9_leastFacts 92 = .ok (.iload_n 1, 1) := by decide +kernel
theorem dX9_leastFacts_93 : decode cX9_leastFacts 93 = .ok (.iload_n 2, 1) := by decide +kernel
theorem dX9_leastFacts_94 : decode cX9_leastFacts 94 = .ok (.iload 6, 2) := by decide +kernel
theorem dX9_leastFacts_96 : decode cX9_leastFacts 96 = .ok (.ixor, 1) := by decide +kernel
theorem dX9_leastFacts_97 : decode cX9_leastFacts 97 = .ok (.invokevirtual 234, 3) := by decide +kernel
theorem dX9_leastFacts_100 : decode cX9_leastFacts 100 = .ok (.ifCond .eq 6, 3) := by decide +kernel
theorem dX9_leastFacts_103 : decode cX9_leastFacts 103 = .ok (.iload 6, 2) := by decide +kernel
theorem dX9_leastFacts_105 : decode cX9_leastFacts 105 = .ok (.ireturn, 1) := by decide +kernel
theorem dX9_leastFacts_106 : decode cX9_leastFacts 106 = .ok (.iinc 6 1, 3) := by decide +kernel
theorem dX9_leastFacts_109 : decode cX9_leastFacts 109 = .ok (.goto (-46), 3) := by decide +kernel
theorem dX9_leastFacts_112 : decode cX9_leastFacts 112 = .ok (.iinc 5 1, 3) := by decide +kernel
theorem dX9_leastFacts_115 : decode cX9_leastFacts 115 = .ok (.goto (-62), 3) := by decide +kernel
theorem dX9_leastFacts_118 : decode cX9_leastFacts 118 = .ok (.iconst (-1), 1) := by decide +kernel
theorem dX9_leastFacts_119 : decode cX9_leastFacts 119 = .ok (.ireturn, 1) := by decide +kernel
theorem dX9_game_0 : decode cX9_game 0 = .ok (.aload_n 0, 1) := by decide +kernel
theorem dX9_game_1 : decode cX9_game 1 = .ok (.getfield 15, 3) := by decide +kernel
theorem dX9_game_4 : decode cX9_game 4 = .ok (.iload_n 1, 1) := by decide +kernel
theorem dX9_game_5 : decode cX9_game 5 = .ok (.invokevirtual 192, 3) := by decide +kernel
theorem dX9_game_8 : decode cX9_game 8 = .ok (.ifCond .ne 5, 3) := by decide +kernel
theorem dX9_game_11 : decode cX9_game 11 = .ok (.iconst (-1), 1) := by decide +kernel
theorem dX9_game_12 : decode cX9_game 12 = .ok (.ireturn, 1) := by decide +kernel
theorem dX9_game_13 : decode cX9_game 13 = .ok (.aload_n 0, 1) := by decide +kernel
theorem dX9_game_14 : decode cX9_game 14 = .ok (.getfield 28, 3) := by decide +kernel
theorem dX9_game_17 : decode cX9_game 17 = .ok (.aload_n 0, 1) := by decide +kernel
theorem dX9_game_18 : decode cX9_game 18 = .ok (.invokevirtual 159, 3) := by decide +kernel
theorem dX9_game_21 : decode cX9_game 21 = .ok (.aload_n 0, 1) := by decide +kernel
theorem dX9_game_22 : decode cX9_game 22 = .ok (.getfield 15, 3) := by decide +kernel
theorem dX9_game_25 : decode cX9_game 25 = .ok (.getfield 64, 3) := by decide +kernel
theorem dX9_game_28 : decode cX9_game 28 = .ok (.iload_n 1, 1) := by decide +kernel
theorem dX9_game_29 : decode cX9_game 29 = .ok (.iconst 2, 1) := by decide +kernel
theorem dX9_game_30 : decode cX9_game 30 = .ok (.invokevirtual 172, 3) := by decide +kernel
theorem dX9_game_33 : decode cX9_game 33 = .ok (.iconst 3, 1) := by decide +kernel
theorem dX9_game_34 : decode cX9_game 34 = .ok (.iadd, 1) := by decide +kernel
theorem dX9_game_35 : decode cX9_game 35 = .ok (.invokevirtual 176, 3) := by decide +kernel
theorem dX9_game_38 : decode cX9_game 38 = .ok (.aload_n 0, 1) := by decide +kernel
theorem dX9_game_39 : decode cX9_game 39 = .ok (.getfield 28, 3) := by decide +kernel
theorem dX9_game_42 : decode cX9_game 42 = .ok (.iload_n 1, 1) := by decide +kernel
theorem dX9_game_43 : decode cX9_game 43 = .ok (.iload_n 2, 1) := by decide +kernel
theorem dX9_game_44 : decode cX9_game 44 = .ok (.invokevirtual 238, 3) := by decide +kernel
theorem dX9_game_47 : decode cX9_game 47 = .ok (.istore 4, 2) := by decide +kernel
theorem dX9_game_49 : decode cX9_game 49 = .ok (.iload_n 3, 1) := by decide +kernel
theorem dX9_game_50 : decode cX9_game 50 = .ok (.ifCond .eq 10, 3) := by decide +kernel
theorem dX9_game_53 : decode cX9_game 53 = .ok (.iload 4, 2) := by decide +kernel
theorem dX9_game_55 : decode cX9_game 55 = .ok (.iconst 2, 1) := by decide +kernel
theorem dX9_game_56 : decode cX9_game 56 = .ok (.irem, 1) := by decide +kernel
theorem dX9_game_57 : decode cX9_game 57 = .ok (.goto 7, 3) := by decide +kernel
theorem dX9_game_60 : decode cX9_game 60 = .ok (.iload 4, 2) := by decide +kernel
theorem dX9_game_62 : decode cX9_game 62 = .ok (.iconst 2, 1) := by decide +kernel
theorem dX9_game_63 : decode cX9_game 63 = .ok (.idiv, 1) := by decide +kernel
theorem dX9_game_64 : decode cX9_game 64 = .ok (.ireturn, 1) := by decide +kernel
theorem dX9_session_0 : decode cX9_session 0 = .ok (.iload_n 1, 1) := by decide +kernel
theorem dX9_session_1 : decode cX9_session 1 = .ok (.invokestatic 229, 3) := by decide +kernel
theorem dX9_session_4 : decode cX9_session 4 = .ok (.istore_n 3, 1) := by decide +kernel
theorem dX9_session_5 : decode cX9_session 5 = .ok (.iload_n 1, 1) := by decide +kernel
theorem dX9_session_6 : decode cX9_session 6 = .ok (.iconst 1, 1) := by decide +kernel
theorem dX9_session_7 : decode cX9_session 7 = .ok (.sipush 255, 3) := by decide +kernel
theorem dX9_session_10 : decode cX9_session 10 = .ok (.invokestatic 60, 3) := by decide +kernel
theorem dX9_session_13 : decode cX9_session 13 = .ok (.ifCond .eq 19, 3) := by decide +kernel
theorem dX9_session_16 : decode cX9_session 16 = .ok (.iload_n 3, 1) := by decide +kernel
theorem dX9_session_17 : decode cX9_session 17 = .ok (.iconst 5, 1) := by decide +kernel
theorem dX9_session_18 : decode cX9_session 18 = .ok (.if_icmp .gt 14, 3) := by decide +kernel
theorem dX9_session_21 : decode cX9_session 21 = .ok (.iload_n 2, 1) := by decide +kernel
theorem dX9_session_22 : decode cX9_session 22 = .ok (.iconst (-1), 1) := by decide +kernel
theorem dX9_session_23 : decode cX9_session 23 = .ok (.iload_n 3, 1) := by decide +kernel
theorem dX9_session_24 : decode cX9_session 24 = .ok (.iconst 1, 1) := by decide +kernel
theorem dX9_session_25 : decode cX9_session 25 = .ok (.isub, 1) := by decide +kernel
theorem dX9_session_26 : decode cX9_session 26 = .ok (.invokestatic 60, 3) := by decide +kernel
theorem dX9_session_29 : decode cX9_session 29 = .ok (.ifCond .ne 6, 3) := by decide +kernel
theorem dX9_session_32 : decode cX9_session 32 = .ok (.bipush (-2), 2) := by decide +kernel
theorem dX9_session_34 : decode cX9_session 34 = .ok (.ireturn, 1) := by decide +kernel
theorem dX9_session_35 : decode cX9_session 35 = .ok (.iconst 0, 1) := by decide +kernel
theorem dX9_session_36 : decode cX9_session 36 = .ok (.istore 4, 2) := by decide +kernel
theorem dX9_session_38 : decode cX9_session 38 = .ok (.iconst 0, 1) := by decide +kernel
theorem dX9_session_39 : decode cX9_session 39 = .ok (.istore 5, 2) := by decide +kernel
theorem dX9_session_41 : decode cX9_session 41 = .ok (.iload 5, 2) := by decide +kernel
theorem dX9_session_43 : decode cX9_session 43 = .ok (.bipush 8, 2) := by decide +kernel
theorem dX9_session_45 : decode cX9_session 45 = .ok (.if_icmp .ge 52, 3) := by decide +kernel
theorem dX9_session_48 : decode cX9_session 48 = .ok (.iload_n 1, 1) := by decide +kernel
theorem dX9_session_49 : decode cX9_session 49 = .ok (.iload 5, 2) := by decide +kernel
theorem dX9_session_51 : decode cX9_session 51 = .ok (.ishr, 1) := by decide +kernel
theorem dX9_session_52 : decode cX9_session 52 = .ok (.iconst 1, 1) := by decide +kernel
theorem dX9_session_53 : decode cX9_session 53 = .ok (.iand, 1) := by decide +kernel
theorem dX9_session_54 : decode cX9_session 54 = .ok (.iconst 1, 1) := by decide +kernel
theorem dX9_session_55 : decode cX9_session 55 = .ok (.if_icmp .ne 36, 3) := by decide +kernel
theorem dX9_session_58 : decode cX9_session 58 = .ok (.aload_n 0, 1) := by decide +kernel
theorem dX9_session_59 : decode cX9_session 59 = .ok (.getfield 15, 3) := by decide +kernel
theorem dX9_session_62 : decode cX9_session 62 = .ok (.iload 5, 2) := by decide +kernel
theorem dX9_session_64 : decode cX9_session 64 = .ok (.invokevirtual 192, 3) := by decide +kernel
theorem dX9_session_67 : decode cX9_session 67 = .ok (.ifCond .ne 6, 3) := by decide +kernel
theorem dX9_session_70 : decode cX9_session 70 = .ok (.bipush (-2), 2) := by decide +kernel
theorem dX9_session_72 : decode cX9_session 72 = .ok (.ireturn, 1) := by decide +kernel
theorem dX9_session_73 : decode cX9_session 73 = .ok (.iload 4, 2) := by decide +kernel
theorem dX9_session_75 : decode cX9_session 75 = .ok (.aload_n 0, 1) := by decide +kernel
theorem dX9_session_76 : decode cX9_session 76 = .ok (.getfield 15, 3) := by decide +kernel
theorem dX9_session_79 : decode cX9_session 79 = .ok (.getfield 64, 3) := by decide +kernel
theorem dX9_session_82 : decode cX9_session 82 = .ok (.iload 5, 2) := by decide +kernel
theorem dX9_session_84 : decode cX9_session 84 = .ok (.iconst 2, 1) := by decide +kernel
theorem dX9_session_85 : decode cX9_session 85 = .ok (.invokevirtual 172, 3) := by decide +kernel
theorem dX9_session_88 : decode cX9_session 88 = .ok (.iadd, 1) := by decide +kernel
theorem dX9_session_89 : decode cX9_session 89 = .ok (.istore 4, 2) := by decide +kernel
theorem dX9_session_91 : decode cX9_session 91 = .ok (.iinc 5 1, 3) := by decide +kernel
theorem dX9_session_94 : decode cX9_session 94 = .ok (.goto (-53), 3) := by decide +kernel
theorem dX9_session_97 : decode cX9_session 97 = .ok (.aload_n 0, 1) := by decide +kernel
theorem dX9_session_98 : decode cX9_session 98 = .ok (.getfield 28, 3) := by decide +kernel
theorem dX9_session_101 : decode cX9_session 101 = .ok (.aload_n 0, 1) := by decide +kernel
theorem dX9_session_102 : decode cX9_session 102 = .ok (.invokevirtual 159, 3) := by decide +kernel
theorem dX9_session_105 : decode cX9_session 105 = .ok (.iload 4, 2) := by decide +kernel
theorem dX9_session_107 : decode cX9_session 107 = .ok (.invokevirtual 176, 3) := by decide +kernel
theorem dX9_session_110 : decode cX9_session 110 = .ok (.aload_n 0, 1) := by decide +kernel
theorem dX9_session_111 : decode cX9_session 111 = .ok (.getfield 28, 3) := by decide +kernel
theorem dX9_session_114 : decode cX9_session 114 = .ok (.iload_n 1, 1) := by decide +kernel
theorem dX9_session_115 : decode cX9_session 115 = .ok (.invokevirtual 241, 3) := by decide +kernel
theorem dX9_session_118 : decode cX9_session 118 = .ok (.iload_n 2, 1) := by decide +kernel
theorem dX9_session_119 : decode cX9_session 119 = .ok (.iconst (-1), 1) := by decide +kernel
theorem dX9_session_120 : decode cX9_session 120 = .ok (.if_icmp .ne 13, 3) := by decide +kernel
theorem dX9_session_123 : decode cX9_session 123 = .ok (.aload_n 0, 1) := by decide +kernel
theorem dX9_session_124 : decode cX9_session 124 = .ok (.getfield 28, 3) := by decide +kernel
theorem dX9_session_127 : decode cX9_session 127 = .ok (.getfield 244, 3) := by decide +kernel
theorem dX9_session_130 : decode cX9_session 130 = .ok (.goto 12, 3) := by decide +kernel
theorem dX9_session_133 : decode cX9_session 133 = .ok (.aload_n 0, 1) := by decide +kernel
theorem dX9_session_134 : decode cX9_session 134 = .ok (.getfield 28, 3) := by decide +kernel
theorem dX9_session_137 : decode cX9_session 137 = .ok (.getfield 247, 3) := by decide +kernel
theorem dX9_session_140 : decode cX9_session 140 = .ok (.iload_n 2, 1) := by decide +kernel
theorem dX9_session_141 : decode cX9_session 141 = .ok (.iaload, 1) := by decide +kernel
theorem dX9_session_142 : decode cX9_session 142 = .ok (.ireturn, 1) := by decide +kernel
theorem dX9_record_0 : decode cX9_record 0 = .ok (.iload_n 1, 1) := by decide +kernel
theorem dX9_record_1 : decode cX9_record 1 = .ok (.iconst (-1), 1) := by decide +kernel
theorem dX9_record_2 : decode cX9_record 2 = .ok (.if_icmp .ne 14, 3) := by decide +kernel
theorem dX9_record_5 : decode cX9_record 5 = .ok (.aload_n 0, 1) := by decide +kernel
theorem dX9_record_6 : decode cX9_record 6 = .ok (.getfield 15, 3) := by decide +kernel
theorem dX9_record_9 : decode cX9_record 9 = .ok (.getfield 250, 3) := by decide +kernel
theorem dX9_record_12 : decode cX9_record 12 = .ok (.invokevirtual 253, 3) := by decide +kernel
theorem dX9_record_15 : decode cX9_record 15 = .ok (.ireturn, 1) := by decide +kernel
theorem dX9_record_16 : decode cX9_record 16 = .ok (.aload_n 0, 1) := by decide +kernel
theorem dX9_record_17 : decode cX9_record 17 = .ok (.getfield 15, 3) := by decide +kernel
theorem dX9_record_20 : decode cX9_record 20 = .ok (.getfield 64, 3) := by decide +kernel
theorem dX9_record_23 : decode cX9_record 23 = .ok (.iload_n 1, 1) := by decide +kernel
theorem dX9_record_24 : decode cX9_record 24 = .ok (.invokevirtual 134, 3) := by decide +kernel
theorem dX9_record_27 : decode cX9_record 27 = .ok (.ifCond .eq 25, 3) := by decide +kernel
theorem dX9_record_30 : decode cX9_record 30 = .ok (.iload_n 2, 1) := by decide +kernel
theorem dX9_record_31 : decode cX9_record 31 = .ok (.iconst 0, 1) := by decide +kernel
theorem dX9_record_32 : decode cX9_record 32 = .ok (.iconst 3, 1) := by decide +kernel
theorem dX9_record_33 : decode cX9_record 33 = .ok (.invokestatic 60, 3) := by decide +kernel
theorem dX9_record_36 : decode cX9_record 36 = .ok (.ifCond .eq 16, 3) := by decide +kernel
theorem dX9_record_39 : decode cX9_record 39 = .ok (.aload_n 0, 1) := by decide +kernel
theorem dX9_record_40 : decode cX9_record 40 = .ok (.getfield 15, 3) := by decide +kernel
theorem dX9_record_43 : decode cX9_record 43 = .ok (.getfield 250, 3) := by decide +kernel
theorem dX9_record_46 : decode cX9_record 46 = .ok (.invokevirtual 68, 3) := by decide +kernel
theorem dX9_record_49 : decode cX9_record 49 = .ok (.ifCond .eq 6, 3) := by decide +kernel
theorem dX9_record_52 : decode cX9_record 52 = .ok (.bipush (-2), 2) := by decide +kernel
theorem dX9_record_54 : decode cX9_record 54 = .ok (.ireturn, 1) := by decide +kernel
theorem dX9_record_55 : decode cX9_record 55 = .ok (.aload_n 0, 1) := by decide +kernel
theorem dX9_record_56 : decode cX9_record 56 = .ok (.getfield 15, 3) := by decide +kernel
theorem dX9_record_59 : decode cX9_record 59 = .ok (.getfield 250, 3) := by decide +kernel
theorem dX9_record_62 : decode cX9_record 62 = .ok (.iload_n 1, 1) := by decide +kernel
theorem dX9_record_63 : decode cX9_record 63 = .ok (.iload_n 3, 1) := by decide +kernel
theorem dX9_record_64 : decode cX9_record 64 = .ok (.ifCond .eq 7, 3) := by decide +kernel
theorem dX9_record_67 : decode cX9_record 67 = .ok (.iconst 1, 1) := by decide +kernel
theorem dX9_record_68 : decode cX9_record 68 = .ok (.goto 4, 3) := by decide +kernel
theorem dX9_record_71 : decode cX9_record 71 = .ok (.iconst 0, 1) := by decide +kernel
theorem dX9_record_72 : decode cX9_record 72 = .ok (.iload_n 2, 1) := by decide +kernel
theorem dX9_record_73 : decode cX9_record 73 = .ok (.iconst 0, 1) := by decide +kernel
theorem dX9_record_74 : decode cX9_record 74 = .ok (.invokevirtual 74, 3) := by decide +kernel
theorem dX9_record_77 : decode cX9_record 77 = .ok (.ireturn, 1) := by decide +kernel
theorem dX9_turned_0 : decode cX9_turned 0 = .ok (.iconst 0, 1) := by decide +kernel
theorem dX9_turned_1 : decode cX9_turned 1 = .ok (.istore_n 1, 1) := by decide +kernel
theorem dX9_turned_2 : decode cX9_turned 2 = .ok (.iconst 0, 1) := by decide +kernel
theorem dX9_turned_3 : decode cX9_turned 3 = .ok (.istore_n 2, 1) := by decide +kernel
theorem dX9_turned_4 : decode cX9_turned 4 = .ok (.iload_n 2, 1) := by decide +kernel
theorem dX9_turned_5 : decode cX9_turned 5 = .ok (.iconst 4, 1) := by decide +kernel
theorem dX9_turned_6 : decode cX9_turned 6 = .ok (.if_icmp .ge 27, 3) := by decide +kernel
theorem dX9_turned_9 : decode cX9_turned 9 = .ok (.aload_n 0, 1) := by decide +kernel
theorem dX9_turned_10 : decode cX9_turned 10 = .ok (.aload_n 0, 1) := by decide +kernel
theorem dX9_turned_11 : decode cX9_turned 11 = .ok (.invokevirtual 159, 3) := by decide +kernel
theorem dX9_turned_14 : decode cX9_turned 14 = .ok (.iload_n 2, 1) := by decide +kernel
theorem dX9_turned_15 : decode cX9_turned 15 = .ok (.invokevirtual 256, 3) := by decide +kernel
theorem dX9_turned_18 : decode cX9_turned 18 = .ok (.ifCond .ne 9, 3) := by decide +kernel
theorem dX9_turned_21 : decode cX9_turned 21 = .ok (.iload_n 1, 1) := by decide +kernel
theorem dX9_turned_22 : decode cX9_turned 22 = .ok (.iconst 1, 1) := by decide +kernel
theorem dX9_turned_23 : decode cX9_turned 23 = .ok (.iload_n 2, 1) := by decide +kernel
theorem dX9_turned_24 : decode cX9_turned 24 = .ok (.ishl, 1) := by decide +kernel
theorem dX9_turned_25 : decode cX9_turned 25 = .ok (.ior, 1) := by decide +kernel
theorem dX9_turned_26 : decode cX9_turned 26 = .ok (.istore_n 1, 1) := by decide +kernel
theorem dX9_turned_27 : decode cX9_turned 27 = .ok (.iinc 2 1, 3) := by decide +kernel
theorem dX9_turned_30 : decode cX9_turned 30 = .ok (.goto (-26), 3) := by decide +kernel
theorem dX9_turned_33 : decode cX9_turned 33 = .ok (.iload_n 1, 1) := by decide +kernel
theorem dX9_turned_34 : decode cX9_turned 34 = .ok (.ireturn, 1) := by decide +kernel
theorem dX9_fewestWrong_0 : decode cX9_fewestWrong 0 = .ok (.bipush 8, 2) := by decide +kernel
theorem dX9_fewestWrong_2 : decode cX9_fewestWrong 2 = .ok (.istore_n 1, 1) := by decide +kernel
theorem dX9_fewestWrong_3 : decode cX9_fewestWrong 3 = .ok (.iconst 0, 1) := by decide +kernel
theorem dX9_fewestWrong_4 : decode cX9_fewestWrong 4 = .ok (.istore_n 2, 1) := by decide +kernel
theorem dX9_fewestWrong_5 : decode cX9_fewestWrong 5 = .ok (.iload_n 2, 1) := by decide +kernel
theorem dX9_fewestWrong_6 : decode cX9_fewestWrong 6 = .ok (.iconst 4, 1) := by decide +kernel
theorem dX9_fewestWrong_7 : decode cX9_fewestWrong 7 = .ok (.if_icmp .ge 26, 3) := by decide +kernel
theorem dX9_fewestWrong_10 : decode cX9_fewestWrong 10 = .ok (.aload_n 0, 1) := by decide +kernel
theorem dX9_fewestWrong_11 : decode cX9_fewestWrong 11 = .ok (.aload_n 0, 1) := by decide +kernel
theorem dX9_fewestWrong_12 : decode cX9_fewestWrong 12 = .ok (.invokevirtual 159, 3) := by decide +kernel
theorem dX9_fewestWrong_15 : decode cX9_fewestWrong 15 = .ok (.iload_n 2, 1) := by decide +kernel
theorem dX9_fewestWrong_16 : decode cX9_fewestWrong 16 = .ok (.invokevirtual 256, 3) := by decide +kernel
theorem dX9_fewestWrong_19 : decode cX9_fewestWrong 19 = .ok (.istore_n 3, 1) := by decide +kernel
theorem dX9_fewestWrong_20 : decode cX9_fewestWrong 20 = .ok (.iload_n 3, 1) := by decide +kernel
theorem dX9_fewestWrong_21 : decode cX9_fewestWrong 21 = .ok (.iload_n 1, 1) := by decide +kernel
theorem dX9_fewestWrong_22 : decode cX9_fewestWrong 22 = .ok (.if_icmp .ge 5, 3) := by decide +kernel
theorem dX9_fewestWrong_25 : decode cX9_fewestWrong 25 = .ok (.iload_n 3, 1) := by decide +kernel
theorem dX9_fewestWrong_26 : decode cX9_fewestWrong 26 = .ok (.istore_n 1, 1) := by decide +kernel
theorem dX9_fewestWrong_27 : decode cX9_fewestWrong 27 = .ok (.iinc 2 1, 3) := by decide +kernel
theorem dX9_fewestWrong_30 : decode cX9_fewestWrong 30 = .ok (.goto (-25), 3) := by decide +kernel
theorem dX9_fewestWrong_33 : decode cX9_fewestWrong 33 = .ok (.iload_n 1, 1) := by decide +kernel
theorem dX9_fewestWrong_34 : decode cX9_fewestWrong 34 = .ok (.ireturn, 1) := by decide +kernel
theorem dX9_whose_0 : decode cX9_whose 0 = .ok (.iconst 0, 1) := by decide +kernel
theorem dX9_whose_1 : decode cX9_whose 1 = .ok (.istore_n 1, 1) := by decide +kernel
theorem dX9_whose_2 : decode cX9_whose 2 = .ok (.iconst 0, 1) := by decide +kernel
theorem dX9_whose_3 : decode cX9_whose 3 = .ok (.istore_n 2, 1) := by decide +kernel
theorem dX9_whose_4 : decode cX9_whose 4 = .ok (.iload_n 2, 1) := by decide +kernel
theorem dX9_whose_5 : decode cX9_whose 5 = .ok (.aload_n 0, 1) := by decide +kernel
theorem dX9_whose_6 : decode cX9_whose 6 = .ok (.getfield 15, 3) := by decide +kernel
theorem dX9_whose_9 : decode cX9_whose 9 = .ok (.getfield 88, 3) := by decide +kernel
theorem dX9_whose_12 : decode cX9_whose 12 = .ok (.if_icmp .ge 34, 3) := by decide +kernel
theorem dX9_whose_15 : decode cX9_whose 15 = .ok (.iload_n 2, 1) := by decide +kernel
theorem dX9_whose_16 : decode cX9_whose 16 = .ok (.iconst 4, 1) := by decide +kernel
theorem dX9_whose_17 : decode cX9_whose 17 = .ok (.if_icmp .ge 29, 3) := by decide +kernel
theorem dX9_whose_20 : decode cX9_whose 20 = .ok (.aload_n 0, 1) := by decide +kernel
theorem dX9_whose_21 : decode cX9_whose 21 = .ok (.aload_n 0, 1) := by decide +kernel
theorem dX9_whose_22 : decode cX9_whose 22 = .ok (.getfield 44, 3) := by decide +kernel
theorem dX9_whose_25 : decode cX9_whose 25 = .ok (.iload_n 2, 1) := by decide +kernel
theorem dX9_whose_26 : decode cX9_whose 26 = .ok (.aaload, 1) := by decide +kernel
theorem dX9_whose_27 : decode cX9_whose 27 = .ok (.iconst 0, 1) := by decide +kernel
theorem dX9_whose_28 : decode cX9_whose 28 = .ok (.invokevirtual 256, 3) := by decide +kernel
theorem dX9_whose_31 : decode cX9_whose 31 = .ok (.ifCond .ne 9, 3) := by decide +kernel
theorem dX9_whose_34 : decode cX9_whose 34 = .ok (.iload_n 1, 1) := by decide +kernel
theorem dX9_whose_35 : decode cX9_whose 35 = .ok (.iconst 1, 1) := by decide +kernel
theorem dX9_whose_36 : decode cX9_whose 36 = .ok (.iload_n 2, 1) := by decide +kernel
theorem dX9_whose_37 : decode cX9_whose 37 = .ok (.ishl, 1) := by decide +kernel
theorem dX9_whose_38 : decode cX9_whose 38 = .ok (.ior, 1) := by decide +kernel
theorem dX9_whose_39 : decode cX9_whose 39 = .ok (.istore_n 1, 1) := by decide +kernel
theorem dX9_whose_40 : decode cX9_whose 40 = .ok (.iinc 2 1, 3) := by decide +kernel
theorem dX9_whose_43 : decode cX9_whose 43 = .ok (.goto (-39), 3) := by decide +kernel
theorem dX9_whose_46 : decode cX9_whose 46 = .ok (.iload_n 1, 1) := by decide +kernel
theorem dX9_whose_47 : decode cX9_whose 47 = .ok (.ireturn, 1) := by decide +kernel
theorem dX9_learn_0 : decode cX9_learn 0 = .ok (.iload_n 1, 1) := by decide +kernel
theorem dX9_learn_1 : decode cX9_learn 1 = .ok (.iconst (-1), 1) := by decide +kernel
theorem dX9_learn_2 : decode cX9_learn 2 = .ok (.if_icmp .ne 14, 3) := by decide +kernel
theorem dX9_learn_5 : decode cX9_learn 5 = .ok (.aload_n 0, 1) := by decide +kernel
theorem dX9_learn_6 : decode cX9_learn 6 = .ok (.getfield 15, 3) := by decide +kernel
theorem dX9_learn_9 : decode cX9_learn 9 = .ok (.getfield 260, 3) := by decide +kernel
theorem dX9_learn_12 : decode cX9_learn 12 = .ok (.invokevirtual 253, 3) := by decide +kernel
theorem dX9_learn_15 : decode cX9_learn 15 = .ok (.ireturn, 1) := by decide +kernel
theorem dX9_learn_16 : decode cX9_learn 16 = .ok (.aload_n 0, 1) := by decide +kernel
theorem dX9_learn_17 : decode cX9_learn 17 = .ok (.getfield 15, 3) := by decide +kernel
theorem dX9_learn_20 : decode cX9_learn 20 = .ok (.getfield 64, 3) := by decide +kernel
theorem dX9_learn_23 : decode cX9_learn 23 = .ok (.iload_n 1, 1) := by decide +kernel
theorem dX9_learn_24 : decode cX9_learn 24 = .ok (.invokevirtual 134, 3) := by decide +kernel
theorem dX9_learn_27 : decode cX9_learn 27 = .ok (.ifCond .eq 16, 3) := by decide +kernel
theorem dX9_learn_30 : decode cX9_learn 30 = .ok (.aload_n 0, 1) := by decide +kernel
theorem dX9_learn_31 : decode cX9_learn 31 = .ok (.getfield 15, 3) := by decide +kernel
theorem dX9_learn_34 : decode cX9_learn 34 = .ok (.getfield 260, 3) := by decide +kernel
theorem dX9_learn_37 : decode cX9_learn 37 = .ok (.invokevirtual 68, 3) := by decide +kernel
theorem dX9_learn_40 : decode cX9_learn 40 = .ok (.ifCond .eq 6, 3) := by decide +kernel
theorem dX9_learn_43 : decode cX9_learn 43 = .ok (.bipush (-2), 2) := by decide +kernel
theorem dX9_learn_45 : decode cX9_learn 45 = .ok (.ireturn, 1) := by decide +kernel
theorem dX9_learn_46 : decode cX9_learn 46 = .ok (.aload_n 0, 1) := by decide +kernel
theorem dX9_learn_47 : decode cX9_learn 47 = .ok (.getfield 15, 3) := by decide +kernel
theorem dX9_learn_50 : decode cX9_learn 50 = .ok (.getfield 260, 3) := by decide +kernel
theorem dX9_learn_53 : decode cX9_learn 53 = .ok (.iload_n 1, 1) := by decide +kernel
theorem dX9_learn_54 : decode cX9_learn 54 = .ok (.iload_n 2, 1) := by decide +kernel
theorem dX9_learn_55 : decode cX9_learn 55 = .ok (.ifCond .eq 7, 3) := by decide +kernel
theorem dX9_learn_58 : decode cX9_learn 58 = .ok (.iconst 1, 1) := by decide +kernel
theorem dX9_learn_59 : decode cX9_learn 59 = .ok (.goto 4, 3) := by decide +kernel
theorem dX9_learn_62 : decode cX9_learn 62 = .ok (.iconst 0, 1) := by decide +kernel
theorem dX9_learn_63 : decode cX9_learn 63 = .ok (.iconst 0, 1) := by decide +kernel
theorem dX9_learn_64 : decode cX9_learn 64 = .ok (.iconst 0, 1) := by decide +kernel
theorem dX9_learn_65 : decode cX9_learn 65 = .ok (.invokevirtual 74, 3) := by decide +kernel
theorem dX9_learn_68 : decode cX9_learn 68 = .ok (.ireturn, 1) := by decide +kernel
theorem dX9_codes_0 : decode cX9_codes 0 = .ok (.aload_n 0, 1) := by decide +kernel
theorem dX9_codes_1 : decode cX9_codes 1 = .ok (.invokevirtual 263, 3) := by decide +kernel
theorem dX9_codes_4 : decode cX9_codes 4 = .ok (.istore_n 2, 1) := by decide +kernel
theorem dX9_codes_5 : decode cX9_codes 5 = .ok (.iload_n 1, 1) := by decide +kernel
theorem dX9_codes_6 : decode cX9_codes 6 = .ok (.iconst (-1), 1) := by decide +kernel
theorem dX9_codes_7 : decode cX9_codes 7 = .ok (.if_icmp .ne 5, 3) := by decide +kernel
theorem dX9_codes_10 : decode cX9_codes 10 = .ok (.iload_n 2, 1) := by decide +kernel
theorem dX9_codes_11 : decode cX9_codes 11 = .ok (.ireturn, 1) := by decide +kernel
theorem dX9_codes_12 : decode cX9_codes 12 = .ok (.iload_n 1, 1) := by decide +kernel
theorem dX9_codes_13 : decode cX9_codes 13 = .ok (.iconst 0, 1) := by decide +kernel
theorem dX9_codes_14 : decode cX9_codes 14 = .ok (.iload_n 2, 1) := by decide +kernel
theorem dX9_codes_15 : decode cX9_codes 15 = .ok (.iconst 1, 1) := by decide +kernel
theorem dX9_codes_16 : decode cX9_codes 16 = .ok (.isub, 1) := by decide +kernel
theorem dX9_codes_17 : decode cX9_codes 17 = .ok (.invokestatic 60, 3) := by decide +kernel
theorem dX9_codes_20 : decode cX9_codes 20 = .ok (.ifCond .eq 12, 3) := by decide +kernel
theorem dX9_codes_23 : decode cX9_codes 23 = .ok (.aload_n 0, 1) := by decide +kernel
theorem dX9_codes_24 : decode cX9_codes 24 = .ok (.getfield 49, 3) := by decide +kernel
theorem dX9_codes_27 : decode cX9_codes 27 = .ok (.iload_n 1, 1) := by decide +kernel
theorem dX9_codes_28 : decode cX9_codes 28 = .ok (.iaload, 1) := by decide +kernel
theorem dX9_codes_29 : decode cX9_codes 29 = .ok (.goto 4, 3) := by decide +kernel
theorem dX9_codes_32 : decode cX9_codes 32 = .ok (.iconst (-1), 1) := by decide +kernel
theorem dX9_codes_33 : decode cX9_codes 33 = .ok (.ireturn, 1) := by decide +kernel
theorem dX9_sure_0 : decode cX9_sure 0 = .ok (.aload_n 0, 1) := by decide +kernel
theorem dX9_sure_1 : decode cX9_sure 1 = .ok (.invokevirtual 263, 3) := by decide +kernel
theorem dX9_sure_4 : decode cX9_sure 4 = .ok (.istore_n 2, 1) := by decide +kernel
theorem dX9_sure_5 : decode cX9_sure 5 = .ok (.aload_n 0, 1) := by decide +kernel
theorem dX9_sure_6 : decode cX9_sure 6 = .ok (.getfield 15, 3) := by decide +kernel
theorem dX9_sure_9 : decode cX9_sure 9 = .ok (.getfield 64, 3) := by decide +kernel
theorem dX9_sure_12 : decode cX9_sure 12 = .ok (.iload_n 1, 1) := by decide +kernel
theorem dX9_sure_13 : decode cX9_sure 13 = .ok (.invokevirtual 134, 3) := by decide +kernel
theorem dX9_sure_16 : decode cX9_sure 16 = .ok (.ifCond .eq 7, 3) := by decide +kernel
theorem dX9_sure_19 : decode cX9_sure 19 = .ok (.iload_n 2, 1) := by decide +kernel
theorem dX9_sure_20 : decode cX9_sure 20 = .ok (.ifCond .ne 5, 3) := by decide +kernel
theorem dX9_sure_23 : decode cX9_sure 23 = .ok (.iconst (-1), 1) := by decide +kernel
theorem dX9_sure_24 : decode cX9_sure 24 = .ok (.ireturn, 1) := by decide +kernel
theorem dX9_sure_25 : decode cX9_sure 25 = .ok (.aload_n 0, 1) := by decide +kernel
theorem dX9_sure_26 : decode cX9_sure 26 = .ok (.aload_n 0, 1) := by decide +kernel
theorem dX9_sure_27 : decode cX9_sure 27 = .ok (.getfield 15, 3) := by decide +kernel
theorem dX9_sure_30 : decode cX9_sure 30 = .ok (.getfield 64, 3) := by decide +kernel
theorem dX9_sure_33 : decode cX9_sure 33 = .ok (.iload_n 1, 1) := by decide +kernel
theorem dX9_sure_34 : decode cX9_sure 34 = .ok (.iconst 3, 1) := by decide +kernel
theorem dX9_sure_35 : decode cX9_sure 35 = .ok (.invokevirtual 172, 3) := by decide +kernel
theorem dX9_sure_38 : decode cX9_sure 38 = .ok (.iload_n 2, 1) := by decide +kernel
theorem dX9_sure_39 : decode cX9_sure 39 = .ok (.invokevirtual 266, 3) := by decide +kernel
theorem dX9_sure_42 : decode cX9_sure 42 = .ok (.istore_n 3, 1) := by decide +kernel
theorem dX9_sure_43 : decode cX9_sure 43 = .ok (.iload_n 3, 1) := by decide +kernel
theorem dX9_sure_44 : decode cX9_sure 44 = .ok (.iload_n 2, 1) := by decide +kernel
theorem dX9_sure_45 : decode cX9_sure 45 = .ok (.if_icmp .ne 5, 3) := by decide +kernel
theorem dX9_sure_48 : decode cX9_sure 48 = .ok (.iconst 1, 1) := by decide +kernel
theorem dX9_sure_49 : decode cX9_sure 49 = .ok (.ireturn, 1) := by decide +kernel
theorem dX9_sure_50 : decode cX9_sure 50 = .ok (.iload_n 3, 1) := by decide +kernel
theorem dX9_sure_51 : decode cX9_sure 51 = .ok (.ifCond .ne 7, 3) := by decide +kernel
theorem dX9_sure_54 : decode cX9_sure 54 = .ok (.iconst 0, 1) := by decide +kernel
theorem dX9_sure_55 : decode cX9_sure 55 = .ok (.goto 4, 3) := by decide +kernel
theorem dX9_sure_58 : decode cX9_sure 58 = .ok (.iconst (-1), 1) := by decide +kernel
theorem dX9_sure_59 : decode cX9_sure 59 = .ok (.ireturn, 1) := by decide +kernel
theorem dX9_toBring_0 : decode cX9_toBring 0 = .ok (.aload_n 0, 1) := by decide +kernel
theorem dX9_toBring_1 : decode cX9_toBring 1 = .ok (.invokevirtual 263, 3) := by decide +kernel
theorem dX9_toBring_4 : decode cX9_toBring 4 = .ok (.istore_n 1, 1) := by decide +kernel
theorem dX9_toBring_5 : decode cX9_toBring 5 = .ok (.iconst (-1), 1) := by decide +kernel
theorem dX9_toBring_6 : decode cX9_toBring 6 = .ok (.istore_n 2, 1) := by decide +kernel
theorem dX9_toBring_7 : decode cX9_toBring 7 = .ok (.sipush 256, 3) := by decide +kernel
theorem dX9_toBring_10 : decode cX9_toBring 10 = .ok (.istore_n 3, 1) := by decide +kernel
theorem dX9_toBring_11 : decode cX9_toBring 11 = .ok (.iconst 0, 1) := by decide +kernel
theorem dX9_toBring_12 : decode cX9_toBring 12 = .ok (.istore 4, 2) := by decide +kernel
theorem dX9_toBring_14 : decode cX9_toBring 14 = .ok (.iload 4, 2) := by decide +kernel
theorem dX9_toBring_16 : decode cX9_toBring 16 = .ok (.aload_n 0, 1) := by decide +kernel
theorem dX9_toBring_17 : decode cX9_toBring 17 = .ok (.getfield 15, 3) := by decide +kernel
theorem dX9_toBring_20 : decode cX9_toBring 20 = .ok (.getfield 64, 3) := by decide +kernel
theorem dX9_toBring_23 : decode cX9_toBring 23 = .ok (.getfield 156, 3) := by decide +kernel
theorem dX9_toBring_26 : decode cX9_toBring 26 = .ok (.if_icmp .ge 63, 3) := by decide +kernel
theorem dX9_toBring_29 : decode cX9_toBring 29 = .ok (.aload_n 0, 1) := by decide +kernel
theorem dX9_toBring_30 : decode cX9_toBring 30 = .ok (.aload_n 0, 1) := by decide +kernel
theorem dX9_toBring_31 : decode cX9_toBring 31 = .ok (.getfield 15, 3) := by decide +kernel
theorem dX9_toBring_34 : decode cX9_toBring 34 = .ok (.getfield 64, 3) := by decide +kernel
theorem dX9_toBring_37 : decode cX9_toBring 37 = .ok (.iload 4, 2) := by decide +kernel
theorem dX9_toBring_39 : decode cX9_toBring 39 = .ok (.iconst 3, 1) := by decide +kernel
theorem dX9_toBring_40 : decode cX9_toBring 40 = .ok (.invokevirtual 172, 3) := by decide +kernel
theorem dX9_toBring_43 : decode cX9_toBring 43 = .ok (.iload_n 1, 1) := by decide +kernel
theorem dX9_toBring_44 : decode cX9_toBring 44 = .ok (.invokevirtual 266, 3) := by decide +kernel
theorem dX9_toBring_47 : decode cX9_toBring 47 = .ok (.istore 5, 2) := by decide +kernel
theorem dX9_toBring_49 : decode cX9_toBring 49 = .ok (.iconst 2, 1) := by decide +kernel
theorem dX9_toBring_50 : decode cX9_toBring 50 = .ok (.iload 5, 2) := by decide +kernel
theorem dX9_toBring_52 : decode cX9_toBring 52 = .ok (.imul, 1) := by decide +kernel
theorem dX9_toBring_53 : decode cX9_toBring 53 = .ok (.iload_n 1, 1) := by decide +kernel
theorem dX9_toBring_54 : decode cX9_toBring 54 = .ok (.isub, 1) := by decide +kernel
theorem dX9_toBring_55 : decode cX9_toBring 55 = .ok (.invokestatic 269, 3) := by decide +kernel
theorem dX9_toBring_58 : decode cX9_toBring 58 = .ok (.istore 6, 2) := by decide +kernel
theorem dX9_toBring_60 : decode cX9_toBring 60 = .ok (.iload 5, 2) := by decide +kernel
theorem dX9_toBring_62 : decode cX9_toBring 62 = .ok (.ifCond .le 21, 3) := by decide +kernel
theorem dX9_toBring_65 : decode cX9_toBring 65 = .ok (.iload 5, 2) := by decide +kernel
theorem dX9_toBring_67 : decode cX9_toBring 67 = .ok (.iload_n 1, 1) := by decide +kernel
theorem dX9_toBring_68 : decode cX9_toBring 68 = .ok (.if_icmp .ge 15, 3) := by decide +kernel
theorem dX9_toBring_71 : decode cX9_toBring 71 = .ok (.iload 6, 2) := by decide +kernel
theorem dX9_toBring_73 : decode cX9_toBring 73 = .ok (.iload_n 3, 1) := by decide +kernel
theorem dX9_toBring_74 : decode cX9_toBring 74 = .ok (.if_icmp .ge 9, 3) := by decide +kernel
theorem dX9_toBring_77 : decode cX9_toBring 77 = .ok (.iload 6, 2) := by decide +kernel
theorem dX9_toBring_79 : decode cX9_toBring 79 = .ok (.istore_n 3, 1) := by decide +kernel
theorem dX9_toBring_80 : decode cX9_toBring 80 = .ok (.iload 4, 2) := by decide +kernel
theorem dX9_toBring_82 : decode cX9_toBring 82 = .ok (.istore_n 2, 1) := by decide +kernel
theorem dX9_toBring_83 : decode cX9_toBring 83 = .ok (.iinc 4 1, 3) := by decide +kernel
theorem dX9_toBring_86 : decode cX9_toBring 86 = .ok (.goto (-72), 3) := by decide +kernel
theorem dX9_toBring_89 : decode cX9_toBring 89 = .ok (.iload_n 2, 1) := by decide +kernel
theorem dX9_toBring_90 : decode cX9_toBring 90 = .ok (.ireturn, 1) := by decide +kernel
theorem dX9_counsel_0 : decode cX9_counsel 0 = .ok (.iload_n 1, 1) := by decide +kernel
theorem dX9_counsel_1 : decode cX9_counsel 1 = .ok (.iconst (-1), 1) := by decide +kernel
theorem dX9_counsel_2 : decode cX9_counsel 2 = .ok (.if_icmp .ne 14, 3) := by decide +kernel
theorem dX9_counsel_5 : decode cX9_counsel 5 = .ok (.aload_n 0, 1) := by decide +kernel
theorem dX9_counsel_6 : decode cX9_counsel 6 = .ok (.getfield 15, 3) := by decide +kernel
theorem dX9_counsel_9 : decode cX9_counsel 9 = .ok (.getfield 274, 3) := by decide +kernel
theorem dX9_counsel_12 : decode cX9_counsel 12 = .ok (.invokevirtual 253, 3) := by decide +kernel
theorem dX9_counsel_15 : decode cX9_counsel 15 = .ok (.ireturn, 1) := by decide +kernel
theorem dX9_counsel_16 : decode cX9_counsel 16 = .ok (.iload_n 1, 1) := by decide +kernel
theorem dX9_counsel_17 : decode cX9_counsel 17 = .ok (.iconst 1, 1) := by decide +kernel
theorem dX9_counsel_18 : decode cX9_counsel 18 = .ok (.sipush 999, 3) := by decide +kernel
theorem dX9_counsel_21 : decode cX9_counsel 21 = .ok (.invokestatic 60, 3) := by decide +kernel
theorem dX9_counsel_24 : decode cX9_counsel 24 = .ok (.ifCond .eq 26, 3) := by decide +kernel
theorem dX9_counsel_27 : decode cX9_counsel 27 = .ok (.iload_n 2, 1) := by decide +kernel
theorem dX9_counsel_28 : decode cX9_counsel 28 = .ok (.iconst 0, 1) := by decide +kernel
theorem dX9_counsel_29 : decode cX9_counsel 29 = .ok (.bipush 99, 2) := by decide +kernel
theorem dX9_counsel_31 : decode cX9_counsel 31 = .ok (.invokestatic 60, 3) := by decide +kernel
theorem dX9_counsel_34 : decode cX9_counsel 34 = .ok (.ifCond .eq 16, 3) := by decide +kernel
theorem dX9_counsel_37 : decode cX9_counsel 37 = .ok (.aload_n 0, 1) := by decide +kernel
theorem dX9_counsel_38 : decode cX9_counsel 38 = .ok (.getfield 15, 3) := by decide +kernel
theorem dX9_counsel_41 : decode cX9_counsel 41 = .ok (.getfield 274, 3) := by decide +kernel
theorem dX9_counsel_44 : decode cX9_counsel 44 = .ok (.invokevirtual 68, 3) := by decide +kernel
theorem dX9_counsel_47 : decode cX9_counsel 47 = .ok (.ifCond .eq 6, 3) := by decide +kernel
theorem dX9_counsel_50 : decode cX9_counsel 50 = .ok (.bipush (-2), 2) := by decide +kernel
theorem dX9_counsel_52 : decode cX9_counsel 52 = .ok (.ireturn, 1) := by decide +kernel
theorem dX9_counsel_53 : decode cX9_counsel 53 = .ok (.aload_n 0, 1) := by decide +kernel
theorem dX9_counsel_54 : decode cX9_counsel 54 = .ok (.getfield 15, 3) := by decide +kernel
theorem dX9_counsel_57 : decode cX9_counsel 57 = .ok (.getfield 274, 3) := by decide +kernel
theorem dX9_counsel_60 : decode cX9_counsel 60 = .ok (.iload_n 1, 1) := by decide +kernel
theorem dX9_counsel_61 : decode cX9_counsel 61 = .ok (.iload_n 2, 1) := by decide +kernel
theorem dX9_counsel_62 : decode cX9_counsel 62 = .ok (.iconst 0, 1) := by decide +kernel
theorem dX9_counsel_63 : decode cX9_counsel 63 = .ok (.iconst 0, 1) := by decide +kernel
theorem dX9_counsel_64 : decode cX9_counsel 64 = .ok (.invokevirtual 74, 3) := by decide +kernel
theorem dX9_counsel_67 : decode cX9_counsel 67 = .ok (.ireturn, 1) := by decide +kernel
theorem dX9_hired_0 : decode cX9_hired 0 = .ok (.iload_n 1, 1) := by decide +kernel
theorem dX9_hired_1 : decode cX9_hired 1 = .ok (.iconst 0, 1) := by decide +kernel
theorem dX9_hired_2 : decode cX9_hired 2 = .ok (.sipush 9999, 3) := by decide +kernel
theorem dX9_hired_5 : decode cX9_hired 5 = .ok (.invokestatic 60, 3) := by decide +kernel
theorem dX9_hired_8 : decode cX9_hired 8 = .ok (.ifCond .ne 5, 3) := by decide +kernel
theorem dX9_hired_11 : decode cX9_hired 11 = .ok (.iconst (-1), 1) := by decide +kernel
theorem dX9_hired_12 : decode cX9_hired 12 = .ok (.ireturn, 1) := by decide +kernel
theorem dX9_hired_13 : decode cX9_hired 13 = .ok (.iconst 0, 1) := by decide +kernel
theorem dX9_hired_14 : decode cX9_hired 14 = .ok (.istore_n 3, 1) := by decide +kernel
theorem dX9_hired_15 : decode cX9_hired 15 = .ok (.iconst 0, 1) := by decide +kernel
theorem dX9_hired_16 : decode cX9_hired 16 = .ok (.istore 4, 2) := by decide +kernel
theorem dX9_hired_18 : decode cX9_hired 18 = .ok (.iconst 0, 1) := by decide +kernel
theorem dX9_hired_19 : decode cX9_hired 19 = .ok (.istore 5, 2) := by decide +kernel
theorem dX9_hired_21 : decode cX9_hired 21 = .ok (.iconst 0, 1) := by decide +kernel
theorem dX9_hired_22 : decode cX9_hired 22 = .ok (.istore 6, 2) := by decide +kernel
theorem dX9_hired_24 : decode cX9_hired 24 = .ok (.iload 6, 2) := by decide +kernel
theorem dX9_hired_26 : decode cX9_hired 26 = .ok (.iconst 1, 1) := by decide +kernel
theorem dX9_hired_27 : decode cX9_hired 27 = .ok (.aload_n 0, 1) := by decide +kernel
theorem dX9_hired_28 : decode cX9_hired 28 = .ok (.getfield 15, 3) := by decide +kernel
theorem dX9_hired_31 : decode cX9_hired 31 = .ok (.getfield 274, 3) := by decide +kernel
theorem dX9_hired_34 : decode cX9_hired 34 = .ok (.getfield 156, 3) := by decide +kernel
theorem dX9_hired_37 : decode cX9_hired 37 = .ok (.ishl, 1) := by decide +kernel
theorem dX9_hired_38 : decode cX9_hired 38 = .ok (.if_icmp .ge 89, 3) := by decide +kernel
theorem dX9_hired_41 : decode cX9_hired 41 = .ok (.aload_n 0, 1) := by decide +kernel
theorem dX9_hired_42 : decode cX9_hired 42 = .ok (.getfield 15, 3) := by decide +kernel
theorem dX9_hired_45 : decode cX9_hired 45 = .ok (.getfield 274, 3) := by decide +kernel
theorem dX9_hired_48 : decode cX9_hired 48 = .ok (.iload 6, 2) := by decide +kernel
theorem dX9_hired_50 : decode cX9_hired 50 = .ok (.iconst 0, 1) := by decide +kernel
theorem dX9_hired_51 : decode cX9_hired 51 = .ok (.invokevirtual 277, 3) := by decide +kernel
theorem dX9_hired_54 : decode cX9_hired 54 = .ok (.istore 7, 2) := by decide +kernel
theorem dX9_hired_56 : decode cX9_hired 56 = .ok (.aload_n 0, 1) := by decide +kernel
theorem dX9_hired_57 : decode cX9_hired 57 = .ok (.getfield 15, 3) := by decide +kernel
theorem dX9_hired_60 : decode cX9_hired 60 = .ok (.getfield 274, 3) := by decide +kernel
theorem dX9_hired_63 : decode cX9_hired 63 = .ok (.iload 6, 2) := by decide +kernel
theorem dX9_hired_65 : decode cX9_hired 65 = .ok (.iconst 1, 1) := by decide +kernel
theorem dX9_hired_66 : decode cX9_hired 66 = .ok (.invokevirtual 277, 3) := by decide +kernel
theorem dX9_hired_69 : decode cX9_hired 69 = .ok (.istore 8, 2) := by decide +kernel
theorem dX9_hired_71 : decode cX9_hired 71 = .ok (.iload 8, 2) := by decide +kernel
theorem dX9_hired_73 : decode cX9_hired 73 = .ok (.iload 5, 2) := by decide +kernel
theorem dX9_hired_75 : decode cX9_hired 75 = .ok (.if_icmp .gt 17, 3) := by decide +kernel
theorem dX9_hired_78 : decode cX9_hired 78 = .ok (.iload 8, 2) := by decide +kernel
theorem dX9_hired_80 : decode cX9_hired 80 = .ok (.iload 5, 2) := by decide +kernel
theorem dX9_hired_82 : decode cX9_hired 82 = .ok (.if_icmp .ne 14, 3) := by decide +kernel
theorem dX9_hired_85 : decode cX9_hired 85 = .ok (.iload 7, 2) := by decide +kernel
theorem dX9_hired_87 : decode cX9_hired 87 = .ok (.iload 4, 2) := by decide +kernel
theorem dX9_hired_89 : decode cX9_hired 89 = .ok (.if_icmp .ge 7, 3) := by decide +kernel
theorem dX9_hired_92 : decode cX9_hired 92 = .ok (.iconst 1, 1) := by decide +kernel
theorem dX9_hired_93 : decode cX9_hired 93 = .ok (.goto 4, 3) := by decide +kernel
theorem dX9_hired_96 : decode cX9_hired 96 = .ok (.iconst 0, 1) := by decide +kernel
theorem dX9_hired_97 : decode cX9_hired 97 = .ok (.istore 9, 2) := by decide +kernel
theorem dX9_hired_99 : decode cX9_hired 99 = .ok (.iload 7, 2) := by decide +kernel
theorem dX9_hired_101 : decode cX9_hired 101 = .ok (.iload_n 1, 1) := by decide +kernel
theorem dX9_hired_102 : decode cX9_hired 102 = .ok (.if_icmp .gt 19, 3) := by decide +kernel
theorem dX9_hired_105 : decode cX9_hired 105 = .ok (.iload 9, 2) := by decide +kernel
theorem dX9_hired_107 : decode cX9_hired 107 = .ok (.ifCond .eq 14, 3) := by decide +kernel
theorem dX9_hired_110 : decode cX9_hired 110 = .ok (.iload 6, 2) := by decide +kernel
theorem dX9_hired_112 : decode cX9_hired 112 = .ok (.istore_n 3, 1) := by decide +kernel
theorem dX9_hired_113 : decode cX9_hired 113 = .ok (.iload 7, 2) := by decide +kernel
theorem dX9_hired_115 : decode cX9_hired 115 = .ok (.istore 4, 2) := by decide +kernel
theorem dX9_hired_117 : decode cX9_hired 117 = .ok (.iload 8, 2) := by decide +kernel
theorem dX9_hired_119 : decode cX9_hired 119 = .ok (.istore 5, 2) := by decide +kernel
theorem dX9_hired_121 : decode cX9_hired 121 = .ok (.iinc 6 1, 3) := by decide +kernel
theorem dX9_hired_124 : decode cX9_hired 124 = .ok (.goto (-100), 3) := by decide +kernel
theorem dX9_hired_127 : decode cX9_hired 127 = .ok (.iload_n 2, 1) := by decide +kernel
theorem dX9_hired_128 : decode cX9_hired 128 = .ok (.ifCond .eq 7, 3) := by decide +kernel
theorem dX9_hired_131 : decode cX9_hired 131 = .ok (.iload_n 3, 1) := by decide +kernel
theorem dX9_hired_132 : decode cX9_hired 132 = .ok (.goto 5, 3) := by decide +kernel
theorem dX9_hired_135 : decode cX9_hired 135 = .ok (.iload 5, 2) := by decide +kernel
theorem dX9_hired_137 : decode cX9_hired 137 = .ok (.ireturn, 1) := by decide +kernel
theorem dX9_calm_0 : decode cX9_calm 0 = .ok (.iload_n 1, 1) := by decide +kernel
theorem dX9_calm_1 : decode cX9_calm 1 = .ok (.iconst 1, 1) := by decide +kernel
theorem dX9_calm_2 : decode cX9_calm 2 = .ok (.bipush 60, 2) := by decide +kernel
theorem dX9_calm_4 : decode cX9_calm 4 = .ok (.invokestatic 60, 3) := by decide +kernel
theorem dX9_calm_7 : decode cX9_calm 7 = .ok (.ifCond .ne 5, 3) := by decide +kernel
theorem dX9_calm_10 : decode cX9_calm 10 = .ok (.iconst (-1), 1) := by decide +kernel
theorem dX9_calm_11 : decode cX9_calm 11 = .ok (.ireturn, 1) := by decide +kernel
theorem dX9_calm_12 : decode cX9_calm 12 = .ok (.aload_n 0, 1) := by decide +kernel
theorem dX9_calm_13 : decode cX9_calm 13 = .ok (.getfield 28, 3) := by decide +kernel
theorem dX9_calm_16 : decode cX9_calm 16 = .ok (.aload_n 0, 1) := by decide +kernel
theorem dX9_calm_17 : decode cX9_calm 17 = .ok (.invokevirtual 159, 3) := by decide +kernel
theorem dX9_calm_20 : decode cX9_calm 20 = .ok (.iload_n 1, 1) := by decide +kernel
theorem dX9_calm_21 : decode cX9_calm 21 = .ok (.invokevirtual 176, 3) := by decide +kernel
theorem dX9_calm_24 : decode cX9_calm 24 = .ok (.aload_n 0, 1) := by decide +kernel
theorem dX9_calm_25 : decode cX9_calm 25 = .ok (.getfield 28, 3) := by decide +kernel
theorem dX9_calm_28 : decode cX9_calm 28 = .ok (.invokevirtual 280, 3) := by decide +kernel
theorem dX9_calm_31 : decode cX9_calm 31 = .ok (.ireturn, 1) := by decide +kernel
theorem dX9_standing_0 : decode cX9_standing 0 = .ok (.iload_n 1, 1) := by decide +kernel
theorem dX9_standing_1 : decode cX9_standing 1 = .ok (.iconst 1, 1) := by decide +kernel
theorem dX9_standing_2 : decode cX9_standing 2 = .ok (.bipush 60, 2) := by decide +kernel
theorem dX9_standing_4 : decode cX9_standing 4 = .ok (.invokestatic 60, 3) := by decide +kernel
theorem dX9_standing_7 : decode cX9_standing 7 = .ok (.ifCond .eq 12, 3) := by decide +kernel
theorem dX9_standing_10 : decode cX9_standing 10 = .ok (.iload_n 2, 1) := by decide +kernel
theorem dX9_standing_11 : decode cX9_standing 11 = .ok (.iconst 0, 1) := by decide +kernel
theorem dX9_standing_12 : decode cX9_standing 12 = .ok (.iconst 3, 1) := by decide +kernel
theorem dX9_standing_13 : decode cX9_standing 13 = .ok (.invokestatic 60, 3) := by decide +kernel
theorem dX9_standing_16 : decode cX9_standing 16 = .ok (.ifCond .ne 5, 3) := by decide +kernel
theorem dX9_standing_19 : decode cX9_standing 19 = .ok (.iconst (-1), 1) := by decide +kernel
theorem dX9_standing_20 : decode cX9_standing 20 = .ok (.ireturn, 1) := by decide +kernel
theorem dX9_standing_21 : decode cX9_standing 21 = .ok (.aload_n 0, 1) := by decide +kernel
theorem dX9_standing_22 : decode cX9_standing 22 = .ok (.getfield 28, 3) := by decide +kernel
theorem dX9_standing_25 : decode cX9_standing 25 = .ok (.aload_n 0, 1) := by decide +kernel
theorem dX9_standing_26 : decode cX9_standing 26 = .ok (.invokevirtual 159, 3) := by decide +kernel
theorem dX9_standing_29 : decode cX9_standing 29 = .ok (.iload_n 1, 1) := by decide +kernel
theorem dX9_standing_30 : decode cX9_standing 30 = .ok (.invokevirtual 176, 3) := by decide +kernel
theorem dX9_standing_33 : decode cX9_standing 33 = .ok (.aload_n 0, 1) := by decide +kernel
theorem dX9_standing_34 : decode cX9_standing 34 = .ok (.getfield 28, 3) := by decide +kernel
theorem dX9_standing_37 : decode cX9_standing 37 = .ok (.iload_n 2, 1) := by decide +kernel
theorem dX9_standing_38 : decode cX9_standing 38 = .ok (.invokevirtual 283, 3) := by decide +kernel
theorem dX9_standing_41 : decode cX9_standing 41 = .ok (.ireturn, 1) := by decide +kernel
theorem dX9_image_0 : decode cX9_image 0 = .ok (.aload_n 0, 1) := by decide +kernel
theorem dX9_image_1 : decode cX9_image 1 = .ok (.getfield 32, 3) := by decide +kernel
theorem dX9_image_4 : decode cX9_image 4 = .ok (.aload_n 0, 1) := by decide +kernel
theorem dX9_image_5 : decode cX9_image 5 = .ok (.getfield 15, 3) := by decide +kernel
theorem dX9_image_8 : decode cX9_image 8 = .ok (.invokevirtual 286, 3) := by decide +kernel
theorem dX9_image_11 : decode cX9_image 11 = .ok (.aload_n 0, 1) := by decide +kernel
theorem dX9_image_12 : decode cX9_image 12 = .ok (.getfield 15, 3) := by decide +kernel
theorem dX9_image_15 : decode cX9_image 15 = .ok (.getfield 125, 3) := by decide +kernel
theorem dX9_image_18 : decode cX9_image 18 = .ok (.iconst 3, 1) := by decide +kernel
theorem dX9_image_19 : decode cX9_image 19 = .ok (.iaload, 1) := by decide +kernel
theorem dX9_image_20 : decode cX9_image 20 = .ok (.ireturn, 1) := by decide +kernel
theorem dX9_back_0 : decode cX9_back 0 = .ok (.aload_n 0, 1) := by decide +kernel
theorem dX9_back_1 : decode cX9_back 1 = .ok (.getfield 15, 3) := by decide +kernel
theorem dX9_back_4 : decode cX9_back 4 = .ok (.aload_n 0, 1) := by decide +kernel
theorem dX9_back_5 : decode cX9_back 5 = .ok (.getfield 32, 3) := by decide +kernel
theorem dX9_back_8 : decode cX9_back 8 = .ok (.invokevirtual 286, 3) := by decide +kernel
theorem dX9_back_11 : decode cX9_back 11 = .ok (.aload_n 0, 1) := by decide +kernel
theorem dX9_back_12 : decode cX9_back 12 = .ok (.getfield 15, 3) := by decide +kernel
theorem dX9_back_15 : decode cX9_back 15 = .ok (.getfield 125, 3) := by decide +kernel
theorem dX9_back_18 : decode cX9_back 18 = .ok (.iconst 3, 1) := by decide +kernel
theorem dX9_back_19 : decode cX9_back 19 = .ok (.iaload, 1) := by decide +kernel
theorem dX9_back_20 : decode cX9_back 20 = .ok (.ireturn, 1) := by decide +kernel
theorem dX9_about_0 : decode cX9_about 0 = .ok (.iload_n 1, 1) := by decide +kernel
theorem dX9_about_1 : decode cX9_about 1 = .ok (.tableswitch 123 0 7 #[47, 58, 66, 74, 82, 93, 104, 115], 47) := by decide +kernel
theorem dX9_about_48 : decode cX9_about 48 = .ok (.aload_n 0, 1) := by decide +kernel
theorem dX9_about_49 : decode cX9_about 49 = .ok (.getfield 15, 3) := by decide +kernel
theorem dX9_about_52 : decode cX9_about 52 = .ok (.getfield 64, 3) := by decide +kernel
theorem dX9_about_55 : decode cX9_about 55 = .ok (.getfield 156, 3) := by decide +kernel
theorem dX9_about_58 : decode cX9_about 58 = .ok (.ireturn, 1) := by decide +kernel
theorem dX9_about_59 : decode cX9_about 59 = .ok (.aload_n 0, 1) := by decide +kernel
theorem dX9_about_60 : decode cX9_about 60 = .ok (.getfield 15, 3) := by decide +kernel
theorem dX9_about_63 : decode cX9_about 63 = .ok (.getfield 88, 3) := by decide +kernel
theorem dX9_about_66 : decode cX9_about 66 = .ok (.ireturn, 1) := by decide +kernel
theorem dX9_about_67 : decode cX9_about 67 = .ok (.aload_n 0, 1) := by decide +kernel
theorem dX9_about_68 : decode cX9_about 68 = .ok (.getfield 15, 3) := by decide +kernel
theorem dX9_about_71 : decode cX9_about 71 = .ok (.getfield 107, 3) := by decide +kernel
theorem dX9_about_74 : decode cX9_about 74 = .ok (.ireturn, 1) := by decide +kernel
theorem dX9_about_75 : decode cX9_about 75 = .ok (.aload_n 0, 1) := by decide +kernel
theorem dX9_about_76 : decode cX9_about 76 = .ok (.getfield 15, 3) := by decide +kernel
theorem dX9_about_79 : decode cX9_about 79 = .ok (.getfield 169, 3) := by decide +kernel
theorem dX9_about_82 : decode cX9_about 82 = .ok (.ireturn, 1) := by decide +kernel
theorem dX9_about_83 : decode cX9_about 83 = .ok (.aload_n 0, 1) := by decide +kernel
theorem dX9_about_84 : decode cX9_about 84 = .ok (.getfield 15, 3) := by decide +kernel
theorem dX9_about_87 : decode cX9_about 87 = .ok (.getfield 250, 3) := by decide +kernel
theorem dX9_about_90 : decode cX9_about 90 = .ok (.getfield 156, 3) := by decide +kernel
theorem dX9_about_93 : decode cX9_about 93 = .ok (.ireturn, 1) := by decide +kernel
theorem dX9_about_94 : decode cX9_about 94 = .ok (.aload_n 0, 1) := by decide +kernel
theorem dX9_about_95 : decode cX9_about 95 = .ok (.getfield 15, 3) := by decide +kernel
theorem dX9_about_98 : decode cX9_about 98 = .ok (.getfield 260, 3) := by decide +kernel
theorem dX9_about_101 : decode cX9_about 101 = .ok (.getfield 156, 3) := by decide +kernel
theorem dX9_about_104 : decode cX9_about 104 = .ok (.ireturn, 1) := by decide +kernel
theorem dX9_about_105 : decode cX9_about 105 = .ok (.aload_n 0, 1) := by decide +kernel
theorem dX9_about_106 : decode cX9_about 106 = .ok (.getfield 15, 3) := by decide +kernel
theorem dX9_about_109 : decode cX9_about 109 = .ok (.getfield 274, 3) := by decide +kernel
theorem dX9_about_112 : decode cX9_about 112 = .ok (.getfield 156, 3) := by decide +kernel
theorem dX9_about_115 : decode cX9_about 115 = .ok (.ireturn, 1) := by decide +kernel
theorem dX9_about_116 : decode cX9_about 116 = .ok (.aload_n 0, 1) := by decide +kernel
theorem dX9_about_117 : decode cX9_about 117 = .ok (.getfield 38, 3) := by decide +kernel
theorem dX9_about_120 : decode cX9_about 120 = .ok (.getfield 85, 3) := by decide +kernel
theorem dX9_about_123 : decode cX9_about 123 = .ok (.ireturn, 1) := by decide +kernel
theorem dX9_about_124 : decode cX9_about 124 = .ok (.bipush (-2), 2) := by decide +kernel
theorem dX9_about_126 : decode cX9_about 126 = .ok (.ireturn, 1) := by decide +kernel
theorem dX9_nextX_0 : decode cX9_nextX 0 = .ok (.iload_n 0, 1) := by decide +kernel
theorem dX9_nextX_1 : decode cX9_nextX 1 = .ok (.sipush 331, 3) := by decide +kernel
theorem dX9_nextX_4 : decode cX9_nextX 4 = .ok (.imul, 1) := by decide +kernel
theorem dX9_nextX_5 : decode cX9_nextX 5 = .ok (.sipush 223, 3) := by decide +kernel
theorem dX9_nextX_8 : decode cX9_nextX 8 = .ok (.iadd, 1) := by decide +kernel
theorem dX9_nextX_9 : decode cX9_nextX 9 = .ok (.sipush 30389, 3) := by decide +kernel
theorem dX9_nextX_12 : decode cX9_nextX 12 = .ok (.irem, 1) := by decide +kernel
theorem dX9_nextX_13 : decode cX9_nextX 13 = .ok (.ireturn, 1) := by decide +kernel
theorem dX9_within_0 : decode cX9_within 0 = .ok (.iload_n 0, 1) := by decide +kernel
theorem dX9_within_1 : decode cX9_within 1 = .ok (.iload_n 1, 1) := by decide +kernel
theorem dX9_within_2 : decode cX9_within 2 = .ok (.if_icmp .lt 12, 3) := by decide +kernel
theorem dX9_within_5 : decode cX9_within 5 = .ok (.iload_n 0, 1) := by decide +kernel
theorem dX9_within_6 : decode cX9_within 6 = .ok (.iload_n 2, 1) := by decide +kernel
theorem dX9_within_7 : decode cX9_within 7 = .ok (.if_icmp .gt 7, 3) := by decide +kernel
theorem dX9_within_10 : decode cX9_within 10 = .ok (.iconst 1, 1) := by decide +kernel
theorem dX9_within_11 : decode cX9_within 11 = .ok (.goto 4, 3) := by decide +kernel
theorem dX9_within_14 : decode cX9_within 14 = .ok (.iconst 0, 1) := by decide +kernel
theorem dX9_within_15 : decode cX9_within 15 = .ok (.ireturn, 1) := by decide +kernel
theorem dX9_isText_0 : decode cX9_isText 0 = .ok (.iload_n 1, 1) := by decide +kernel
theorem dX9_isText_1 : decode cX9_isText 1 = .ok (.ifCond .lt 23, 3) := by decide +kernel
theorem dX9_isText_4 : decode cX9_isText 4 = .ok (.iload_n 1, 1) := by decide +kernel
theorem dX9_isText_5 : decode cX9_isText 5 = .ok (.aload_n 0, 1) := by decide +kernel
theorem dX9_isText_6 : decode cX9_isText 6 = .ok (.getfield 15, 3) := by decide +kernel
theorem dX9_isText_9 : decode cX9_isText 9 = .ok (.getfield 88, 3) := by decide +kernel
theorem dX9_isText_12 : decode cX9_isText 12 = .ok (.if_icmp .ge 12, 3) := by decide +kernel
theorem dX9_isText_15 : decode cX9_isText 15 = .ok (.iload_n 1, 1) := by decide +kernel
theorem dX9_isText_16 : decode cX9_isText 16 = .ok (.iconst 4, 1) := by decide +kernel
theorem dX9_isText_17 : decode cX9_isText 17 = .ok (.if_icmp .ge 7, 3) := by decide +kernel
theorem dX9_isText_20 : decode cX9_isText 20 = .ok (.iconst 1, 1) := by decide +kernel
theorem dX9_isText_21 : decode cX9_isText 21 = .ok (.goto 4, 3) := by decide +kernel
theorem dX9_isText_24 : decode cX9_isText 24 = .ok (.iconst 0, 1) := by decide +kernel
theorem dX9_isText_25 : decode cX9_isText 25 = .ok (.ireturn, 1) := by decide +kernel
theorem dX9_ruling_0 : decode cX9_ruling 0 = .ok (.aload_n 0, 1) := by decide +kernel
theorem dX9_ruling_1 : decode cX9_ruling 1 = .ok (.aload_n 0, 1) := by decide +kernel
theorem dX9_ruling_2 : decode cX9_ruling 2 = .ok (.getfield 15, 3) := by decide +kernel
theorem dX9_ruling_5 : decode cX9_ruling 5 = .ok (.getfield 107, 3) := by decide +kernel
theorem dX9_ruling_8 : decode cX9_ruling 8 = .ok (.invokevirtual 103, 3) := by decide +kernel
theorem dX9_ruling_11 : decode cX9_ruling 11 = .ok (.ifCond .eq 18, 3) := by decide +kernel
theorem dX9_ruling_14 : decode cX9_ruling 14 = .ok (.aload_n 0, 1) := by decide +kernel
theorem dX9_ruling_15 : decode cX9_ruling 15 = .ok (.getfield 44, 3) := by decide +kernel
theorem dX9_ruling_18 : decode cX9_ruling 18 = .ok (.aload_n 0, 1) := by decide +kernel
theorem dX9_ruling_19 : decode cX9_ruling 19 = .ok (.getfield 15, 3) := by decide +kernel
theorem dX9_ruling_22 : decode cX9_ruling 22 = .ok (.getfield 107, 3) := by decide +kernel
theorem dX9_ruling_25 : decode cX9_ruling 25 = .ok (.aaload, 1) := by decide +kernel
theorem dX9_ruling_26 : decode cX9_ruling 26 = .ok (.goto 4, 3) := by decide +kernel
theorem dX9_ruling_29 : decode cX9_ruling 29 = .ok (.aconst_null, 1) := by decide +kernel
theorem dX9_ruling_30 : decode cX9_ruling 30 = .ok (.areturn, 1) := by decide +kernel
theorem dX9_passHours_0 : decode cX9_passHours 0 = .ok (.iconst 0, 1) := by decide +kernel
theorem dX9_passHours_1 : decode cX9_passHours 1 = .ok (.istore_n 2, 1) := by decide +kernel
theorem dX9_passHours_2 : decode cX9_passHours 2 = .ok (.iconst 0, 1) := by decide +kernel
theorem dX9_passHours_3 : decode cX9_passHours 3 = .ok (.istore_n 3, 1) := by decide +kernel
theorem dX9_passHours_4 : decode cX9_passHours 4 = .ok (.iload_n 3, 1) := by decide +kernel
theorem dX9_passHours_5 : decode cX9_passHours 5 = .ok (.iload_n 1, 1) := by decide +kernel
theorem dX9_passHours_6 : decode cX9_passHours 6 = .ok (.if_icmp .ge 43, 3) := by decide +kernel
theorem dX9_passHours_9 : decode cX9_passHours 9 = .ok (.iload_n 3, 1) := by decide +kernel
theorem dX9_passHours_10 : decode cX9_passHours 10 = .ok (.bipush 60, 2) := by decide +kernel
theorem dX9_passHours_12 : decode cX9_passHours 12 = .ok (.if_icmp .ge 37, 3) := by decide +kernel
theorem dX9_passHours_15 : decode cX9_passHours 15 = .ok (.aload_n 0, 1) := by decide +kernel
theorem dX9_passHours_16 : decode cX9_passHours 16 = .ok (.getfield 15, 3) := by decide +kernel
theorem dX9_passHours_19 : decode cX9_passHours 19 = .ok (.invokevirtual 113, 3) := by decide +kernel
theorem dX9_passHours_22 : decode cX9_passHours 22 = .ok (.aload_n 0, 1) := by decide +kernel
theorem dX9_passHours_23 : decode cX9_passHours 23 = .ok (.getfield 15, 3) := by decide +kernel
theorem dX9_passHours_26 : decode cX9_passHours 26 = .ok (.aload_n 0, 1) := by decide +kernel
theorem dX9_passHours_27 : decode cX9_passHours 27 = .ok (.getfield 19, 3) := by decide +kernel
theorem dX9_passHours_30 : decode cX9_passHours 30 = .ok (.aload_n 0, 1) := by decide +kernel
theorem dX9_passHours_31 : decode cX9_passHours 31 = .ok (.invokevirtual 159, 3) := by decide +kernel
theorem dX9_passHours_34 : decode cX9_passHours 34 = .ok (.invokevirtual 290, 3) := by decide +kernel
theorem dX9_passHours_37 : decode cX9_passHours 37 = .ok (.ifCond .eq 6, 3) := by decide +kernel
theorem dX9_passHours_40 : decode cX9_passHours 40 = .ok (.iinc 2 1, 3) := by decide +kernel
theorem dX9_passHours_43 : decode cX9_passHours 43 = .ok (.iinc 3 1, 3) := by decide +kernel
theorem dX9_passHours_46 : decode cX9_passHours 46 = .ok (.goto (-42), 3) := by decide +kernel
theorem dX9_passHours_49 : decode cX9_passHours 49 = .ok (.iload_n 2, 1) := by decide +kernel
theorem dX9_passHours_50 : decode cX9_passHours 50 = .ok (.ireturn, 1) := by decide +kernel
theorem dX9_isDone_0 : decode cX9_isDone 0 = .ok (.aload_n 1, 1) := by decide +kernel
theorem dX9_isDone_1 : decode cX9_isDone 1 = .ok (.iload_n 2, 1) := by decide +kernel
theorem dX9_isDone_2 : decode cX9_isDone 2 = .ok (.iconst 1, 1) := by decide +kernel
theorem dX9_isDone_3 : decode cX9_isDone 3 = .ok (.invokevirtual 294, 3) := by decide +kernel
theorem dX9_isDone_6 : decode cX9_isDone 6 = .ok (.istore_n 3, 1) := by decide +kernel
theorem dX9_isDone_7 : decode cX9_isDone 7 = .ok (.aload_n 1, 1) := by decide +kernel
theorem dX9_isDone_8 : decode cX9_isDone 8 = .ok (.iload_n 2, 1) := by decide +kernel
theorem dX9_isDone_9 : decode cX9_isDone 9 = .ok (.iconst 2, 1) := by decide +kernel
theorem dX9_isDone_10 : decode cX9_isDone 10 = .ok (.invokevirtual 294, 3) := by decide +kernel
theorem dX9_isDone_13 : decode cX9_isDone 13 = .ok (.istore 4, 2) := by decide +kernel
theorem dX9_isDone_15 : decode cX9_isDone 15 = .ok (.aload_n 1, 1) := by decide +kernel
theorem dX9_isDone_16 : decode cX9_isDone 16 = .ok (.iload_n 2, 1) := by decide +kernel
theorem dX9_isDone_17 : decode cX9_isDone 17 = .ok (.iconst 0, 1) := by decide +kernel
theorem dX9_isDone_18 : decode cX9_isDone 18 = .ok (.invokevirtual 294, 3) := by decide +kernel
theorem dX9_isDone_21 : decode cX9_isDone 21 = .ok (.tableswitch 147 5 11 #[43, 67, 73, 87, 93, 101, 115], 43) := by decide +kernel
theorem dX9_isDone_64 : decode cX9_isDone 64 = .ok (.aload_n 0, 1) := by decide +kernel
theorem dX9_isDone_65 : decode cX9_isDone 65 = .ok (.iload_n 3, 1) := by decide +kernel
theorem dX9_isDone_66 : decode cX9_isDone 66 = .ok (.iload 4, 2) := by decide +kernel
theorem dX9_isDone_68 : decode cX9_isDone 68 = .ok (.aload_n 1, 1) := by decide +kernel
theorem dX9_isDone_69 : decode cX9_isDone 69 = .ok (.iload_n 2, 1) := by decide +kernel
theorem dX9_isDone_70 : decode cX9_isDone 70 = .ok (.iconst 3, 1) := by decide +kernel
theorem dX9_isDone_71 : decode cX9_isDone 71 = .ok (.invokevirtual 294, 3) := by decide +kernel
theorem dX9_isDone_74 : decode cX9_isDone 74 = .ok (.iconst 0, 1) := by decide +kernel
theorem dX9_isDone_75 : decode cX9_isDone 75 = .ok (.invokevirtual 297, 3) := by decide +kernel
theorem dX9_isDone_78 : decode cX9_isDone 78 = .ok (.iconst (-1), 1) := by decide +kernel
theorem dX9_isDone_79 : decode cX9_isDone 79 = .ok (.if_icmp .eq 7, 3) := by decide +kernel
theorem dX9_isDone_82 : decode cX9_isDone 82 = .ok (.iconst 1, 1) := by decide +kernel
theorem dX9_isDone_83 : decode cX9_isDone 83 = .ok (.goto 4, 3) := by decide +kernel
theorem dX9_isDone_86 : decode cX9_isDone 86 = .ok (.iconst 0, 1) := by decide +kernel
theorem dX9_isDone_87 : decode cX9_isDone 87 = .ok (.ireturn, 1) := by decide +kernel
theorem dX9_isDone_88 : decode cX9_isDone 88 = .ok (.aload_n 0, 1) := by decide +kernel
theorem dX9_isDone_89 : decode cX9_isDone 89 = .ok (.iload_n 3, 1) := by decide +kernel
theorem dX9_isDone_90 : decode cX9_isDone 90 = .ok (.invokevirtual 300, 3) := by decide +kernel
theorem dX9_isDone_93 : decode cX9_isDone 93 = .ok (.ireturn, 1) := by decide +kernel
theorem dX9_isDone_94 : decode cX9_isDone 94 = .ok (.aload_n 0, 1) := by decide +kernel
theorem dX9_isDone_95 : decode cX9_isDone 95 = .ok (.invokevirtual 303, 3) := by decide +kernel
theorem dX9_isDone_98 : decode cX9_isDone 98 = .ok (.iconst (-1), 1) := by decide +kernel
theorem dX9_isDone_99 : decode cX9_isDone 99 = .ok (.if_icmp .eq 7, 3) := by decide +kernel
theorem dX9_isDone_102 : decode cX9_isDone 102 = .ok (.iconst 1, 1) := by decide +kernel
theorem dX9_isDone_103 : decode cX9_isDone 103 = .ok (.goto 4, 3) := by decide +kernel
theorem dX9_isDone_106 : decode cX9_isDone 106 = .ok (.iconst 0, 1) := by decide +kernel
theorem dX9_isDone_107 : decode cX9_isDone 107 = .ok (.ireturn, 1) := by decide +kernel
theorem dX9_isDone_108 : decode cX9_isDone 108 = .ok (.aload_n 0, 1) := by decide +kernel
theorem dX9_isDone_109 : decode cX9_isDone 109 = .ok (.iload_n 3, 1) := by decide +kernel
theorem dX9_isDone_110 : decode cX9_isDone 110 = .ok (.invokevirtual 306, 3) := by decide +kernel
theorem dX9_isDone_113 : decode cX9_isDone 113 = .ok (.ireturn, 1) := by decide +kernel
theorem dX9_isDone_114 : decode cX9_isDone 114 = .ok (.aload_n 0, 1) := by decide +kernel
theorem dX9_isDone_115 : decode cX9_isDone 115 = .ok (.iload_n 3, 1) := by decide +kernel
theorem dX9_isDone_116 : decode cX9_isDone 116 = .ok (.iload 4, 2) := by decide +kernel
theorem dX9_isDone_118 : decode cX9_isDone 118 = .ok (.invokevirtual 309, 3) := by decide +kernel
theorem dX9_isDone_121 : decode cX9_isDone 121 = .ok (.ireturn, 1) := by decide +kernel
theorem dX9_isDone_122 : decode cX9_isDone 122 = .ok (.aload_n 0, 1) := by decide +kernel
theorem dX9_isDone_123 : decode cX9_isDone 123 = .ok (.invokevirtual 312, 3) := by decide +kernel
theorem dX9_isDone_126 : decode cX9_isDone 126 = .ok (.iconst (-1), 1) := by decide +kernel
theorem dX9_isDone_127 : decode cX9_isDone 127 = .ok (.if_icmp .eq 7, 3) := by decide +kernel
theorem dX9_isDone_130 : decode cX9_isDone 130 = .ok (.iconst 1, 1) := by decide +kernel
theorem dX9_isDone_131 : decode cX9_isDone 131 = .ok (.goto 4, 3) := by decide +kernel
theorem dX9_isDone_134 : decode cX9_isDone 134 = .ok (.iconst 0, 1) := by decide +kernel
theorem dX9_isDone_135 : decode cX9_isDone 135 = .ok (.ireturn, 1) := by decide +kernel
theorem dX9_isDone_136 : decode cX9_isDone 136 = .ok (.aload_n 0, 1) := by decide +kernel
theorem dX9_isDone_137 : decode cX9_isDone 137 = .ok (.getfield 15, 3) := by decide +kernel
theorem dX9_isDone_140 : decode cX9_isDone 140 = .ok (.invokevirtual 141, 3) := by decide +kernel
theorem dX9_isDone_143 : decode cX9_isDone 143 = .ok (.istore 5, 2) := by decide +kernel
theorem dX9_isDone_145 : decode cX9_isDone 145 = .ok (.aload_n 0, 1) := by decide +kernel
theorem dX9_isDone_146 : decode cX9_isDone 146 = .ok (.iload_n 3, 1) := by decide +kernel
theorem dX9_isDone_147 : decode cX9_isDone 147 = .ok (.iload 5, 2) := by decide +kernel
theorem dX9_isDone_149 : decode cX9_isDone 149 = .ok (.invokestatic 315, 3) := by decide +kernel
theorem dX9_isDone_152 : decode cX9_isDone 152 = .ok (.invokevirtual 145, 3) := by decide +kernel
theorem dX9_isDone_155 : decode cX9_isDone 155 = .ok (.pop, 1) := by decide +kernel
theorem dX9_isDone_156 : decode cX9_isDone 156 = .ok (.iload_n 3, 1) := by decide +kernel
theorem dX9_isDone_157 : decode cX9_isDone 157 = .ok (.iload 5, 2) := by decide +kernel
theorem dX9_isDone_159 : decode cX9_isDone 159 = .ok (.if_icmp .gt 7, 3) := by decide +kernel
theorem dX9_isDone_162 : decode cX9_isDone 162 = .ok (.iconst 1, 1) := by decide +kernel
theorem dX9_isDone_163 : decode cX9_isDone 163 = .ok (.goto 4, 3) := by decide +kernel
theorem dX9_isDone_166 : decode cX9_isDone 166 = .ok (.iconst 0, 1) := by decide +kernel
theorem dX9_isDone_167 : decode cX9_isDone 167 = .ok (.ireturn, 1) := by decide +kernel
theorem dX9_isDone_168 : decode cX9_isDone 168 = .ok (.iconst 1, 1) := by decide +kernel
theorem dX9_isDone_169 : decode cX9_isDone 169 = .ok (.ireturn, 1) := by decide +kernel
theorem dX9_lookAtCalls_0 : decode cX9_lookAtCalls 0 = .ok (.aload_n 0, 1) := by decide +kernel
theorem dX9_lookAtCalls_1 : decode cX9_lookAtCalls 1 = .ok (.getfield 28, 3) := by decide +kernel
theorem dX9_lookAtCalls_4 : decode cX9_lookAtCalls 4 = .ok (.aload_n 0, 1) := by decide +kernel
theorem dX9_lookAtCalls_5 : decode cX9_lookAtCalls 5 = .ok (.invokevirtual 159, 3) := by decide +kernel
theorem dX9_lookAtCalls_8 : decode cX9_lookAtCalls 8 = .ok (.bipush 23, 2) := by decide +kernel
theorem dX9_lookAtCalls_10 : decode cX9_lookAtCalls 10 = .ok (.aload_n 0, 1) := by decide +kernel
theorem dX9_lookAtCalls_11 : decode cX9_lookAtCalls 11 = .ok (.getfield 15, 3) := by decide +kernel
theorem dX9_lookAtCalls_14 : decode cX9_lookAtCalls 14 = .ok (.getfield 64, 3) := by decide +kernel
theorem dX9_lookAtCalls_17 : decode cX9_lookAtCalls 17 = .ok (.iload_n 1, 1) := by decide +kernel
theorem dX9_lookAtCalls_18 : decode cX9_lookAtCalls 18 = .ok (.iconst 2, 1) := by decide +kernel
theorem dX9_lookAtCalls_19 : decode cX9_lookAtCalls 19 = .ok (.invokevirtual 172, 3) := by decide +kernel
theorem dX9_lookAtCalls_22 : decode cX9_lookAtCalls 22 = .ok (.iadd, 1) := by decide +kernel
theorem dX9_lookAtCalls_23 : decode cX9_lookAtCalls 23 = .ok (.invokevirtual 176, 3) := by decide +kernel
theorem dX9_lookAtCalls_26 : decode cX9_lookAtCalls 26 = .ok (.return_, 1) := by decide +kernel
theorem dX9_commonDivisor_0 : decode cX9_commonDivisor 0 = .ok (.lload_n 2, 1) := by decide +kernel
theorem dX9_commonDivisor_1 : decode cX9_commonDivisor 1 = .ok (.lstore 4, 2) := by decide +kernel
theorem dX9_commonDivisor_3 : decode cX9_commonDivisor 3 = .ok (.lload_n 0, 1) := by decide +kernel
theorem dX9_commonDivisor_4 : decode cX9_commonDivisor 4 = .ok (.lstore 6, 2) := by decide +kernel
theorem dX9_commonDivisor_6 : decode cX9_commonDivisor 6 = .ok (.iconst 0, 1) := by decide +kernel
theorem dX9_commonDivisor_7 : decode cX9_commonDivisor 7 = .ok (.istore 8, 2) := by decide +kernel
theorem dX9_commonDivisor_9 : decode cX9_commonDivisor 9 = .ok (.iload 8, 2) := by decide +kernel
theorem dX9_commonDivisor_11 : decode cX9_commonDivisor 11 = .ok (.bipush 100, 2) := by decide +kernel
theorem dX9_commonDivisor_13 : decode cX9_commonDivisor 13 = .ok (.if_icmp .ge 31, 3) := by decide +kernel
theorem dX9_commonDivisor_16 : decode cX9_commonDivisor 16 = .ok (.lload 6, 2) := by decide +kernel
theorem dX9_commonDivisor_18 : decode cX9_commonDivisor 18 = .ok (.lconst 0, 1) := by decide +kernel
theorem dX9_commonDivisor_19 : decode cX9_commonDivisor 19 = .ok (.lcmp, 1) := by decide +kernel
theorem dX9_commonDivisor_20 : decode cX9_commonDivisor 20 = .ok (.ifCond .le 24, 3) := by decide +kernel
theorem dX9_commonDivisor_23 : decode cX9_commonDivisor 23 = .ok (.lload 4, 2) := by decide +kernel
theorem dX9_commonDivisor_25 : decode cX9_commonDivisor 25 = .ok (.lload 6, 2) := by decide +kernel
theorem dX9_commonDivisor_27 : decode cX9_commonDivisor 27 = .ok (.lrem, 1) := by decide +kernel
theorem dX9_commonDivisor_28 : decode cX9_commonDivisor 28 = .ok (.lstore 9, 2) := by decide +kernel
theorem dX9_commonDivisor_30 : decode cX9_commonDivisor 30 = .ok (.lload 6, 2) := by decide +kernel
theorem dX9_commonDivisor_32 : decode cX9_commonDivisor 32 = .ok (.lstore 4, 2) := by decide +kernel
theorem dX9_commonDivisor_34 : decode cX9_commonDivisor 34 = .ok (.lload 9, 2) := by decide +kernel
theorem dX9_commonDivisor_36 : decode cX9_commonDivisor 36 = .ok (.lstore 6, 2) := by decide +kernel
theorem dX9_commonDivisor_38 : decode cX9_commonDivisor 38 = .ok (.iinc 8 1, 3) := by decide +kernel
theorem dX9_commonDivisor_41 : decode cX9_commonDivisor 41 = .ok (.goto (-32), 3) := by decide +kernel
theorem dX9_commonDivisor_44 : decode cX9_commonDivisor 44 = .ok (.lload 4, 2) := by decide +kernel
theorem dX9_commonDivisor_46 : decode cX9_commonDivisor 46 = .ok (.lreturn, 1) := by decide +kernel
theorem dX9_guiltyCodes_0 : decode cX9_guiltyCodes 0 = .ok (.aload_n 0, 1) := by decide +kernel
theorem dX9_guiltyCodes_1 : decode cX9_guiltyCodes 1 = .ok (.getfield 19, 3) := by decide +kernel
theorem dX9_guiltyCodes_4 : decode cX9_guiltyCodes 4 = .ok (.aload_n 0, 1) := by decide +kernel
theorem dX9_guiltyCodes_5 : decode cX9_guiltyCodes 5 = .ok (.getfield 15, 3) := by decide +kernel
theorem dX9_guiltyCodes_8 : decode cX9_guiltyCodes 8 = .ok (.getfield 125, 3) := by decide +kernel
theorem dX9_guiltyCodes_11 : decode cX9_guiltyCodes 11 = .ok (.iconst 3, 1) := by decide +kernel
theorem dX9_guiltyCodes_12 : decode cX9_guiltyCodes 12 = .ok (.iaload, 1) := by decide +kernel
theorem dX9_guiltyCodes_13 : decode cX9_guiltyCodes 13 = .ok (.aload_n 0, 1) := by decide +kernel
theorem dX9_guiltyCodes_14 : decode cX9_guiltyCodes 14 = .ok (.getfield 15, 3) := by decide +kernel
theorem dX9_guiltyCodes_17 : decode cX9_guiltyCodes 17 = .ok (.getfield 125, 3) := by decide +kernel
theorem dX9_guiltyCodes_20 : decode cX9_guiltyCodes 20 = .ok (.iconst 0, 1) := by decide +kernel
theorem dX9_guiltyCodes_21 : decode cX9_guiltyCodes 21 = .ok (.iaload, 1) := by decide +kernel
theorem dX9_guiltyCodes_22 : decode cX9_guiltyCodes 22 = .ok (.aload_n 0, 1) := by decide +kernel
theorem dX9_guiltyCodes_23 : decode cX9_guiltyCodes 23 = .ok (.getfield 15, 3) := by decide +kernel
theorem dX9_guiltyCodes_26 : decode cX9_guiltyCodes 26 = .ok (.getfield 125, 3) := by decide +kernel
theorem dX9_guiltyCodes_29 : decode cX9_guiltyCodes 29 = .ok (.iconst 1, 1) := by decide +kernel
theorem dX9_guiltyCodes_30 : decode cX9_guiltyCodes 30 = .ok (.iaload, 1) := by decide +kernel
theorem dX9_guiltyCodes_31 : decode cX9_guiltyCodes 31 = .ok (.invokevirtual 318, 3) := by decide +kernel
theorem dX9_guiltyCodes_34 : decode cX9_guiltyCodes 34 = .ok (.aload_n 0, 1) := by decide +kernel
theorem dX9_guiltyCodes_35 : decode cX9_guiltyCodes 35 = .ok (.getfield 19, 3) := by decide +kernel
theorem dX9_guiltyCodes_38 : decode cX9_guiltyCodes 38 = .ok (.aload_n 0, 1) := by decide +kernel
theorem dX9_guiltyCodes_39 : decode cX9_guiltyCodes 39 = .ok (.getfield 15, 3) := by decide +kernel
theorem dX9_guiltyCodes_42 : decode cX9_guiltyCodes 42 = .ok (.getfield 64, 3) := by decide +kernel
theorem dX9_guiltyCodes_45 : decode cX9_guiltyCodes 45 = .ok (.iload_n 1, 1) := by decide +kernel
theorem dX9_guiltyCodes_46 : decode cX9_guiltyCodes 46 = .ok (.aload_n 0, 1) := by decide +kernel
theorem dX9_guiltyCodes_47 : decode cX9_guiltyCodes 47 = .ok (.getfield 15, 3) := by decide +kernel
theorem dX9_guiltyCodes_50 : decode cX9_guiltyCodes 50 = .ok (.getfield 64, 3) := by decide +kernel
theorem dX9_guiltyCodes_53 : decode cX9_guiltyCodes 53 = .ok (.iload_n 1, 1) := by decide +kernel
theorem dX9_guiltyCodes_54 : decode cX9_guiltyCodes 54 = .ok (.iconst 2, 1) := by decide +kernel
theorem dX9_guiltyCodes_55 : decode cX9_guiltyCodes 55 = .ok (.invokevirtual 172, 3) := by decide +kernel
theorem dX9_guiltyCodes_58 : decode cX9_guiltyCodes 58 = .ok (.invokevirtual 322, 3) := by decide +kernel
theorem dX9_guiltyCodes_61 : decode cX9_guiltyCodes 61 = .ok (.aload_n 0, 1) := by decide +kernel
theorem dX9_guiltyCodes_62 : decode cX9_guiltyCodes 62 = .ok (.getfield 19, 3) := by decide +kernel
theorem dX9_guiltyCodes_65 : decode cX9_guiltyCodes 65 = .ok (.iload_n 2, 1) := by decide +kernel
theorem dX9_guiltyCodes_66 : decode cX9_guiltyCodes 66 = .ok (.putfield 326, 3) := by decide +kernel
theorem dX9_guiltyCodes_69 : decode cX9_guiltyCodes 69 = .ok (.iconst 0, 1) := by decide +kernel
theorem dX9_guiltyCodes_70 : decode cX9_guiltyCodes 70 = .ok (.istore_n 3, 1) := by decide +kernel
theorem dX9_guiltyCodes_71 : decode cX9_guiltyCodes 71 = .ok (.iconst 0, 1) := by decide +kernel
theorem dX9_guiltyCodes_72 : decode cX9_guiltyCodes 72 = .ok (.istore 4, 2) := by decide +kernel
theorem dX9_guiltyCodes_74 : decode cX9_guiltyCodes 74 = .ok (.iload 4, 2) := by decide +kernel
theorem dX9_guiltyCodes_76 : decode cX9_guiltyCodes 76 = .ok (.iconst 4, 1) := by decide +kernel
theorem dX9_guiltyCodes_77 : decode cX9_guiltyCodes 77 = .ok (.if_icmp .ge 32, 3) := by decide +kernel
theorem dX9_guiltyCodes_80 : decode cX9_guiltyCodes 80 = .ok (.aload_n 0, 1) := by decide +kernel
theorem dX9_guiltyCodes_81 : decode cX9_guiltyCodes 81 = .ok (.getfield 19, 3) := by decide +kernel
theorem dX9_guiltyCodes_84 : decode cX9_guiltyCodes 84 = .ok (.aload_n 0, 1) := by decide +kernel
theorem dX9_guiltyCodes_85 : decode cX9_guiltyCodes 85 = .ok (.invokevirtual 159, 3) := by decide +kernel
theorem dX9_guiltyCodes_88 : decode cX9_guiltyCodes 88 = .ok (.iload 4, 2) := by decide +kernel
theorem dX9_guiltyCodes_90 : decode cX9_guiltyCodes 90 = .ok (.invokevirtual 329, 3) := by decide +kernel
theorem dX9_guiltyCodes_93 : decode cX9_guiltyCodes 93 = .ok (.ifCond .eq 10, 3) := by decide +kernel
theorem dX9_guiltyCodes_96 : decode cX9_guiltyCodes 96 = .ok (.iload_n 3, 1) := by decide +kernel
theorem dX9_guiltyCodes_97 : decode cX9_guiltyCodes 97 = .ok (.iconst 1, 1) := by decide +kernel
theorem dX9_guiltyCodes_98 : decode cX9_guiltyCodes 98 = .ok (.iload 4, 2) := by decide +kernel
theorem dX9_guiltyCodes_100 : decode cX9_guiltyCodes 100 = .ok (.ishl, 1) := by decide +kernel
theorem dX9_guiltyCodes_101 : decode cX9_guiltyCodes 101 = .ok (.ior, 1) := by decide +kernel
theorem dX9_guiltyCodes_102 : decode cX9_guiltyCodes 102 = .ok (.istore_n 3, 1) := by decide +kernel
theorem dX9_guiltyCodes_103 : decode cX9_guiltyCodes 103 = .ok (.iinc 4 1, 3) := by decide +kernel
theorem dX9_guiltyCodes_106 : decode cX9_guiltyCodes 106 = .ok (.goto (-32), 3) := by decide +kernel
theorem dX9_guiltyCodes_109 : decode cX9_guiltyCodes 109 = .ok (.iload_n 3, 1) := by decide +kernel
theorem dX9_guiltyCodes_110 : decode cX9_guiltyCodes 110 = .ok (.ireturn, 1) := by decide +kernel
theorem dX9_allAlike_0 : decode cX9_allAlike 0 = .ok (.aload_n 0, 1) := by decide +kernel
theorem dX9_allAlike_1 : decode cX9_allAlike 1 = .ok (.iload_n 1, 1) := by decide +kernel
theorem dX9_allAlike_2 : decode cX9_allAlike 2 = .ok (.iload_n 2, 1) := by decide +kernel
theorem dX9_allAlike_3 : decode cX9_allAlike 3 = .ok (.invokevirtual 223, 3) := by decide +kernel
theorem dX9_allAlike_6 : decode cX9_allAlike 6 = .ok (.istore_n 3, 1) := by decide +kernel
theorem dX9_allAlike_7 : decode cX9_allAlike 7 = .ok (.iload_n 3, 1) := by decide +kernel
theorem dX9_allAlike_8 : decode cX9_allAlike 8 = .ok (.ifCond .eq 9, 3) := by decide +kernel
theorem dX9_allAlike_11 : decode cX9_allAlike 11 = .ok (.iload_n 3, 1) := by decide +kernel
theorem dX9_allAlike_12 : decode cX9_allAlike 12 = .ok (.bipush 15, 2) := by decide +kernel
theorem dX9_allAlike_14 : decode cX9_allAlike 14 = .ok (.if_icmp .ne 7, 3) := by decide +kernel
theorem dX9_allAlike_17 : decode cX9_allAlike 17 = .ok (.iconst 1, 1) := by decide +kernel
theorem dX9_allAlike_18 : decode cX9_allAlike 18 = .ok (.goto 4, 3) := by decide +kernel
theorem dX9_allAlike_21 : decode cX9_allAlike 21 = .ok (.iconst 0, 1) := by decide +kernel
theorem dX9_allAlike_22 : decode cX9_allAlike 22 = .ok (.ireturn, 1) := by decide +kernel
theorem dX9_wrongRecords_0 : decode cX9_wrongRecords 0 = .ok (.aload_n 0, 1) := by decide +kernel
theorem dX9_wrongRecords_1 : decode cX9_wrongRecords 1 = .ok (.getfield 19, 3) := by decide +kernel
theorem dX9_wrongRecords_4 : decode cX9_wrongRecords 4 = .ok (.aload_n 0, 1) := by decide +kernel
theorem dX9_wrongRecords_5 : decode cX9_wrongRecords 5 = .ok (.getfield 15, 3) := by decide +kernel
theorem dX9_wrongRecords_8 : decode cX9_wrongRecords 8 = .ok (.getfield 125, 3) := by decide +kernel
theorem dX9_wrongRecords_11 : decode cX9_wrongRecords 11 = .ok (.iconst 3, 1) := by decide +kernel
theorem dX9_wrongRecords_12 : decode cX9_wrongRecords 12 = .ok (.iaload, 1) := by decide +kernel
theorem dX9_wrongRecords_13 : decode cX9_wrongRecords 13 = .ok (.aload_n 0, 1) := by decide +kernel
theorem dX9_wrongRecords_14 : decode cX9_wrongRecords 14 = .ok (.getfield 15, 3) := by decide +kernel
theorem dX9_wrongRecords_17 : decode cX9_wrongRecords 17 = .ok (.getfield 125, 3) := by decide +kernel
theorem dX9_wrongRecords_20 : decode cX9_wrongRecords 20 = .ok (.iconst 0, 1) := by decide +kernel
theorem dX9_wrongRecords_21 : decode cX9_wrongRecords 21 = .ok (.iaload, 1) := by decide +kernel
theorem dX9_wrongRecords_22 : decode cX9_wrongRecords 22 = .ok (.aload_n 0, 1) := by decide +kernel
theorem dX9_wrongRecords_23 : decode cX9_wrongRecords 23 = .ok (.getfield 15, 3) := by decide +kernel
theorem dX9_wrongRecords_26 : decode cX9_wrongRecords 26 = .ok (.getfield 125, 3) := by decide +kernel
theorem dX9_wrongRecords_29 : decode cX9_wrongRecords 29 = .ok (.iconst 1, 1) := by decide +kernel
theorem dX9_wrongRecords_30 : decode cX9_wrongRecords 30 = .ok (.iaload, 1) := by decide +kernel
theorem dX9_wrongRecords_31 : decode cX9_wrongRecords 31 = .ok (.invokevirtual 318, 3) := by decide +kernel
theorem dX9_wrongRecords_34 : decode cX9_wrongRecords 34 = .ok (.iconst 0, 1) := by decide +kernel
theorem dX9_wrongRecords_35 : decode cX9_wrongRecords 35 = .ok (.istore_n 3, 1) := by decide +kernel
theorem dX9_wrongRecords_36 : decode cX9_wrongRecords 36 = .ok (.iconst 0, 1) := by decide +kernel
theorem dX9_wrongRecords_37 : decode cX9_wrongRecords 37 = .ok (.istore 4, 2) := by decide +kernel
theorem dX9_wrongRecords_39 : decode cX9_wrongRecords 39 = .ok (.iload 4, 2) := by decide +kernel
theorem dX9_wrongRecords_41 : decode cX9_wrongRecords 41 = .ok (.aload_n 0, 1) := by decide +kernel
theorem dX9_wrongRecords_42 : decode cX9_wrongRecords 42 = .ok (.getfield 15, 3) := by decide +kernel
theorem dX9_wrongRecords_45 : decode cX9_wrongRecords 45 = .ok (.getfield 250, 3) := by decide +kernel
theorem dX9_wrongRecords_48 : decode cX9_wrongRecords 48 = .ok (.getfield 156, 3) := by decide +kernel
theorem dX9_wrongRecords_51 : decode cX9_wrongRecords 51 = .ok (.if_icmp .ge 110, 3) := by decide +kernel
theorem dX9_wrongRecords_54 : decode cX9_wrongRecords 54 = .ok (.aload_n 0, 1) := by decide +kernel
theorem dX9_wrongRecords_55 : decode cX9_wrongRecords 55 = .ok (.getfield 15, 3) := by decide +kernel
theorem dX9_wrongRecords_58 : decode cX9_wrongRecords 58 = .ok (.getfield 250, 3) := by decide +kernel
theorem dX9_wrongRecords_61 : decode cX9_wrongRecords 61 = .ok (.iload 4, 2) := by decide +kernel
theorem dX9_wrongRecords_63 : decode cX9_wrongRecords 63 = .ok (.iconst 0, 1) := by decide +kernel
theorem dX9_wrongRecords_64 : decode cX9_wrongRecords 64 = .ok (.invokevirtual 172, 3) := by decide +kernel
theorem dX9_wrongRecords_67 : decode cX9_wrongRecords 67 = .ok (.istore 5, 2) := by decide +kernel
theorem dX9_wrongRecords_69 : decode cX9_wrongRecords 69 = .ok (.aload_n 0, 1) := by decide +kernel
theorem dX9_wrongRecords_70 : decode cX9_wrongRecords 70 = .ok (.getfield 19, 3) := by decide +kernel
theorem dX9_wrongRecords_73 : decode cX9_wrongRecords 73 = .ok (.aload_n 0, 1) := by decide +kernel
theorem dX9_wrongRecords_74 : decode cX9_wrongRecords 74 = .ok (.getfield 15, 3) := by decide +kernel
theorem dX9_wrongRecords_77 : decode cX9_wrongRecords 77 = .ok (.getfield 64, 3) := by decide +kernel
theorem dX9_wrongRecords_80 : decode cX9_wrongRecords 80 = .ok (.iload 5, 2) := by decide +kernel
theorem dX9_wrongRecords_82 : decode cX9_wrongRecords 82 = .ok (.aload_n 0, 1) := by decide +kernel
theorem dX9_wrongRecords_83 : decode cX9_wrongRecords 83 = .ok (.getfield 15, 3) := by decide +kernel
theorem dX9_wrongRecords_86 : decode cX9_wrongRecords 86 = .ok (.getfield 64, 3) := by decide +kernel
theorem dX9_wrongRecords_89 : decode cX9_wrongRecords 89 = .ok (.iload 5, 2) := by decide +kernel
theorem dX9_wrongRecords_91 : decode cX9_wrongRecords 91 = .ok (.iconst 2, 1) := by decide +kernel
theorem dX9_wrongRecords_92 : decode cX9_wrongRecords 92 = .ok (.invokevirtual 172, 3) := by decide +kernel
theorem dX9_wrongRecords_95 : decode cX9_wrongRecords 95 = .ok (.invokevirtual 322, 3) := by decide +kernel
theorem dX9_wrongRecords_98 : decode cX9_wrongRecords 98 = .ok (.aload_n 0, 1) := by decide +kernel
theorem dX9_wrongRecords_99 : decode cX9_wrongRecords 99 = .ok (.getfield 19, 3) := by decide +kernel
theorem dX9_wrongRecords_102 : decode cX9_wrongRecords 102 = .ok (.aload_n 1, 1) := by decide +kernel
theorem dX9_wrongRecords_103 : decode cX9_wrongRecords 103 = .ok (.aload_n 0, 1) := by decide +kernel
theorem dX9_wrongRecords_104 : decode cX9_wrongRecords 104 = .ok (.getfield 15, 3) := by decide +kernel
theorem dX9_wrongRecords_107 : decode cX9_wrongRecords 107 = .ok (.getfield 250, 3) := by decide +kernel
theorem dX9_wrongRecords_110 : decode cX9_wrongRecords 110 = .ok (.iload 4, 2) := by decide +kernel
theorem dX9_wrongRecords_112 : decode cX9_wrongRecords 112 = .ok (.iconst 2, 1) := by decide +kernel
theorem dX9_wrongRecords_113 : decode cX9_wrongRecords 113 = .ok (.invokevirtual 172, 3) := by decide +kernel
theorem dX9_wrongRecords_116 : decode cX9_wrongRecords 116 = .ok (.iload_n 2, 1) := by decide +kernel
theorem dX9_wrongRecords_117 : decode cX9_wrongRecords 117 = .ok (.iadd, 1) := by decide +kernel
theorem dX9_wrongRecords_118 : decode cX9_wrongRecords 118 = .ok (.iconst 3, 1) := by decide +kernel
theorem dX9_wrongRecords_119 : decode cX9_wrongRecords 119 = .ok (.iand, 1) := by decide +kernel
theorem dX9_wrongRecords_120 : decode cX9_wrongRecords 120 = .ok (.invokevirtual 329, 3) := by decide +kernel
theorem dX9_wrongRecords_123 : decode cX9_wrongRecords 123 = .ok (.istore 6, 2) := by decide +kernel
theorem dX9_wrongRecords_125 : decode cX9_wrongRecords 125 = .ok (.iload 6, 2) := by decide +kernel
theorem dX9_wrongRecords_127 : decode cX9_wrongRecords 127 = .ok (.aload_n 0, 1) := by decide +kernel
theorem dX9_wrongRecords_128 : decode cX9_wrongRecords 128 = .ok (.getfield 15, 3) := by decide +kernel
theorem dX9_wrongRecords_131 : decode cX9_wrongRecords 131 = .ok (.getfield 250, 3) := by decide +kernel
theorem dX9_wrongRecords_134 : decode cX9_wrongRecords 134 = .ok (.iload 4, 2) := by decide +kernel
theorem dX9_wrongRecords_136 : decode cX9_wrongRecords 136 = .ok (.iconst 1, 1) := by decide +kernel
theorem dX9_wrongRecords_137 : decode cX9_wrongRecords 137 = .ok (.invokevirtual 172, 3) := by decide +kernel
theorem dX9_wrongRecords_140 : decode cX9_wrongRecords 140 = .ok (.iconst 1, 1) := by decide +kernel
theorem dX9_wrongRecords_141 : decode cX9_wrongRecords 141 = .ok (.if_icmp .ne 7, 3) := by decide +kernel
theorem dX9_wrongRecords_144 : decode cX9_wrongRecords 144 = .ok (.iconst 1, 1) := by decide +kernel
theorem dX9_wrongRecords_145 : decode cX9_wrongRecords 145 = .ok (.goto 4, 3) := by decide +kernel
theorem dX9_wrongRecords_148 : decode cX9_wrongRecords 148 = .ok (.iconst 0, 1) := by decide +kernel
theorem dX9_wrongRecords_149 : decode cX9_wrongRecords 149 = .ok (.if_icmp .eq 6, 3) := by decide +kernel
theorem dX9_wrongRecords_152 : decode cX9_wrongRecords 152 = .ok (.iinc 3 1, 3) := by decide +kernel
theorem dX9_wrongRecords_155 : decode cX9_wrongRecords 155 = .ok (.iinc 4 1, 3) := by decide +kernel
theorem dX9_wrongRecords_158 : decode cX9_wrongRecords 158 = .ok (.goto (-119), 3) := by decide +kernel
theorem dX9_wrongRecords_161 : decode cX9_wrongRecords 161 = .ok (.iload_n 3, 1) := by decide +kernel
theorem dX9_wrongRecords_162 : decode cX9_wrongRecords 162 = .ok (.ireturn, 1) := by decide +kernel
theorem dX9_gatherCodes_0 : decode cX9_gatherCodes 0 = .ok (.iconst 0, 1) := by decide +kernel
theorem dX9_gatherCodes_1 : decode cX9_gatherCodes 1 = .ok (.istore_n 1, 1) := by decide +kernel
theorem dX9_gatherCodes_2 : decode cX9_gatherCodes 2 = .ok (.iconst 0, 1) := by decide +kernel
theorem dX9_gatherCodes_3 : decode cX9_gatherCodes 3 = .ok (.istore_n 2, 1) := by decide +kernel
theorem dX9_gatherCodes_4 : decode cX9_gatherCodes 4 = .ok (.iload_n 2, 1) := by decide +kernel
theorem dX9_gatherCodes_5 : decode cX9_gatherCodes 5 = .ok (.sipush 256, 3) := by decide +kernel
theorem dX9_gatherCodes_8 : decode cX9_gatherCodes 8 = .ok (.if_icmp .ge 27, 3) := by decide +kernel
theorem dX9_gatherCodes_11 : decode cX9_gatherCodes 11 = .ok (.aload_n 0, 1) := by decide +kernel
theorem dX9_gatherCodes_12 : decode cX9_gatherCodes 12 = .ok (.iload_n 2, 1) := by decide +kernel
theorem dX9_gatherCodes_13 : decode cX9_gatherCodes 13 = .ok (.invokevirtual 332, 3) := by decide +kernel
theorem dX9_gatherCodes_16 : decode cX9_gatherCodes 16 = .ok (.ifCond .eq 13, 3) := by decide +kernel
theorem dX9_gatherCodes_19 : decode cX9_gatherCodes 19 = .ok (.aload_n 0, 1) := by decide +kernel
theorem dX9_gatherCodes_20 : decode cX9_gatherCodes 20 = .ok (.getfield 49, 3) := by decide +kernel
theorem dX9_gatherCodes_23 : decode cX9_gatherCodes 23 = .ok (.iload_n 1, 1) := by decide +kernel
theorem dX9_gatherCodes_24 : decode cX9_gatherCodes 24 = .ok (.iload_n 2, 1) := by decide +kernel
theorem dX9_gatherCodes_25 : decode cX9_gatherCodes 25 = .ok (.iastore, 1) := by decide +kernel
theorem dX9_gatherCodes_26 : decode cX9_gatherCodes 26 = .ok (.iinc 1 1, 3) := by decide +kernel
theorem dX9_gatherCodes_29 : decode cX9_gatherCodes 29 = .ok (.iinc 2 1, 3) := by decide +kernel
theorem dX9_gatherCodes_32 : decode cX9_gatherCodes 32 = .ok (.goto (-28), 3) := by decide +kernel
theorem dX9_gatherCodes_35 : decode cX9_gatherCodes 35 = .ok (.iload_n 1, 1) := by decide +kernel
theorem dX9_gatherCodes_36 : decode cX9_gatherCodes 36 = .ok (.ireturn, 1) := by decide +kernel
theorem dX9_fitsLearned_0 : decode cX9_fitsLearned 0 = .ok (.iconst 0, 1) := by decide +kernel
theorem dX9_fitsLearned_1 : decode cX9_fitsLearned 1 = .ok (.istore_n 2, 1) := by decide +kernel
theorem dX9_fitsLearned_2 : decode cX9_fitsLearned 2 = .ok (.iload_n 2, 1) := by decide +kernel
theorem dX9_fitsLearned_3 : decode cX9_fitsLearned 3 = .ok (.aload_n 0, 1) := by decide +kernel
theorem dX9_fitsLearned_4 : decode cX9_fitsLearned 4 = .ok (.getfield 15, 3) := by decide +kernel
theorem dX9_fitsLearned_7 : decode cX9_fitsLearned 7 = .ok (.getfield 260, 3) := by decide +kernel
theorem dX9_fitsLearned_10 : decode cX9_fitsLearned 10 = .ok (.getfield 156, 3) := by decide +kernel
theorem dX9_fitsLearned_13 : decode cX9_fitsLearned 13 = .ok (.if_icmp .ge 75, 3) := by decide +kernel
theorem dX9_fitsLearned_16 : decode cX9_fitsLearned 16 = .ok (.aload_n 0, 1) := by decide +kernel
theorem dX9_fitsLearned_17 : decode cX9_fitsLearned 17 = .ok (.getfield 15, 3) := by decide +kernel
theorem dX9_fitsLearned_20 : decode cX9_fitsLearned 20 = .ok (.getfield 64, 3) := by decide +kernel
theorem dX9_fitsLearned_23 : decode cX9_fitsLearned 23 = .ok (.aload_n 0, 1) := by decide +kernel
theorem dX9_fitsLearned_24 : decode cX9_fitsLearned 24 = .ok (.getfield 15, 3) := by decide +kernel
theorem dX9_fitsLearned_27 : decode cX9_fitsLearned 27 = .ok (.getfield 260, 3) := by decide +kernel
theorem dX9_fitsLearned_30 : decode cX9_fitsLearned 30 = .ok (.iload_n 2, 1) := by decide +kernel
theorem dX9_fitsLearned_31 : decode cX9_fitsLearned 31 = .ok (.iconst 0, 1) := by decide +kernel
theorem dX9_fitsLearned_32 : decode cX9_fitsLearned 32 = .ok (.invokevirtual 172, 3) := by decide +kernel
theorem dX9_fitsLearned_35 : decode cX9_fitsLearned 35 = .ok (.iconst 3, 1) := by decide +kernel
theorem dX9_fitsLearned_36 : decode cX9_fitsLearned 36 = .ok (.invokevirtual 172, 3) := by decide +kernel
theorem dX9_fitsLearned_39 : decode cX9_fitsLearned 39 = .ok (.istore_n 3, 1) := by decide +kernel
theorem dX9_fitsLearned_40 : decode cX9_fitsLearned 40 = .ok (.iload_n 3, 1) := by decide +kernel
theorem dX9_fitsLearned_41 : decode cX9_fitsLearned 41 = .ok (.iload_n 1, 1) := by decide +kernel
theorem dX9_fitsLearned_42 : decode cX9_fitsLearned 42 = .ok (.iand, 1) := by decide +kernel
theorem dX9_fitsLearned_43 : decode cX9_fitsLearned 43 = .ok (.iload_n 1, 1) := by decide +kernel
theorem dX9_fitsLearned_44 : decode cX9_fitsLearned 44 = .ok (.if_icmp .ne 7, 3) := by decide +kernel
theorem dX9_fitsLearned_47 : decode cX9_fitsLearned 47 = .ok (.iconst 1, 1) := by decide +kernel
theorem dX9_fitsLearned_48 : decode cX9_fitsLearned 48 = .ok (.goto 4, 3) := by decide +kernel
theorem dX9_fitsLearned_51 : decode cX9_fitsLearned 51 = .ok (.iconst 0, 1) := by decide +kernel
theorem dX9_fitsLearned_52 : decode cX9_fitsLearned 52 = .ok (.istore 4, 2) := by decide +kernel
theorem dX9_fitsLearned_54 : decode cX9_fitsLearned 54 = .ok (.iload 4, 2) := by decide +kernel
theorem dX9_fitsLearned_56 : decode cX9_fitsLearned 56 = .ok (.aload_n 0, 1) := by decide +kernel
theorem dX9_fitsLearned_57 : decode cX9_fitsLearned 57 = .ok (.getfield 15, 3) := by decide +kernel
theorem dX9_fitsLearned_60 : decode cX9_fitsLearned 60 = .ok (.getfield 260, 3) := by decide +kernel
theorem dX9_fitsLearned_63 : decode cX9_fitsLearned 63 = .ok (.iload_n 2, 1) := by decide +kernel
theorem dX9_fitsLearned_64 : decode cX9_fitsLearned 64 = .ok (.iconst 1, 1) := by decide +kernel
theorem dX9_fitsLearned_65 : decode cX9_fitsLearned 65 = .ok (.invokevirtual 172, 3) := by decide +kernel
theorem dX9_fitsLearned_68 : decode cX9_fitsLearned 68 = .ok (.iconst 1, 1) := by decide +kernel
theorem dX9_fitsLearned_69 : decode cX9_fitsLearned 69 = .ok (.if_icmp .ne 7, 3) := by decide +kernel
theorem dX9_fitsLearned_72 : decode cX9_fitsLearned 72 = .ok (.iconst 1, 1) := by decide +kernel
theorem dX9_fitsLearned_73 : decode cX9_fitsLearned 73 = .ok (.goto 4, 3) := by decide +kernel
theorem dX9_fitsLearned_76 : decode cX9_fitsLearned 76 = .ok (.iconst 0, 1) := by decide +kernel
theorem dX9_fitsLearned_77 : decode cX9_fitsLearned 77 = .ok (.if_icmp .eq 5, 3) := by decide +kernel
theorem dX9_fitsLearned_80 : decode cX9_fitsLearned 80 = .ok (.iconst 0, 1) := by decide +kernel
theorem dX9_fitsLearned_81 : decode cX9_fitsLearned 81 = .ok (.ireturn, 1) := by decide +kernel
theorem dX9_fitsLearned_82 : decode cX9_fitsLearned 82 = .ok (.iinc 2 1, 3) := by decide +kernel
theorem dX9_fitsLearned_85 : decode cX9_fitsLearned 85 = .ok (.goto (-83), 3) := by decide +kernel
theorem dX9_fitsLearned_88 : decode cX9_fitsLearned 88 = .ok (.iconst 1, 1) := by decide +kernel
theorem dX9_fitsLearned_89 : decode cX9_fitsLearned 89 = .ok (.ireturn, 1) := by decide +kernel
theorem dX9_guiltyByGathered_0 : decode cX9_guiltyByGathered 0 = .ok (.iconst 0, 1) := by decide +kernel
theorem dX9_guiltyByGathered_1 : decode cX9_guiltyByGathered 1 = .ok (.istore_n 3, 1) := by decide +kernel
theorem dX9_guiltyByGathered_2 : decode cX9_guiltyByGathered 2 = .ok (.iconst 0, 1) := by decide +kernel
theorem dX9_guiltyByGathered_3 : decode cX9_guiltyByGathered 3 = .ok (.istore 4, 2) := by decide +kernel
theorem dX9_guiltyByGathered_5 : decode cX9_guiltyByGathered 5 = .ok (.iload 4, 2) := by decide +kernel
theorem dX9_guiltyByGathered_7 : decode cX9_guiltyByGathered 7 = .ok (.iload_n 2, 1) := by decide +kernel
theorem dX9_guiltyByGathered_8 : decode cX9_guiltyByGathered 8 = .ok (.if_icmp .ge 39, 3) := by decide +kernel
theorem dX9_guiltyByGathered_11 : decode cX9_guiltyByGathered 11 = .ok (.iload 4, 2) := by decide +kernel
theorem dX9_guiltyByGathered_13 : decode cX9_guiltyByGathered 13 = .ok (.sipush 256, 3) := by decide +kernel
theorem dX9_guiltyByGathered_16 : decode cX9_guiltyByGathered 16 = .ok (.if_icmp .ge 31, 3) := by decide +kernel
theorem dX9_guiltyByGathered_19 : decode cX9_guiltyByGathered 19 = .ok (.iload_n 1, 1) := by decide +kernel
theorem dX9_guiltyByGathered_20 : decode cX9_guiltyByGathered 20 = .ok (.aload_n 0, 1) := by decide +kernel
theorem dX9_guiltyByGathered_21 : decode cX9_guiltyByGathered 21 = .ok (.getfield 49, 3) := by decide +kernel
theorem dX9_guiltyByGathered_24 : decode cX9_guiltyByGathered 24 = .ok (.iload 4, 2) := by decide +kernel
theorem dX9_guiltyByGathered_26 : decode cX9_guiltyByGathered 26 = .ok (.iaload, 1) := by decide +kernel
theorem dX9_guiltyByGathered_27 : decode cX9_guiltyByGathered 27 = .ok (.iand, 1) := by decide +kernel
theorem dX9_guiltyByGathered_28 : decode cX9_guiltyByGathered 28 = .ok (.aload_n 0, 1) := by decide +kernel
theorem dX9_guiltyByGathered_29 : decode cX9_guiltyByGathered 29 = .ok (.getfield 49, 3) := by decide +kernel
theorem dX9_guiltyByGathered_32 : decode cX9_guiltyByGathered 32 = .ok (.iload 4, 2) := by decide +kernel
theorem dX9_guiltyByGathered_34 : decode cX9_guiltyByGathered 34 = .ok (.iaload, 1) := by decide +kernel
theorem dX9_guiltyByGathered_35 : decode cX9_guiltyByGathered 35 = .ok (.if_icmp .ne 6, 3) := by decide +kernel
theorem dX9_guiltyByGathered_38 : decode cX9_guiltyByGathered 38 = .ok (.iinc 3 1, 3) := by decide +kernel
theorem dX9_guiltyByGathered_41 : decode cX9_guiltyByGathered 41 = .ok (.iinc 4 1, 3) := by decide +kernel
theorem dX9_guiltyByGathered_44 : decode cX9_guiltyByGathered 44 = .ok (.goto (-39), 3) := by decide +kernel
theorem dX9_guiltyByGathered_47 : decode cX9_guiltyByGathered 47 = .ok (.iload_n 3, 1) := by decide +kernel
theorem dX9_guiltyByGathered_48 : decode cX9_guiltyByGathered 48 = .ok (.ireturn, 1) := by decide +kernel
theorem dX10_init_0 : decode cX10_init 0 = .ok (.aload_n 0, 1) := by decide +kernel
theorem dX10_init_1 : decode cX10_init 1 = .ok (.invokespecial 1, 3) := by decide +kernel
theorem dX10_init_4 : decode cX10_init 4 = .ok (.aload_n 0, 1) := by decide +kernel
theorem dX10_init_5 : decode cX10_init 5 = .ok (.sipush 3642, 3) := by decide +kernel
theorem dX10_init_8 : decode cX10_init 8 = .ok (.newarray .int, 2) := by decide +kernel
theorem dX10_init_10 : decode cX10_init 10 = .ok (.putfield 7, 3) := by decide +kernel
theorem dX10_init_13 : decode cX10_init 13 = .ok (.aload_n 0, 1) := by decide +kernel
theorem dX10_init_14 : decode cX10_init 14 = .ok (.sipush 3642, 3) := by decide +kernel
theorem dX10_init_17 : decode cX10_init 17 = .ok (.newarray .int, 2) := by decide +kernel
theorem dX10_init_19 : decode cX10_init 19 = .ok (.putfield 13, 3) := by decide +kernel
theorem dX10_init_22 : decode cX10_init 22 = .ok (.aload_n 0, 1) := by decide +kernel
theorem dX10_init_23 : decode cX10_init 23 = .ok (.sipush 2820, 3) := by decide +kernel
theorem dX10_init_26 : decode cX10_init 26 = .ok (.newarray .int, 2) := by decide +kernel
theorem dX10_init_28 : decode cX10_init 28 = .ok (.putfield 16, 3) := by decide +kernel
theorem dX10_init_31 : decode cX10_init 31 = .ok (.aload_n 0, 1) := by decide +kernel
theorem dX10_init_32 : decode cX10_init 32 = .ok (.sipush 300, 3) := by decide +kernel
theorem dX10_init_35 : decode cX10_init 35 = .ok (.newarray .int, 2) := by decide +kernel
theorem dX10_init_37 : decode cX10_init 37 = .ok (.putfield 19, 3) := by decide +kernel
theorem dX10_init_40 : decode cX10_init 40 = .ok (.aload_n 0, 1) := by decide +kernel
theorem dX10_init_41 : decode cX10_init 41 = .ok (.iconst (-1), 1) := by decide +kernel
theorem dX10_init_42 : decode cX10_init 42 = .ok (.putfield 22, 3) := by decide +kernel
theorem dX10_init_45 : decode cX10_init 45 = .ok (.aload_n 0, 1) := by decide +kernel
theorem dX10_init_46 : decode cX10_init 46 = .ok (.iconst (-1), 1) := by decide +kernel
theorem dX10_init_47 : decode cX10_init 47 = .ok (.putfield 26, 3) := by decide +kernel
theorem dX10_init_50 : decode cX10_init 50 = .ok (.aload_n 0, 1) := by decide +kernel
theorem dX10_init_51 : decode cX10_init 51 = .ok (.sipush 160, 3) := by decide +kernel
theorem dX10_init_54 : decode cX10_init 54 = .ok (.newarray .int, 2) := by decide +kernel
theorem dX10_init_56 : decode cX10_init 56 = .ok (.putfield 29, 3) := by decide +kernel
theorem dX10_init_59 : decode cX10_init 59 = .ok (.aload_n 0, 1) := by decide +kernel
theorem dX10_init_60 : decode cX10_init 60 = .ok (.bipush 9, 2) := by decide +kernel
theorem dX10_init_62 : decode cX10_init 62 = .ok (.newarray .int, 2) := by decide +kernel
theorem dX10_init_64 : decode cX10_init 64 = .ok (.putfield 32, 3) := by decide +kernel
theorem dX10_init_67 : decode cX10_init 67 = .ok (.aload_n 0, 1) := by decide +kernel
theorem dX10_init_68 : decode cX10_init 68 = .ok (.bipush 8, 2) := by decide +kernel
theorem dX10_init_70 : decode cX10_init 70 = .ok (.newarray .int, 2) := by decide +kernel
theorem dX10_init_72 : decode cX10_init 72 = .ok (.putfield 35, 3) := by decide +kernel
theorem dX10_init_75 : decode cX10_init 75 = .ok (.aload_n 0, 1) := by decide +kernel
theorem dX10_init_76 : decode cX10_init 76 = .ok (.sipush 330, 3) := by decide +kernel
theorem dX10_init_79 : decode cX10_init 79 = .ok (.newarray .long, 2) := by decide +kernel
theorem dX10_init_81 : decode cX10_init 81 = .ok (.putfield 38, 3) := by decide +kernel
theorem dX10_init_84 : decode cX10_init 84 = .ok (.aload_n 0, 1) := by decide +kernel
theorem dX10_init_85 : decode cX10_init 85 = .ok (.sipush 330, 3) := by decide +kernel
theorem dX10_init_88 : decode cX10_init 88 = .ok (.newarray .boolean, 2) := by decide +kernel
theorem dX10_init_90 : decode cX10_init 90 = .ok (.putfield 42, 3) := by decide +kernel
theorem dX10_init_93 : decode cX10_init 93 = .ok (.aload_n 0, 1) := by decide +kernel
theorem dX10_init_94 : decode cX10_init 94 = .ok (.bipush 100, 2) := by decide +kernel
theorem dX10_init_96 : decode cX10_init 96 = .ok (.newarray .int, 2) := by decide +kernel
theorem dX10_init_98 : decode cX10_init 98 = .ok (.putfield 46, 3) := by decide +kernel
theorem dX10_init_101 : decode cX10_init 101 = .ok (.aload_n 0, 1) := by decide +kernel
theorem dX10_init_102 : decode cX10_init 102 = .ok (.bipush 100, 2) := by decide +kernel
theorem dX10_init_104 : decode cX10_init 104 = .ok (.newarray .int, 2) := by decide +kernel
theorem dX10_init_106 : decode cX10_init 106 = .ok (.putfield 49, 3) := by decide +kernel
theorem dX10_init_109 : decode cX10_init 109 = .ok (.aload_n 0, 1) := by decide +kernel
theorem dX10_init_110 : decode cX10_init 110 = .ok (.bipush 100, 2) := by decide +kernel
theorem dX10_init_112 : decode cX10_init 112 = .ok (.newarray .int, 2) := by decide +kernel
theorem dX10_init_114 : decode cX10_init 114 = .ok (.putfield 52, 3) := by decide +kernel
theorem dX10_init_117 : decode cX10_init 117 = .ok (.aload_n 0, 1) := by decide +kernel
theorem dX10_init_118 : decode cX10_init 118 = .ok (.bipush 13, 2) := by decide +kernel
theorem dX10_init_120 : decode cX10_init 120 = .ok (.newarray .int, 2) := by decide +kernel
theorem dX10_init_122 : decode cX10_init 122 = .ok (.putfield 55, 3) := by decide +kernel
theorem dX10_init_125 : decode cX10_init 125 = .ok (.aload_n 0, 1) := by decide +kernel
theorem dX10_init_126 : decode cX10_init 126 = .ok (.bipush 28, 2) := by decide +kernel
theorem dX10_init_128 : decode cX10_init 128 = .ok (.newarray .int, 2) := by decide +kernel
theorem dX10_init_130 : decode cX10_init 130 = .ok (.putfield 58, 3) := by decide +kernel
theorem dX10_init_133 : decode cX10_init 133 = .ok (.aload_n 0, 1) := by decide +kernel
theorem dX10_init_134 : decode cX10_init 134 = .ok (.bipush 8, 2) := by decide +kernel
theorem dX10_init_136 : decode cX10_init 136 = .ok (.newarray .int, 2) := by decide +kernel
theorem dX10_init_138 : decode cX10_init 138 = .ok (.putfield 61, 3) := by decide +kernel
theorem dX10_init_141 : decode cX10_init 141 = .ok (.aload_n 0, 1) := by decide +kernel
theorem dX10_init_142 : decode cX10_init 142 = .ok (.iconst 5, 1) := by decide +kernel
theorem dX10_init_143 : decode cX10_init 143 = .ok (.newarray .int, 2) := by decide +kernel
theorem dX10_init_145 : decode cX10_init 145 = .ok (.putfield 64, 3) := by decide +kernel
theorem dX10_init_148 : decode cX10_init 148 = .ok (.aload_n 0, 1) := by decide +kernel
theorem dX10_init_149 : decode cX10_init 149 = .ok (.iconst 5, 1) := by decide +kernel
theorem dX10_init_150 : decode cX10_init 150 = .ok (.newarray .int, 2) := by decide +kernel
theorem dX10_init_152 : decode cX10_init 152 = .ok (.putfield 67, 3) := by decide +kernel
theorem dX10_init_155 : decode cX10_init 155 = .ok (.aload_n 0, 1) := by decide +kernel
theorem dX10_init_156 : decode cX10_init 156 = .ok (.getfield 7, 3) := by decide +kernel
theorem dX10_init_159 : decode cX10_init 159 = .ok (.bipush 12, 2) := by decide +kernel
theorem dX10_init_161 : decode cX10_init 161 = .ok (.bipush 107, 2) := by decide +kernel
theorem dX10_init_163 : decode cX10_init 163 = .ok (.iastore, 1) := by decide +kernel
theorem dX10_init_164 : decode cX10_init 164 = .ok (.aload_n 0, 1) := by decide +kernel
theorem dX10_init_165 : decode cX10_init 165 = .ok (.getfield 7, 3) := by decide +kernel
theorem dX10_init_168 : decode cX10_init 168 = .ok (.iconst 2, 1) := by decide +kernel
theorem dX10_init_169 : decode cX10_init 169 = .ok (.iconst (-1), 1) := by decide +kernel
theorem dX10_init_170 : decode cX10_init 170 = .ok (.iastore, 1) := by decide +kernel
theorem dX10_init_171 : decode cX10_init 171 = .ok (.aload_n 0, 1) := by decide +kernel
theorem dX10_init_172 : decode cX10_init 172 = .ok (.getfield 7, 3) := by decide +kernel
theorem dX10_init_175 : decode cX10_init 175 = .ok (.bipush 9, 2) := by decide +kernel
theorem dX10_init_177 : decode cX10_init 177 = .ok (.iconst 3, 1) := by decide +kernel
theorem dX10_init_178 : decode cX10_init 178 = .ok (.iastore, 1) := by decide +kernel
theorem dX10_init_179 : decode cX10_init 179 = .ok (.aload_n 0, 1) := by decide +kernel
theorem dX10_init_180 : decode cX10_init 180 = .ok (.getfield 7, 3) := by decide +kernel
theorem dX10_init_183 : decode cX10_init 183 = .ok (.bipush 13, 2) := by decide +kernel
theorem dX10_init_185 : decode cX10_init 185 = .ok (.iconst (-1), 1) := by decide +kernel
theorem dX10_init_186 : decode cX10_init 186 = .ok (.iastore, 1) := by decide +kernel
theorem dX10_init_187 : decode cX10_init 187 = .ok (.aload_n 0, 1) := by decide +kernel
theorem dX10_init_188 : decode cX10_init 188 = .ok (.getfield 7, 3) := by decide +kernel
theorem dX10_init_191 : decode cX10_init 191 = .ok (.aload_n 0, 1) := by decide +kernel
theorem dX10_init_192 : decode cX10_init 192 = .ok (.getfield 13, 3) := by decide +kernel
theorem dX10_init_195 : decode cX10_init 195 = .ok (.invokestatic 70, 3) := by decide +kernel
theorem dX10_init_198 : decode cX10_init 198 = .ok (.return_, 1) := by decide +kernel
theorem dX10_copy_0 : decode cX10_copy 0 = .ok (.iconst 0, 1) := by decide +kernel
theorem dX10_copy_1 : decode cX10_copy 1 = .ok (.istore_n 2, 1) := by decide +kernel
theorem dX10_copy_2 : decode cX10_copy 2 = .ok (.iload_n 2, 1) := by decide +kernel
theorem dX10_copy_3 : decode cX10_copy 3 = .ok (.sipush 3642, 3) := by decide +kernel
theorem dX10_copy_6 : decode cX10_copy 6 = .ok (.if_icmp .ge 15, 3) := by decide +kernel
theorem dX10_copy_9 : decode cX10_copy 9 = .ok (.aload_n 1, 1) := by decide +kernel
theorem dX10_copy_10 : decode cX10_copy 10 = .ok (.iload_n 2, 1) := by decide +kernel
theorem dX10_copy_11 : decode cX10_copy 11 = .ok (.aload_n 0, 1) := by decide +kernel
theorem dX10_copy_12 : decode cX10_copy 12 = .ok (.iload_n 2, 1) := by decide +kernel
theorem dX10_copy_13 : decode cX10_copy 13 = .ok (.iaload, 1) := by decide +kernel
theorem dX10_copy_14 : decode cX10_copy 14 = .ok (.iastore, 1) := by decide +kernel
theorem dX10_copy_15 : decode cX10_copy 15 = .ok (.iinc 2 1, 3) := by decide +kernel
theorem dX10_copy_18 : decode cX10_copy 18 = .ok (.goto (-16), 3) := by decide +kernel
theorem dX10_copy_21 : decode cX10_copy 21 = .ok (.return_, 1) := by decide +kernel
theorem dX10_isIn_0 : decode cX10_isIn 0 = .ok (.iload_n 0, 1) := by decide +kernel
theorem dX10_isIn_1 : decode cX10_isIn 1 = .ok (.iload_n 1, 1) := by decide +kernel
theorem dX10_isIn_2 : decode cX10_isIn 2 = .ok (.if_icmp .lt 12, 3) := by decide +kernel
theorem dX10_isIn_5 : decode cX10_isIn 5 = .ok (.iload_n 0, 1) := by decide +kernel
theorem dX10_isIn_6 : decode cX10_isIn 6 = .ok (.iload_n 2, 1) := by decide +kernel
theorem dX10_isIn_7 : decode cX10_isIn 7 = .ok (.if_icmp .gt 7, 3) := by decide +kernel
theorem dX10_isIn_10 : decode cX10_isIn 10 = .ok (.iconst 1, 1) := by decide +kernel
theorem dX10_isIn_11 : decode cX10_isIn 11 = .ok (.goto 4, 3) := by decide +kernel
theorem dX10_isIn_14 : decode cX10_isIn 14 = .ok (.iconst 0, 1) := by decide +kernel
theorem dX10_isIn_15 : decode cX10_isIn 15 = .ok (.ireturn, 1) := by decide +kernel
theorem dX10_cut_0 : decode cX10_cut 0 = .ok (.lload_n 0, 1) := by decide +kernel
theorem dX10_cut_1 : decode cX10_cut 1 = .ok (.iload_n 2, 1) := by decide +kernel
theorem dX10_cut_2 : decode cX10_cut 2 = .ok (.i2l, 1) := by decide +kernel
theorem dX10_cut_3 : decode cX10_cut 3 = .ok (.lcmp, 1) := by decide +kernel
theorem dX10_cut_4 : decode cX10_cut 4 = .ok (.ifCond .ge 7, 3) := by decide +kernel
theorem dX10_cut_7 : decode cX10_cut 7 = .ok (.iload_n 2, 1) := by decide +kernel
theorem dX10_cut_8 : decode cX10_cut 8 = .ok (.goto 16, 3) := by decide +kernel
theorem dX10_cut_11 : decode cX10_cut 11 = .ok (.lload_n 0, 1) := by decide +kernel
theorem dX10_cut_12 : decode cX10_cut 12 = .ok (.iload_n 3, 1) := by decide +kernel
theorem dX10_cut_13 : decode cX10_cut 13 = .ok (.i2l, 1) := by decide +kernel
theorem dX10_cut_14 : decode cX10_cut 14 = .ok (.lcmp, 1) := by decide +kernel
theorem dX10_cut_15 : decode cX10_cut 15 = .ok (.ifCond .le 7, 3) := by decide +kernel
theorem dX10_cut_18 : decode cX10_cut 18 = .ok (.iload_n 3, 1) := by decide +kernel
theorem dX10_cut_19 : decode cX10_cut 19 = .ok (.goto 5, 3) := by decide +kernel
theorem dX10_cut_22 : decode cX10_cut 22 = .ok (.lload_n 0, 1) := by decide +kernel
theorem dX10_cut_23 : decode cX10_cut 23 = .ok (.l2i, 1) := by decide +kernel
theorem dX10_cut_24 : decode cX10_cut 24 = .ok (.ireturn, 1) := by decide +kernel
theorem dX10_has_0 : decode cX10_has 0 = .ok (.iload_n 0, 1) := by decide +kernel
theorem dX10_has_1 : decode cX10_has 1 = .ok (.iload_n 1, 1) := by decide +kernel
theorem dX10_has_2 : decode cX10_has 2 = .ok (.ishr, 1) := by decide +kernel
theorem dX10_has_3 : decode cX10_has 3 = .ok (.iconst 1, 1) := by decide +kernel
theorem dX10_has_4 : decode cX10_has 4 = .ok (.iand, 1) := by decide +kernel
theorem dX10_has_5 : decode cX10_has 5 = .ok (.iconst 1, 1) := by decide +kernel
theorem dX10_has_6 : decode cX10_has 6 = .ok (.if_icmp .ne 7, 3) := by decide +kernel
theorem dX10_has_9 : decode cX10_has 9 = .ok (.iconst 1, 1) := by decide +kernel
theorem dX10_has_10 : decode cX10_has 10 = .ok (.goto 4, 3) := by decide +kernel
theorem dX10_has_13 : decode cX10_has 13 = .ok (.iconst 0, 1) := by decide +kernel
theorem dX10_has_14 : decode cX10_has 14 = .ok (.ireturn, 1) := by decide +kernel
theorem dX10_bits_0 : decode cX10_bits 0 = .ok (.iconst 0, 1) := by decide +kernel
theorem dX10_bits_1 : decode cX10_bits 1 = .ok (.istore_n 1, 1) := by decide +kernel
theorem dX10_bits_2 : decode cX10_bits 2 = .ok (.iconst 0, 1) := by decide +kernel
theorem dX10_bits_3 : decode cX10_bits 3 = .ok (.istore_n 2, 1) := by decide +kernel
theorem dX10_bits_4 : decode cX10_bits 4 = .ok (.iload_n 2, 1) := by decide +kernel
theorem dX10_bits_5 : decode cX10_bits 5 = .ok (.bipush 8, 2) := by decide +kernel
theorem dX10_bits_7 : decode cX10_bits 7 = .ok (.if_icmp .ge 17, 3) := by decide +kernel
theorem dX10_bits_10 : decode cX10_bits 10 = .ok (.iload_n 1, 1) := by decide +kernel
theorem dX10_bits_11 : decode cX10_bits 11 = .ok (.iload_n 0, 1) := by decide +kernel
theorem dX10_bits_12 : decode cX10_bits 12 = .ok (.iload_n 2, 1) := by decide +kernel
theorem dX10_bits_13 : decode cX10_bits 13 = .ok (.ishr, 1) := by decide +kernel
theorem dX10_bits_14 : decode cX10_bits 14 = .ok (.iconst 1, 1) := by decide +kernel
theorem dX10_bits_15 : decode cX10_bits 15 = .ok (.iand, 1) := by decide +kernel
theorem dX10_bits_16 : decode cX10_bits 16 = .ok (.iadd, 1) := by decide +kernel
theorem dX10_bits_17 : decode cX10_bits 17 = .ok (.istore_n 1, 1) := by decide +kernel
theorem dX10_bits_18 : decode cX10_bits 18 = .ok (.iinc 2 1, 3) := by decide +kernel
theorem dX10_bits_21 : decode cX10_bits 21 = .ok (.goto (-17), 3) := by decide +kernel
theorem dX10_bits_24 : decode cX10_bits 24 = .ok (.iload_n 1, 1) := by decide +kernel
theorem dX10_bits_25 : decode cX10_bits 25 = .ok (.ireturn, 1) := by decide +kernel
theorem dX10_isCase_0 : decode cX10_isCase 0 = .ok (.iload_n 1, 1) := by decide +kernel
theorem dX10_isCase_1 : decode cX10_isCase 1 = .ok (.iconst 0, 1) := by decide +kernel
theorem dX10_isCase_2 : decode cX10_isCase 2 = .ok (.aload_n 0, 1) := by decide +kernel
theorem dX10_isCase_3 : decode cX10_isCase 3 = .ok (.getfield 7, 3) := by decide +kernel
theorem dX10_isCase_6 : decode cX10_isCase 6 = .ok (.iconst 0, 1) := by decide +kernel
theorem dX10_isCase_7 : decode cX10_isCase 7 = .ok (.iaload, 1) := by decide +kernel
theorem dX10_isCase_8 : decode cX10_isCase 8 = .ok (.iconst 1, 1) := by decide +kernel
theorem dX10_isCase_9 : decode cX10_isCase 9 = .ok (.isub, 1) := by decide +kernel
theorem dX10_isCase_10 : decode cX10_isCase 10 = .ok (.invokestatic 74, 3) := by decide +kernel
theorem dX10_isCase_13 : decode cX10_isCase 13 = .ok (.ireturn, 1) := by decide +kernel
theorem dX10_get_0 : decode cX10_get 0 = .ok (.aload_n 0, 1) := by decide +kernel
theorem dX10_get_1 : decode cX10_get 1 = .ok (.getfield 7, 3) := by decide +kernel
theorem dX10_get_4 : decode cX10_get 4 = .ok (.bipush 20, 2) := by decide +kernel
theorem dX10_get_6 : decode cX10_get 6 = .ok (.bipush 7, 2) := by decide +kernel
theorem dX10_get_8 : decode cX10_get 8 = .ok (.iload_n 1, 1) := by decide +kernel
theorem dX10_get_9 : decode cX10_get 9 = .ok (.imul, 1) := by decide +kernel
theorem dX10_get_10 : decode cX10_get 10 = .ok (.iadd, 1) := by decide +kernel
theorem dX10_get_11 : decode cX10_get 11 = .ok (.iload_n 2, 1) := by decide +kernel
theorem dX10_get_12 : decode cX10_get 12 = .ok (.iadd, 1) := by decide +kernel
theorem dX10_get_13 : decode cX10_get 13 = .ok (.iaload, 1) := by decide +kernel
theorem dX10_get_14 : decode cX10_get 14 = .ok (.ireturn, 1) := by decide +kernel
theorem dX10_put_0 : decode cX10_put 0 = .ok (.aload_n 0, 1) := by decide +kernel
theorem dX10_put_1 : decode cX10_put 1 = .ok (.getfield 7, 3) := by decide +kernel
theorem dX10_put_4 : decode cX10_put 4 = .ok (.bipush 20, 2) := by decide +kernel
theorem dX10_put_6 : decode cX10_put 6 = .ok (.bipush 7, 2) := by decide +kernel
theorem dX10_put_8 : decode cX10_put 8 = .ok (.iload_n 1, 1) := by decide +kernel
theorem dX10_put_9 : decode cX10_put 9 = .ok (.imul, 1) := by decide +kernel
theorem dX10_put_10 : decode cX10_put 10 = .ok (.iadd, 1) := by decide +kernel
theorem dX10_put_11 : decode cX10_put 11 = .ok (.iload_n 2, 1) := by decide +kernel
theorem dX10_put_12 : decode cX10_put 12 = .ok (.iadd, 1) := by decide +kernel
theorem dX10_put_13 : decode cX10_put 13 = .ok (.iload_n 3, 1) := by decide +kernel
theorem dX10_put_14 : decode cX10_put 14 = .ok (.iastore, 1) := by decide +kernel
theorem dX10_put_15 : decode cX10_put 15 = .ok (.return_, 1) := by decide +kernel
theorem dX10_isWaiting_0 : decode cX10_isWaiting 0 = .ok (.aload_n 0, 1) := by decide +kernel
theorem dX10_isWaiting_1 : decode cX10_isWaiting 1 = .ok (.iload_n 1, 1) := by decide +kernel
theorem dX10_isWaiting_2 : decode cX10_isWaiting 2 = .ok (.invokevirtual 78, 3) := by decide +kernel
theorem dX10_isWaiting_5 : decode cX10_isWaiting 5 = .ok (.ifCond .eq 16, 3) := by decide +kernel
theorem dX10_isWaiting_8 : decode cX10_isWaiting 8 = .ok (.aload_n 0, 1) := by decide +kernel
theorem dX10_isWaiting_9 : decode cX10_isWaiting 9 = .ok (.iload_n 1, 1) := by decide +kernel
theorem dX10_isWaiting_10 : decode cX10_isWaiting 10 = .ok (.iconst 4, 1) := by decide +kernel
theorem dX10_isWaiting_11 : decode cX10_isWaiting 11 = .ok (.invokevirtual 82, 3) := by decide +kernel
theorem dX10_isWaiting_14 : decode cX10_isWaiting 14 = .ok (.ifCond .ne 7, 3) := by decide +kernel
theorem dX10_isWaiting_17 : decode cX10_isWaiting 17 = .ok (.iconst 1, 1) := by decide +kernel
theorem dX10_isWaiting_18 : decode cX10_isWaiting 18 = .ok (.goto 4, 3) := by decide +kernel
theorem dX10_isWaiting_21 : decode cX10_isWaiting 21 = .ok (.iconst 0, 1) := by decide +kernel
theorem dX10_isWaiting_22 : decode cX10_isWaiting 22 = .ok (.ireturn, 1) := by decide +kernel
theorem dX10_newCase_0 : decode cX10_newCase 0 = .ok (.iload_n 1, 1) := by decide +kernel
theorem dX10_newCase_1 : decode cX10_newCase 1 = .ok (.iconst 0, 1) := by decide +kernel
theorem dX10_newCase_2 : decode cX10_newCase 2 = .ok (.iconst 5, 1) := by decide +kernel
theorem dX10_newCase_3 : decode cX10_newCase 3 = .ok (.invokestatic 74, 3) := by decide +kernel
theorem dX10_newCase_6 : decode cX10_newCase 6 = .ok (.ifCond .eq 46, 3) := by decide +kernel
theorem dX10_newCase_9 : decode cX10_newCase 9 = .ok (.iload_n 2, 1) := by decide +kernel
theorem dX10_newCase_10 : decode cX10_newCase 10 = .ok (.iconst 1, 1) := by decide +kernel
theorem dX10_newCase_11 : decode cX10_newCase 11 = .ok (.bipush 9, 2) := by decide +kernel
theorem dX10_newCase_13 : decode cX10_newCase 13 = .ok (.invokestatic 74, 3) := by decide +kernel
theorem dX10_newCase_16 : decode cX10_newCase 16 = .ok (.ifCond .eq 36, 3) := by decide +kernel
theorem dX10_newCase_19 : decode cX10_newCase 19 = .ok (.iload_n 3, 1) := by decide +kernel
theorem dX10_newCase_20 : decode cX10_newCase 20 = .ok (.iconst 1, 1) := by decide +kernel
theorem dX10_newCase_21 : decode cX10_newCase 21 = .ok (.bipush 9, 2) := by decide +kernel
theorem dX10_newCase_23 : decode cX10_newCase 23 = .ok (.invokestatic 74, 3) := by decide +kernel
theorem dX10_newCase_26 : decode cX10_newCase 26 = .ok (.ifCond .eq 26, 3) := by decide +kernel
theorem dX10_newCase_29 : decode cX10_newCase 29 = .ok (.iload 4, 2) := by decide +kernel
theorem dX10_newCase_31 : decode cX10_newCase 31 = .ok (.iconst 0, 1) := by decide +kernel
theorem dX10_newCase_32 : decode cX10_newCase 32 = .ok (.sipush 255, 3) := by decide +kernel
theorem dX10_newCase_35 : decode cX10_newCase 35 = .ok (.invokestatic 74, 3) := by decide +kernel
theorem dX10_newCase_38 : decode cX10_newCase 38 = .ok (.ifCond .eq 14, 3) := by decide +kernel
theorem dX10_newCase_41 : decode cX10_newCase 41 = .ok (.aload_n 0, 1) := by decide +kernel
theorem dX10_newCase_42 : decode cX10_newCase 42 = .ok (.getfield 7, 3) := by decide +kernel
theorem dX10_newCase_45 : decode cX10_newCase 45 = .ok (.iconst 0, 1) := by decide +kernel
theorem dX10_newCase_46 : decode cX10_newCase 46 = .ok (.iaload, 1) := by decide +kernel
theorem dX10_newCase_47 : decode cX10_newCase 47 = .ok (.bipush 8, 2) := by decide +kernel
theorem dX10_newCase_49 : decode cX10_newCase 49 = .ok (.if_icmp .ne 5, 3) := by decide +kernel
theorem dX10_newCase_52 : decode cX10_newCase 52 = .ok (.iconst (-1), 1) := by decide +kernel
theorem dX10_newCase_53 : decode cX10_newCase 53 = .ok (.ireturn, 1) := by decide +kernel
theorem dX10_newCase_54 : decode cX10_newCase 54 = .ok (.aload_n 0, 1) := by decide +kernel
theorem dX10_newCase_55 : decode cX10_newCase 55 = .ok (.getfield 7, 3) := by decide +kernel
theorem dX10_newCase_58 : decode cX10_newCase 58 = .ok (.iconst 0, 1) := by decide +kernel
theorem dX10_newCase_59 : decode cX10_newCase 59 = .ok (.iaload, 1) := by decide +kernel
theorem dX10_newCase_60 : decode cX10_newCase 60 = .ok (.istore 5, 2) := by decide +kernel
theorem dX10_newCase_62 : decode cX10_newCase 62 = .ok (.aload_n 0, 1) := by decide +kernel
theorem dX10_newCase_63 : decode cX10_newCase 63 = .ok (.iload 5, 2) := by decide +kernel
theorem dX10_newCase_65 : decode cX10_newCase 65 = .ok (.iconst 0, 1) := by decide +kernel
theorem dX10_newCase_66 : decode cX10_newCase 66 = .ok (.iload_n 1, 1) := by decide +kernel
theorem dX10_newCase_67 : decode cX10_newCase 67 = .ok (.invokevirtual 86, 3) := by decide +kernel
theorem dX10_newCase_70 : decode cX10_newCase 70 = .ok (.aload_n 0, 1) := by decide +kernel
theorem dX10_newCase_71 : decode cX10_newCase 71 = .ok (.iload 5, 2) := by decide +kernel
theorem dX10_newCase_73 : decode cX10_newCase 73 = .ok (.iconst 1, 1) := by decide +kernel
theorem dX10_newCase_74 : decode cX10_newCase 74 = .ok (.iload_n 2, 1) := by decide +kernel
theorem dX10_newCase_75 : decode cX10_newCase 75 = .ok (.invokevirtual 86, 3) := by decide +kernel
theorem dX10_newCase_78 : decode cX10_newCase 78 = .ok (.aload_n 0, 1) := by decide +kernel
theorem dX10_newCase_79 : decode cX10_newCase 79 = .ok (.iload 5, 2) := by decide +kernel
theorem dX10_newCase_81 : decode cX10_newCase 81 = .ok (.iconst 2, 1) := by decide +kernel
theorem dX10_newCase_82 : decode cX10_newCase 82 = .ok (.iload_n 3, 1) := by decide +kernel
theorem dX10_newCase_83 : decode cX10_newCase 83 = .ok (.invokevirtual 86, 3) := by decide +kernel
theorem dX10_newCase_86 : decode cX10_newCase 86 = .ok (.aload_n 0, 1) := by decide +kernel
theorem dX10_newCase_87 : decode cX10_newCase 87 = .ok (.iload 5, 2) := by decide +kernel
theorem dX10_newCase_89 : decode cX10_newCase 89 = .ok (.iconst 3, 1) := by decide +kernel
theorem dX10_newCase_90 : decode cX10_newCase 90 = .ok (.iload 4, 2) := by decide +kernel
theorem dX10_newCase_92 : decode cX10_newCase 92 = .ok (.invokevirtual 86, 3) := by decide +kernel
theorem dX10_newCase_95 : decode cX10_newCase 95 = .ok (.iconst 4, 1) := by decide +kernel
theorem dX10_newCase_96 : decode cX10_newCase 96 = .ok (.istore 6, 2) := by decide +kernel
theorem dX10_newCase_98 : decode cX10_newCase 98 = .ok (.iload 6, 2) := by decide +kernel
theorem dX10_newCase_100 : decode cX10_newCase 100 = .ok (.bipush 6, 2) := by decide +kernel
theorem dX10_newCase_102 : decode cX10_newCase 102 = .ok (.if_icmp .gt 18, 3) := by decide +kernel
theorem dX10_newCase_105 : decode cX10_newCase 105 = .ok (.aload_n 0, 1) := by decide +kernel
theorem dX10_newCase_106 : decode cX10_newCase 106 = .ok (.iload 5, 2) := by decide +kernel
theorem dX10_newCase_108 : decode cX10_newCase 108 = .ok (.iload 6, 2) := by decide +kernel
theorem dX10_newCase_110 : decode cX10_newCase 110 = .ok (.iconst 0, 1) := by decide +kernel
theorem dX10_newCase_111 : decode cX10_newCase 111 = .ok (.invokevirtual 86, 3) := by decide +kernel
theorem dX10_newCase_114 : decode cX10_newCase 114 = .ok (.iinc 6 1, 3) := by decide +kernel
theorem dX10_newCase_117 : decode cX10_newCase 117 = .ok (.goto (-19), 3) := by decide +kernel
theorem dX10_newCase_120 : decode cX10_newCase 120 = .ok (.aload_n 0, 1) := by decide +kernel
theorem dX10_newCase_121 : decode cX10_newCase 121 = .ok (.getfield 7, 3) := by decide +kernel
theorem dX10_newCase_124 : decode cX10_newCase 124 = .ok (.iconst 0, 1) := by decide +kernel
theorem dX10_newCase_125 : decode cX10_newCase 125 = .ok (.dup2, 1) := by decide +kernel
theorem dX10_newCase_126 : decode cX10_newCase 126 = .ok (.iaload, 1) := by decide +kernel
theorem dX10_newCase_127 : decode cX10_newCase 127 = .ok (.iconst 1, 1) := by decide +kernel
theorem dX10_newCase_128 : decode cX10_newCase 128 = .ok (.iadd, 1) := by decide +kernel
theorem dX10_newCase_129 : decode cX10_newCase 129 = .ok (.iastore, 1) := by decide +kernel
theorem dX10_newCase_130 : decode cX10_newCase 130 = .ok (.iload 5, 2) := by decide +kernel
theorem dX10_newCase_132 : decode cX10_newCase 132 = .ok (.ireturn, 1) := by decide +kernel
theorem dX10_four_0 : decode cX10_four 0 = .ok (.bipush 24, 2) := by decide +kernel
theorem dX10_four_2 : decode cX10_four 2 = .ok (.istore_n 2, 1) := by decide +kernel
theorem dX10_four_3 : decode cX10_four 3 = .ok (.iload_n 2, 1) := by decide +kernel
theorem dX10_four_4 : decode cX10_four 4 = .ok (.ifCond .lt 35, 3) := by decide +kernel
theorem dX10_four_7 : decode cX10_four 7 = .ok (.aload_n 0, 1) := by decide +kernel
theorem dX10_four_8 : decode cX10_four 8 = .ok (.getfield 19, 3) := by decide +kernel
theorem dX10_four_11 : decode cX10_four 11 = .ok (.aload_n 0, 1) := by decide +kernel
theorem dX10_four_12 : decode cX10_four 12 = .ok (.getfield 90, 3) := by decide +kernel
theorem dX10_four_15 : decode cX10_four 15 = .ok (.iload_n 1, 1) := by decide +kernel
theorem dX10_four_16 : decode cX10_four 16 = .ok (.iload_n 2, 1) := by decide +kernel
theorem dX10_four_17 : decode cX10_four 17 = .ok (.ishr, 1) := by decide +kernel
theorem dX10_four_18 : decode cX10_four 18 = .ok (.sipush 255, 3) := by decide +kernel
theorem dX10_four_21 : decode cX10_four 21 = .ok (.iand, 1) := by decide +kernel
theorem dX10_four_22 : decode cX10_four 22 = .ok (.iastore, 1) := by decide +kernel
theorem dX10_four_23 : decode cX10_four 23 = .ok (.aload_n 0, 1) := by decide +kernel
theorem dX10_four_24 : decode cX10_four 24 = .ok (.dup, 1) := by decide +kernel
theorem dX10_four_25 : decode cX10_four 25 = .ok (.getfield 90, 3) := by decide +kernel
theorem dX10_four_28 : decode cX10_four 28 = .ok (.iconst 1, 1) := by decide +kernel
theorem dX10_four_29 : decode cX10_four 29 = .ok (.iadd, 1) := by decide +kernel
theorem dX10_four_30 : decode cX10_four 30 = .ok (.putfield 90, 3) := by decide +kernel
theorem dX10_four_33 : decode cX10_four 33 = .ok (.iinc 2 (-8), 3) := by decide +kernel
theorem dX10_four_36 : decode cX10_four 36 = .ok (.goto (-33), 3) := by decide +kernel
theorem dX10_four_39 : decode cX10_four 39 = .ok (.return_, 1) := by decide +kernel
theorem dX10_feed_0 : decode cX10_feed 0 = .ok (.aload_n 0, 1) := by decide +kernel
theorem dX10_feed_1 : decode cX10_feed 1 = .ok (.getfield 90, 3) := by decide +kernel
theorem dX10_feed_4 : decode cX10_feed 4 = .ok (.bipush 20, 2) := by decide +kernel
theorem dX10_feed_6 : decode cX10_feed 6 = .ok (.iadd, 1) := by decide +kernel
theorem dX10_feed_7 : decode cX10_feed 7 = .ok (.sipush 300, 3) := by decide +kernel
theorem dX10_feed_10 : decode cX10_feed 10 = .ok (.if_icmp .le 5, 3) := by decide +kernel
theorem dX10_feed_13 : decode cX10_feed 13 = .ok (.iconst (-1), 1) := by decide +kernel
theorem dX10_feed_14 : decode cX10_feed 14 = .ok (.ireturn, 1) := by decide +kernel
theorem dX10_feed_15 : decode cX10_feed 15 = .ok (.aload_n 0, 1) := by decide +kernel
theorem dX10_feed_16 : decode cX10_feed 16 = .ok (.iload_n 1, 1) := by decide +kernel
theorem dX10_feed_17 : decode cX10_feed 17 = .ok (.invokevirtual 93, 3) := by decide +kernel
theorem dX10_feed_20 : decode cX10_feed 20 = .ok (.aload_n 0, 1) := by decide +kernel
theorem dX10_feed_21 : decode cX10_feed 21 = .ok (.iload_n 2, 1) := by decide +kernel
theorem dX10_feed_22 : decode cX10_feed 22 = .ok (.invokevirtual 93, 3) := by decide +kernel
theorem dX10_feed_25 : decode cX10_feed 25 = .ok (.aload_n 0, 1) := by decide +kernel
theorem dX10_feed_26 : decode cX10_feed 26 = .ok (.iload_n 3, 1) := by decide +kernel
theorem dX10_feed_27 : decode cX10_feed 27 = .ok (.invokevirtual 93, 3) := by decide +kernel
theorem dX10_feed_30 : decode cX10_feed 30 = .ok (.aload_n 0, 1) := by decide +kernel
theorem dX10_feed_31 : decode cX10_feed 31 = .ok (.iload 4, 2) := by decide +kernel
theorem dX10_feed_33 : decode cX10_feed 33 = .ok (.invokevirtual 93, 3) := by decide +kernel
theorem dX10_feed_36 : decode cX10_feed 36 = .ok (.aload_n 0, 1) := by decide +kernel
theorem dX10_feed_37 : decode cX10_feed 37 = .ok (.iload 5, 2) := by decide +kernel
theorem dX10_feed_39 : decode cX10_feed 39 = .ok (.invokevirtual 93, 3) := by decide +kernel
theorem dX10_feed_42 : decode cX10_feed 42 = .ok (.aload_n 0, 1) := by decide +kernel
theorem dX10_feed_43 : decode cX10_feed 43 = .ok (.getfield 90, 3) := by decide +kernel
theorem dX10_feed_46 : decode cX10_feed 46 = .ok (.ireturn, 1) := by decide +kernel
theorem dX10_end_0 : decode cX10_end 0 = .ok (.iload_n 1, 1) := by decide +kernel
theorem dX10_end_1 : decode cX10_end 1 = .ok (.iconst 0, 1) := by decide +kernel
theorem dX10_end_2 : decode cX10_end 2 = .ok (.aload_n 0, 1) := by decide +kernel
theorem dX10_end_3 : decode cX10_end 3 = .ok (.getfield 90, 3) := by decide +kernel
theorem dX10_end_6 : decode cX10_end 6 = .ok (.invokestatic 74, 3) := by decide +kernel
theorem dX10_end_9 : decode cX10_end 9 = .ok (.ifCond .ne 5, 3) := by decide +kernel
theorem dX10_end_12 : decode cX10_end 12 = .ok (.iconst (-1), 1) := by decide +kernel
theorem dX10_end_13 : decode cX10_end 13 = .ok (.ireturn, 1) := by decide +kernel
theorem dX10_end_14 : decode cX10_end 14 = .ok (.aload_n 0, 1) := by decide +kernel
theorem dX10_end_15 : decode cX10_end 15 = .ok (.iload_n 1, 1) := by decide +kernel
theorem dX10_end_16 : decode cX10_end 16 = .ok (.putfield 90, 3) := by decide +kernel
theorem dX10_end_19 : decode cX10_end 19 = .ok (.iload_n 1, 1) := by decide +kernel
theorem dX10_end_20 : decode cX10_end 20 = .ok (.ireturn, 1) := by decide +kernel
theorem dX10_byteAt_0 : decode cX10_byteAt 0 = .ok (.iload_n 1, 1) := by decide +kernel
theorem dX10_byteAt_1 : decode cX10_byteAt 1 = .ok (.aload_n 0, 1) := by decide +kernel
theorem dX10_byteAt_2 : decode cX10_byteAt 2 = .ok (.getfield 90, 3) := by decide +kernel
theorem dX10_byteAt_5 : decode cX10_byteAt 5 = .ok (.if_icmp .ge 12, 3) := by decide +kernel
theorem dX10_byteAt_8 : decode cX10_byteAt 8 = .ok (.aload_n 0, 1) := by decide +kernel
theorem dX10_byteAt_9 : decode cX10_byteAt 9 = .ok (.getfield 19, 3) := by decide +kernel
theorem dX10_byteAt_12 : decode cX10_byteAt 12 = .ok (.iload_n 1, 1) := by decide +kernel
theorem dX10_byteAt_13 : decode cX10_byteAt 13 = .ok (.iaload, 1) := by decide +kernel
theorem dX10_byteAt_14 : decode cX10_byteAt 14 = .ok (.goto 4, 3) := by decide +kernel
theorem dX10_byteAt_17 : decode cX10_byteAt 17 = .ok (.iconst (-1), 1) := by decide +kernel
theorem dX10_byteAt_18 : decode cX10_byteAt 18 = .ok (.ireturn, 1) := by decide +kernel
theorem dX10_isLetterByte_0 : decode cX10_isLetterByte 0 = .ok (.iload_n 0, 1) := by decide +kernel
theorem dX10_isLetterByte_1 : decode cX10_isLetterByte 1 = .ok (.bipush 97, 2) := by decide +kernel
theorem dX10_isLetterByte_3 : decode cX10_isLetterByte 3 = .ok (.if_icmp .lt 9, 3) := by decide +kernel
theorem dX10_isLetterByte_6 : decode cX10_isLetterByte 6 = .ok (.iload_n 0, 1) := by decide +kernel
theorem dX10_isLetterByte_7 : decode cX10_isLetterByte 7 = .ok (.bipush 122, 2) := by decide +kernel
theorem dX10_isLetterByte_9 : decode cX10_isLetterByte 9 = .ok (.if_icmp .le 15, 3) := by decide +kernel
theorem dX10_isLetterByte_12 : decode cX10_isLetterByte 12 = .ok (.iload_n 0, 1) := by decide +kernel
theorem dX10_isLetterByte_13 : decode cX10_isLetterByte 13 = .ok (.bipush 65, 2) := by decide +kernel
theorem dX10_isLetterByte_15 : decode cX10_isLetterByte 15 = .ok (.if_icmp .lt 13, 3) := by decide +kernel
theorem dX10_isLetterByte_18 : decode cX10_isLetterByte 18 = .ok (.iload_n 0, 1) := by decide +kernel
theorem dX10_isLetterByte_19 : decode cX10_isLetterByte 19 = .ok (.bipush 90, 2) := by decide +kernel
theorem dX10_isLetterByte_21 : decode cX10_isLetterByte 21 = .ok (.if_icmp .gt 7, 3) := by decide +kernel
theorem dX10_isLetterByte_24 : decode cX10_isLetterByte 24 = .ok (.iconst 1, 1) := by decide +kernel
theorem dX10_isLetterByte_25 : decode cX10_isLetterByte 25 = .ok (.goto 4, 3) := by decide +kernel
theorem dX10_isLetterByte_28 : decode cX10_isLetterByte 28 = .ok (.iconst 0, 1) := by decide +kernel
theorem dX10_isLetterByte_29 : decode cX10_isLetterByte 29 = .ok (.ireturn, 1) := by decide +kernel
theorem dX10_isFigure_0 : decode cX10_isFigure 0 = .ok (.iload_n 0, 1) := by decide +kernel
theorem dX10_isFigure_1 : decode cX10_isFigure 1 = .ok (.bipush 48, 2) := by decide +kernel
theorem dX10_isFigure_3 : decode cX10_isFigure 3 = .ok (.if_icmp .lt 13, 3) := by decide +kernel
theorem dX10_isFigure_6 : decode cX10_isFigure 6 = .ok (.iload_n 0, 1) := by decide +kernel
theorem dX10_isFigure_7 : decode cX10_isFigure 7 = .ok (.bipush 57, 2) := by decide +kernel
theorem dX10_isFigure_9 : decode cX10_isFigure 9 = .ok (.if_icmp .gt 7, 3) := by decide +kernel
theorem dX10_isFigure_12 : decode cX10_isFigure 12 = .ok (.iconst 1, 1) := by decide +kernel
theorem dX10_isFigure_13 : decode cX10_isFigure 13 = .ok (.goto 4, 3) := by decide +kernel
theorem dX10_isFigure_16 : decode cX10_isFigure 16 = .ok (.iconst 0, 1) := by decide +kernel
theorem dX10_isFigure_17 : decode cX10_isFigure 17 = .ok (.ireturn, 1) := by decide +kernel
theorem dX10_isSign_0 : decode cX10_isSign 0 = .ok (.iload_n 0, 1) := by decide +kernel
theorem dX10_isSign_1 : decode cX10_isSign 1 = .ok (.tableswitch 129 35 62 #[127, 129, 129, 129, 129, 127, 127, 127, 127, 127, 127, 129, 127, 129, 129, 129, 129, 129, 129, 129, 129, 129, 129, 127, 127, 127, 127, 127], 127) := by decide +kernel
theorem dX10_isSign_128 : decode cX10_isSign 128 = .ok (.iconst 1, 1) := by decide +kernel
theorem dX10_isSign_129 : decode cX10_isSign 129 = .ok (.ireturn, 1) := by decide +kernel
theorem dX10_isSign_130 : decode cX10_isSign 130 = .ok (.iconst 0, 1) := by decide +kernel
theorem dX10_isSign_131 : decode cX10_isSign 131 = .ok (.ireturn, 1) := by decide +kernel
theorem dX10_nextToken_0 : decode cX10_nextToken 0 = .ok (.aload_n 0, 1) := by decide +kernel
theorem dX10_nextToken_1 : decode cX10_nextToken 1 = .ok (.aload_n 0, 1) := by decide +kernel
theorem dX10_nextToken_2 : decode cX10_nextToken 2 = .ok (.getfield 97, 3) := by decide +kernel
theorem dX10_nextToken_5 : decode cX10_nextToken 5 = .ok (.invokevirtual 100, 3) := by decide +kernel
theorem dX10_nextToken_8 : decode cX10_nextToken 8 = .ok (.bipush 32, 2) := by decide +kernel
theorem dX10_nextToken_10 : decode cX10_nextToken 10 = .ok (.if_icmp .eq 16, 3) := by decide +kernel
theorem dX10_nextToken_13 : decode cX10_nextToken 13 = .ok (.aload_n 0, 1) := by decide +kernel
theorem dX10_nextToken_14 : decode cX10_nextToken 14 = .ok (.aload_n 0, 1) := by decide +kernel
theorem dX10_nextToken_15 : decode cX10_nextToken 15 = .ok (.getfield 97, 3) := by decide +kernel
theorem dX10_nextToken_18 : decode cX10_nextToken 18 = .ok (.invokevirtual 100, 3) := by decide +kernel
theorem dX10_nextToken_21 : decode cX10_nextToken 21 = .ok (.bipush 10, 2) := by decide +kernel
theorem dX10_nextToken_23 : decode cX10_nextToken 23 = .ok (.if_icmp .ne 16, 3) := by decide +kernel
theorem dX10_nextToken_26 : decode cX10_nextToken 26 = .ok (.aload_n 0, 1) := by decide +kernel
theorem dX10_nextToken_27 : decode cX10_nextToken 27 = .ok (.dup, 1) := by decide +kernel
theorem dX10_nextToken_28 : decode cX10_nextToken 28 = .ok (.getfield 97, 3) := by decide +kernel
theorem dX10_nextToken_31 : decode cX10_nextToken 31 = .ok (.iconst 1, 1) := by decide +kernel
theorem dX10_nextToken_32 : decode cX10_nextToken 32 = .ok (.iadd, 1) := by decide +kernel
theorem dX10_nextToken_33 : decode cX10_nextToken 33 = .ok (.putfield 97, 3) := by decide +kernel
theorem dX10_nextToken_36 : decode cX10_nextToken 36 = .ok (.goto (-36), 3) := by decide +kernel
theorem dX10_nextToken_39 : decode cX10_nextToken 39 = .ok (.aload_n 0, 1) := by decide +kernel
theorem dX10_nextToken_40 : decode cX10_nextToken 40 = .ok (.aload_n 0, 1) := by decide +kernel
theorem dX10_nextToken_41 : decode cX10_nextToken 41 = .ok (.getfield 97, 3) := by decide +kernel
theorem dX10_nextToken_44 : decode cX10_nextToken 44 = .ok (.putfield 104, 3) := by decide +kernel
theorem dX10_nextToken_47 : decode cX10_nextToken 47 = .ok (.aload_n 0, 1) := by decide +kernel
theorem dX10_nextToken_48 : decode cX10_nextToken 48 = .ok (.aload_n 0, 1) := by decide +kernel
theorem dX10_nextToken_49 : decode cX10_nextToken 49 = .ok (.getfield 97, 3) := by decide +kernel
theorem dX10_nextToken_52 : decode cX10_nextToken 52 = .ok (.invokevirtual 100, 3) := by decide +kernel
theorem dX10_nextToken_55 : decode cX10_nextToken 55 = .ok (.istore_n 1, 1) := by decide +kernel
theorem dX10_nextToken_56 : decode cX10_nextToken 56 = .ok (.iload_n 1, 1) := by decide +kernel
theorem dX10_nextToken_57 : decode cX10_nextToken 57 = .ok (.ifCond .ge 11, 3) := by decide +kernel
theorem dX10_nextToken_60 : decode cX10_nextToken 60 = .ok (.aload_n 0, 1) := by decide +kernel
theorem dX10_nextToken_61 : decode cX10_nextToken 61 = .ok (.iconst 0, 1) := by decide +kernel
theorem dX10_nextToken_62 : decode cX10_nextToken 62 = .ok (.putfield 107, 3) := by decide +kernel
theorem dX10_nextToken_65 : decode cX10_nextToken 65 = .ok (.goto 245, 3) := by decide +kernel
theorem dX10_nextToken_68 : decode cX10_nextToken 68 = .ok (.iload_n 1, 1) := by decide +kernel
theorem dX10_nextToken_69 : decode cX10_nextToken 69 = .ok (.invokestatic 110, 3) := by decide +kernel
theorem dX10_nextToken_72 : decode cX10_nextToken 72 = .ok (.ifCond .eq 79, 3) := by decide +kernel
theorem dX10_nextToken_75 : decode cX10_nextToken 75 = .ok (.aload_n 0, 1) := by decide +kernel
theorem dX10_nextToken_76 : decode cX10_nextToken 76 = .ok (.iconst 1, 1) := by decide +kernel
theorem dX10_nextToken_77 : decode cX10_nextToken 77 = .ok (.putfield 107, 3) := by decide +kernel
theorem dX10_nextToken_80 : decode cX10_nextToken 80 = .ok (.aload_n 0, 1) := by decide +kernel
theorem dX10_nextToken_81 : decode cX10_nextToken 81 = .ok (.iconst 0, 1) := by decide +kernel
theorem dX10_nextToken_82 : decode cX10_nextToken 82 = .ok (.putfield 113, 3) := by decide +kernel
theorem dX10_nextToken_85 : decode cX10_nextToken 85 = .ok (.aload_n 0, 1) := by decide +kernel
theorem dX10_nextToken_86 : decode cX10_nextToken 86 = .ok (.aload_n 0, 1) := by decide +kernel
theorem dX10_nextToken_87 : decode cX10_nextToken 87 = .ok (.getfield 97, 3) := by decide +kernel
theorem dX10_nextToken_90 : decode cX10_nextToken 90 = .ok (.invokevirtual 100, 3) := by decide +kernel
theorem dX10_nextToken_93 : decode cX10_nextToken 93 = .ok (.invokestatic 110, 3) := by decide +kernel
theorem dX10_nextToken_96 : decode cX10_nextToken 96 = .ok (.ifCond .eq 214, 3) := by decide +kernel
theorem dX10_nextToken_99 : decode cX10_nextToken 99 = .ok (.aload_n 0, 1) := by decide +kernel
theorem dX10_nextToken_100 : decode cX10_nextToken 100 = .ok (.aload_n 0, 1) := by decide +kernel
theorem dX10_nextToken_101 : decode cX10_nextToken 101 = .ok (.getfield 113, 3) := by decide +kernel
theorem dX10_nextToken_104 : decode cX10_nextToken 104 = .ok (.ldc 116, 2) := by decide +kernel
theorem dX10_nextToken_106 : decode cX10_nextToken 106 = .ok (.if_icmp .le 10, 3) := by decide +kernel
theorem dX10_nextToken_109 : decode cX10_nextToken 109 = .ok (.aload_n 0, 1) := by decide +kernel
theorem dX10_nextToken_110 : decode cX10_nextToken 110 = .ok (.getfield 113, 3) := by decide +kernel
theorem dX10_nextToken_113 : decode cX10_nextToken 113 = .ok (.goto 22, 3) := by decide +kernel
theorem dX10_nextToken_116 : decode cX10_nextToken 116 = .ok (.bipush 10, 2) := by decide +kernel
theorem dX10_nextToken_118 : decode cX10_nextToken 118 = .ok (.aload_n 0, 1) := by decide +kernel
theorem dX10_nextToken_119 : decode cX10_nextToken 119 = .ok (.getfield 113, 3) := by decide +kernel
theorem dX10_nextToken_122 : decode cX10_nextToken 122 = .ok (.imul, 1) := by decide +kernel
theorem dX10_nextToken_123 : decode cX10_nextToken 123 = .ok (.aload_n 0, 1) := by decide +kernel
theorem dX10_nextToken_124 : decode cX10_nextToken 124 = .ok (.aload_n 0, 1) := by decide +kernel
theorem dX10_nextToken_125 : decode cX10_nextToken 125 = .ok (.getfield 97, 3) := by decide +kernel
theorem dX10_nextToken_128 : decode cX10_nextToken 128 = .ok (.invokevirtual 100, 3) := by decide +kernel
theorem dX10_nextToken_131 : decode cX10_nextToken 131 = .ok (.iadd, 1) := by decide +kernel
theorem dX10_nextToken_132 : decode cX10_nextToken 132 = .ok (.bipush 48, 2) := by decide +kernel
theorem dX10_nextToken_134 : decode cX10_nextToken 134 = .ok (.isub, 1) := by decide +kernel
theorem dX10_nextToken_135 : decode cX10_nextToken 135 = .ok (.putfield 113, 3) := by decide +kernel
theorem dX10_nextToken_138 : decode cX10_nextToken 138 = .ok (.aload_n 0, 1) := by decide +kernel
theorem dX10_nextToken_139 : decode cX10_nextToken 139 = .ok (.dup, 1) := by decide +kernel
theorem dX10_nextToken_140 : decode cX10_nextToken 140 = .ok (.getfield 97, 3) := by decide +kernel
theorem dX10_nextToken_143 : decode cX10_nextToken 143 = .ok (.iconst 1, 1) := by decide +kernel
theorem dX10_nextToken_144 : decode cX10_nextToken 144 = .ok (.iadd, 1) := by decide +kernel
theorem dX10_nextToken_145 : decode cX10_nextToken 145 = .ok (.putfield 97, 3) := by decide +kernel
theorem dX10_nextToken_148 : decode cX10_nextToken 148 = .ok (.goto (-63), 3) := by decide +kernel
theorem dX10_nextToken_151 : decode cX10_nextToken 151 = .ok (.iload_n 1, 1) := by decide +kernel
theorem dX10_nextToken_152 : decode cX10_nextToken 152 = .ok (.invokestatic 117, 3) := by decide +kernel
theorem dX10_nextToken_155 : decode cX10_nextToken 155 = .ok (.ifCond .eq 79, 3) := by decide +kernel
theorem dX10_nextToken_158 : decode cX10_nextToken 158 = .ok (.aload_n 0, 1) := by decide +kernel
theorem dX10_nextToken_159 : decode cX10_nextToken 159 = .ok (.iconst 2, 1) := by decide +kernel
theorem dX10_nextToken_160 : decode cX10_nextToken 160 = .ok (.putfield 107, 3) := by decide +kernel
theorem dX10_nextToken_163 : decode cX10_nextToken 163 = .ok (.aload_n 0, 1) := by decide +kernel
theorem dX10_nextToken_164 : decode cX10_nextToken 164 = .ok (.lconst 0, 1) := by decide +kernel
theorem dX10_nextToken_165 : decode cX10_nextToken 165 = .ok (.putfield 120, 3) := by decide +kernel
theorem dX10_nextToken_168 : decode cX10_nextToken 168 = .ok (.aload_n 0, 1) := by decide +kernel
theorem dX10_nextToken_169 : decode cX10_nextToken 169 = .ok (.aload_n 0, 1) := by decide +kernel
theorem dX10_nextToken_170 : decode cX10_nextToken 170 = .ok (.getfield 97, 3) := by decide +kernel
theorem dX10_nextToken_173 : decode cX10_nextToken 173 = .ok (.invokevirtual 100, 3) := by decide +kernel
theorem dX10_nextToken_176 : decode cX10_nextToken 176 = .ok (.invokestatic 117, 3) := by decide +kernel
theorem dX10_nextToken_179 : decode cX10_nextToken 179 = .ok (.ifCond .eq 131, 3) := by decide +kernel
theorem dX10_nextToken_182 : decode cX10_nextToken 182 = .ok (.aload_n 0, 1) := by decide +kernel
theorem dX10_nextToken_183 : decode cX10_nextToken 183 = .ok (.aload_n 0, 1) := by decide +kernel
theorem dX10_nextToken_184 : decode cX10_nextToken 184 = .ok (.getfield 120, 3) := by decide +kernel
theorem dX10_nextToken_187 : decode cX10_nextToken 187 = .ok (.bipush 48, 2) := by decide +kernel
theorem dX10_nextToken_189 : decode cX10_nextToken 189 = .ok (.lshr, 1) := by decide +kernel
theorem dX10_nextToken_190 : decode cX10_nextToken 190 = .ok (.lconst 0, 1) := by decide +kernel
theorem dX10_nextToken_191 : decode cX10_nextToken 191 = .ok (.lcmp, 1) := by decide +kernel
theorem dX10_nextToken_192 : decode cX10_nextToken 192 = .ok (.ifCond .eq 9, 3) := by decide +kernel
theorem dX10_nextToken_195 : decode cX10_nextToken 195 = .ok (.ldc2_w 124, 3) := by decide +kernel
theorem dX10_nextToken_198 : decode cX10_nextToken 198 = .ok (.goto 20, 3) := by decide +kernel
theorem dX10_nextToken_201 : decode cX10_nextToken 201 = .ok (.aload_n 0, 1) := by decide +kernel
theorem dX10_nextToken_202 : decode cX10_nextToken 202 = .ok (.getfield 120, 3) := by decide +kernel
theorem dX10_nextToken_205 : decode cX10_nextToken 205 = .ok (.bipush 8, 2) := by decide +kernel
theorem dX10_nextToken_207 : decode cX10_nextToken 207 = .ok (.lshl, 1) := by decide +kernel
theorem dX10_nextToken_208 : decode cX10_nextToken 208 = .ok (.aload_n 0, 1) := by decide +kernel
theorem dX10_nextToken_209 : decode cX10_nextToken 209 = .ok (.aload_n 0, 1) := by decide +kernel
theorem dX10_nextToken_210 : decode cX10_nextToken 210 = .ok (.getfield 97, 3) := by decide +kernel
theorem dX10_nextToken_213 : decode cX10_nextToken 213 = .ok (.invokevirtual 100, 3) := by decide +kernel
theorem dX10_nextToken_216 : decode cX10_nextToken 216 = .ok (.i2l, 1) := by decide +kernel
theorem dX10_nextToken_217 : decode cX10_nextToken 217 = .ok (.lor, 1) := by decide +kernel
theorem dX10_nextToken_218 : decode cX10_nextToken 218 = .ok (.putfield 120, 3) := by decide +kernel
theorem dX10_nextToken_221 : decode cX10_nextToken 221 = .ok (.aload_n 0, 1) := by decide +kernel
theorem dX10_nextToken_222 : decode cX10_nextToken 222 = .ok (.dup, 1) := by decide +kernel
theorem dX10_nextToken_223 : decode cX10_nextToken 223 = .ok (.getfield 97, 3) := by decide +kernel
theorem dX10_nextToken_226 : decode cX10_nextToken 226 = .ok (.iconst 1, 1) := by decide +kernel
theorem dX10_nextToken_227 : decode cX10_nextToken 227 = .ok (.iadd, 1) := by decide +kernel
theorem dX10_nextToken_228 : decode cX10_nextToken 228 = .ok (.putfield 97, 3) := by decide +kernel
theorem dX10_nextToken_231 : decode cX10_nextToken 231 = .ok (.goto (-63), 3) := by decide +kernel
theorem dX10_nextToken_234 : decode cX10_nextToken 234 = .ok (.aload_n 0, 1) := by decide +kernel
theorem dX10_nextToken_235 : decode cX10_nextToken 235 = .ok (.iload_n 1, 1) := by decide +kernel
theorem dX10_nextToken_236 : decode cX10_nextToken 236 = .ok (.invokestatic 126, 3) := by decide +kernel
theorem dX10_nextToken_239 : decode cX10_nextToken 239 = .ok (.ifCond .eq 7, 3) := by decide +kernel
theorem dX10_nextToken_242 : decode cX10_nextToken 242 = .ok (.iload_n 1, 1) := by decide +kernel
theorem dX10_nextToken_243 : decode cX10_nextToken 243 = .ok (.goto 4, 3) := by decide +kernel
theorem dX10_nextToken_246 : decode cX10_nextToken 246 = .ok (.iconst 3, 1) := by decide +kernel
theorem dX10_nextToken_247 : decode cX10_nextToken 247 = .ok (.putfield 107, 3) := by decide +kernel
theorem dX10_nextToken_250 : decode cX10_nextToken 250 = .ok (.aload_n 0, 1) := by decide +kernel
theorem dX10_nextToken_251 : decode cX10_nextToken 251 = .ok (.dup, 1) := by decide +kernel
theorem dX10_nextToken_252 : decode cX10_nextToken 252 = .ok (.getfield 97, 3) := by decide +kernel
theorem dX10_nextToken_255 : decode cX10_nextToken 255 = .ok (.iconst 1, 1) := by decide +kernel
theorem dX10_nextToken_256 : decode cX10_nextToken 256 = .ok (.iadd, 1) := by decide +kernel
theorem dX10_nextToken_257 : decode cX10_nextToken 257 = .ok (.putfield 97, 3) := by decide +kernel
theorem dX10_nextToken_260 : decode cX10_nextToken 260 = .ok (.iload_n 1, 1) := by decide +kernel
theorem dX10_nextToken_261 : decode cX10_nextToken 261 = .ok (.bipush 60, 2) := by decide +kernel
theorem dX10_nextToken_263 : decode cX10_nextToken 263 = .ok (.if_icmp .eq 9, 3) := by decide +kernel
theorem dX10_nextToken_266 : decode cX10_nextToken 266 = .ok (.iload_n 1, 1) := by decide +kernel
theorem dX10_nextToken_267 : decode cX10_nextToken 267 = .ok (.bipush 62, 2) := by decide +kernel
theorem dX10_nextToken_269 : decode cX10_nextToken 269 = .ok (.if_icmp .ne 41, 3) := by decide +kernel
theorem dX10_nextToken_272 : decode cX10_nextToken 272 = .ok (.aload_n 0, 1) := by decide +kernel
theorem dX10_nextToken_273 : decode cX10_nextToken 273 = .ok (.aload_n 0, 1) := by decide +kernel
theorem dX10_nextToken_274 : decode cX10_nextToken 274 = .ok (.getfield 97, 3) := by decide +kernel
theorem dX10_nextToken_277 : decode cX10_nextToken 277 = .ok (.invokevirtual 100, 3) := by decide +kernel
theorem dX10_nextToken_280 : decode cX10_nextToken 280 = .ok (.bipush 61, 2) := by decide +kernel
theorem dX10_nextToken_282 : decode cX10_nextToken 282 = .ok (.if_icmp .ne 28, 3) := by decide +kernel
theorem dX10_nextToken_285 : decode cX10_nextToken 285 = .ok (.aload_n 0, 1) := by decide +kernel
theorem dX10_nextToken_286 : decode cX10_nextToken 286 = .ok (.iload_n 1, 1) := by decide +kernel
theorem dX10_nextToken_287 : decode cX10_nextToken 287 = .ok (.bipush 60, 2) := by decide +kernel
theorem dX10_nextToken_289 : decode cX10_nextToken 289 = .ok (.if_icmp .ne 7, 3) := by decide +kernel
theorem dX10_nextToken_292 : decode cX10_nextToken 292 = .ok (.iconst 4, 1) := by decide +kernel
theorem dX10_nextToken_293 : decode cX10_nextToken 293 = .ok (.goto 4, 3) := by decide +kernel
theorem dX10_nextToken_296 : decode cX10_nextToken 296 = .ok (.iconst 5, 1) := by decide +kernel
theorem dX10_nextToken_297 : decode cX10_nextToken 297 = .ok (.putfield 107, 3) := by decide +kernel
theorem dX10_nextToken_300 : decode cX10_nextToken 300 = .ok (.aload_n 0, 1) := by decide +kernel
theorem dX10_nextToken_301 : decode cX10_nextToken 301 = .ok (.dup, 1) := by decide +kernel
theorem dX10_nextToken_302 : decode cX10_nextToken 302 = .ok (.getfield 97, 3) := by decide +kernel
theorem dX10_nextToken_305 : decode cX10_nextToken 305 = .ok (.iconst 1, 1) := by decide +kernel
theorem dX10_nextToken_306 : decode cX10_nextToken 306 = .ok (.iadd, 1) := by decide +kernel
theorem dX10_nextToken_307 : decode cX10_nextToken 307 = .ok (.putfield 97, 3) := by decide +kernel
theorem dX10_nextToken_310 : decode cX10_nextToken 310 = .ok (.return_, 1) := by decide +kernel
theorem dX10_w2_0 : decode cX10_w2 0 = .ok (.iload_n 0, 1) := by decide +kernel
theorem dX10_w2_1 : decode cX10_w2 1 = .ok (.i2l, 1) := by decide +kernel
theorem dX10_w2_2 : decode cX10_w2 2 = .ok (.bipush 8, 2) := by decide +kernel
theorem dX10_w2_4 : decode cX10_w2 4 = .ok (.lshl, 1) := by decide +kernel
theorem dX10_w2_5 : decode cX10_w2 5 = .ok (.iload_n 1, 1) := by decide +kernel
theorem dX10_w2_6 : decode cX10_w2 6 = .ok (.i2l, 1) := by decide +kernel
theorem dX10_w2_7 : decode cX10_w2 7 = .ok (.lor, 1) := by decide +kernel
theorem dX10_w2_8 : decode cX10_w2 8 = .ok (.lreturn, 1) := by decide +kernel
theorem dX10_w3_0 : decode cX10_w3 0 = .ok (.iload_n 0, 1) := by decide +kernel
theorem dX10_w3_1 : decode cX10_w3 1 = .ok (.iload_n 1, 1) := by decide +kernel
theorem dX10_w3_2 : decode cX10_w3 2 = .ok (.invokestatic 129, 3) := by decide +kernel
theorem dX10_w3_5 : decode cX10_w3 5 = .ok (.bipush 8, 2) := by decide +kernel
theorem dX10_w3_7 : decode cX10_w3 7 = .ok (.lshl, 1) := by decide +kernel
theorem dX10_w3_8 : decode cX10_w3 8 = .ok (.iload_n 2, 1) := by decide +kernel
theorem dX10_w3_9 : decode cX10_w3 9 = .ok (.i2l, 1) := by decide +kernel
theorem dX10_w3_10 : decode cX10_w3 10 = .ok (.lor, 1) := by decide +kernel
theorem dX10_w3_11 : decode cX10_w3 11 = .ok (.lreturn, 1) := by decide +kernel
theorem dX10_w4_0 : decode cX10_w4 0 = .ok (.iload_n 0, 1) := by decide +kernel
theorem dX10_w4_1 : decode cX10_w4 1 = .ok (.iload_n 1, 1) := by decide +kernel
theorem dX10_w4_2 : decode cX10_w4 2 = .ok (.iload_n 2, 1) := by decide +kernel
theorem dX10_w4_3 : decode cX10_w4 3 = .ok (.invokestatic 133, 3) := by decide +kernel
theorem dX10_w4_6 : decode cX10_w4 6 = .ok (.bipush 8, 2) := by decide +kernel
theorem dX10_w4_8 : decode cX10_w4 8 = .ok (.lshl, 1) := by decide +kernel
theorem dX10_w4_9 : decode cX10_w4 9 = .ok (.iload_n 3, 1) := by decide +kernel
theorem dX10_w4_10 : decode cX10_w4 10 = .ok (.i2l, 1) := by decide +kernel
theorem dX10_w4_11 : decode cX10_w4 11 = .ok (.lor, 1) := by decide +kernel
theorem dX10_w4_12 : decode cX10_w4 12 = .ok (.lreturn, 1) := by decide +kernel
theorem dX10_w5_0 : decode cX10_w5 0 = .ok (.iload_n 0, 1) := by decide +kernel
theorem dX10_w5_1 : decode cX10_w5 1 = .ok (.iload_n 1, 1) := by decide +kernel
theorem dX10_w5_2 : decode cX10_w5 2 = .ok (.iload_n 2, 1) := by decide +kernel
theorem dX10_w5_3 : decode cX10_w5 3 = .ok (.iload_n 3, 1) := by decide +kernel
theorem dX10_w5_4 : decode cX10_w5 4 = .ok (.invokestatic 137, 3) := by decide +kernel
theorem dX10_w5_7 : decode cX10_w5 7 = .ok (.bipush 8, 2) := by decide +kernel
theorem dX10_w5_9 : decode cX10_w5 9 = .ok (.lshl, 1) := by decide +kernel
theorem dX10_w5_10 : decode cX10_w5 10 = .ok (.iload 4, 2) := by decide +kernel
theorem dX10_w5_12 : decode cX10_w5 12 = .ok (.i2l, 1) := by decide +kernel
theorem dX10_w5_13 : decode cX10_w5 13 = .ok (.lor, 1) := by decide +kernel
theorem dX10_w5_14 : decode cX10_w5 14 = .ok (.lreturn, 1) := by decide +kernel
theorem dX10_w6_0 : decode cX10_w6 0 = .ok (.iload_n 0, 1) := by decide +kernel
theorem dX10_w6_1 : decode cX10_w6 1 = .ok (.iload_n 1, 1) := by decide +kernel
theorem dX10_w6_2 : decode cX10_w6 2 = .ok (.iload_n 2, 1) := by decide +kernel
theorem dX10_w6_3 : decode cX10_w6 3 = .ok (.iload_n 3, 1) := by decide +kernel
theorem dX10_w6_4 : decode cX10_w6 4 = .ok (.iload 4, 2) := by decide +kernel
theorem dX10_w6_6 : decode cX10_w6 6 = .ok (.invokestatic 141, 3) := by decide +kernel
theorem dX10_w6_9 : decode cX10_w6 9 = .ok (.bipush 8, 2) := by decide +kernel
theorem dX10_w6_11 : decode cX10_w6 11 = .ok (.lshl, 1) := by decide +kernel
theorem dX10_w6_12 : decode cX10_w6 12 = .ok (.iload 5, 2) := by decide +kernel
theorem dX10_w6_14 : decode cX10_w6 14 = .ok (.i2l, 1) := by decide +kernel
theorem dX10_w6_15 : decode cX10_w6 15 = .ok (.lor, 1) := by decide +kernel
theorem dX10_w6_16 : decode cX10_w6 16 = .ok (.lreturn, 1) := by decide +kernel
theorem dX10_isWord_0 : decode cX10_isWord 0 = .ok (.aload_n 0, 1) := by decide +kernel
theorem dX10_isWord_1 : decode cX10_isWord 1 = .ok (.getfield 107, 3) := by decide +kernel
theorem dX10_isWord_4 : decode cX10_isWord 4 = .ok (.iconst 2, 1) := by decide +kernel
theorem dX10_isWord_5 : decode cX10_isWord 5 = .ok (.if_icmp .ne 16, 3) := by decide +kernel
theorem dX10_isWord_8 : decode cX10_isWord 8 = .ok (.aload_n 0, 1) := by decide +kernel
theorem dX10_isWord_9 : decode cX10_isWord 9 = .ok (.getfield 120, 3) := by decide +kernel
theorem dX10_isWord_12 : decode cX10_isWord 12 = .ok (.lload_n 1, 1) := by decide +kernel
theorem dX10_isWord_13 : decode cX10_isWord 13 = .ok (.lcmp, 1) := by decide +kernel
theorem dX10_isWord_14 : decode cX10_isWord 14 = .ok (.ifCond .ne 7, 3) := by decide +kernel
theorem dX10_isWord_17 : decode cX10_isWord 17 = .ok (.iconst 1, 1) := by decide +kernel
theorem dX10_isWord_18 : decode cX10_isWord 18 = .ok (.goto 4, 3) := by decide +kernel
theorem dX10_isWord_21 : decode cX10_isWord 21 = .ok (.iconst 0, 1) := by decide +kernel
theorem dX10_isWord_22 : decode cX10_isWord 22 = .ok (.ireturn, 1) := by decide +kernel
theorem dX10_emit_0 : decode cX10_emit 0 = .ok (.aload_n 0, 1) := by decide +kernel
theorem dX10_emit_1 : decode cX10_emit 1 = .ok (.getfield 16, 3) := by decide +kernel
theorem dX10_emit_4 : decode cX10_emit 4 = .ok (.aload_n 0, 1) := by decide +kernel
theorem dX10_emit_5 : decode cX10_emit 5 = .ok (.getfield 145, 3) := by decide +kernel
theorem dX10_emit_8 : decode cX10_emit 8 = .ok (.bipush 97, 2) := by decide +kernel
theorem dX10_emit_10 : decode cX10_emit 10 = .ok (.iadd, 1) := by decide +kernel
theorem dX10_emit_11 : decode cX10_emit 11 = .ok (.iconst 2, 1) := by decide +kernel
theorem dX10_emit_12 : decode cX10_emit 12 = .ok (.aload_n 0, 1) := by decide +kernel
theorem dX10_emit_13 : decode cX10_emit 13 = .ok (.getfield 148, 3) := by decide +kernel
theorem dX10_emit_16 : decode cX10_emit 16 = .ok (.imul, 1) := by decide +kernel
theorem dX10_emit_17 : decode cX10_emit 17 = .ok (.iadd, 1) := by decide +kernel
theorem dX10_emit_18 : decode cX10_emit 18 = .ok (.iload_n 1, 1) := by decide +kernel
theorem dX10_emit_19 : decode cX10_emit 19 = .ok (.iastore, 1) := by decide +kernel
theorem dX10_emit_20 : decode cX10_emit 20 = .ok (.aload_n 0, 1) := by decide +kernel
theorem dX10_emit_21 : decode cX10_emit 21 = .ok (.getfield 16, 3) := by decide +kernel
theorem dX10_emit_24 : decode cX10_emit 24 = .ok (.aload_n 0, 1) := by decide +kernel
theorem dX10_emit_25 : decode cX10_emit 25 = .ok (.getfield 145, 3) := by decide +kernel
theorem dX10_emit_28 : decode cX10_emit 28 = .ok (.bipush 97, 2) := by decide +kernel
theorem dX10_emit_30 : decode cX10_emit 30 = .ok (.iadd, 1) := by decide +kernel
theorem dX10_emit_31 : decode cX10_emit 31 = .ok (.iconst 2, 1) := by decide +kernel
theorem dX10_emit_32 : decode cX10_emit 32 = .ok (.aload_n 0, 1) := by decide +kernel
theorem dX10_emit_33 : decode cX10_emit 33 = .ok (.getfield 148, 3) := by decide +kernel
theorem dX10_emit_36 : decode cX10_emit 36 = .ok (.imul, 1) := by decide +kernel
theorem dX10_emit_37 : decode cX10_emit 37 = .ok (.iadd, 1) := by decide +kernel
theorem dX10_emit_38 : decode cX10_emit 38 = .ok (.iconst 1, 1) := by decide +kernel
theorem dX10_emit_39 : decode cX10_emit 39 = .ok (.iadd, 1) := by decide +kernel
theorem dX10_emit_40 : decode cX10_emit 40 = .ok (.iload_n 2, 1) := by decide +kernel
theorem dX10_emit_41 : decode cX10_emit 41 = .ok (.iastore, 1) := by decide +kernel
theorem dX10_emit_42 : decode cX10_emit 42 = .ok (.aload_n 0, 1) := by decide +kernel
theorem dX10_emit_43 : decode cX10_emit 43 = .ok (.dup, 1) := by decide +kernel
theorem dX10_emit_44 : decode cX10_emit 44 = .ok (.getfield 148, 3) := by decide +kernel
theorem dX10_emit_47 : decode cX10_emit 47 = .ok (.iconst 1, 1) := by decide +kernel
theorem dX10_emit_48 : decode cX10_emit 48 = .ok (.iadd, 1) := by decide +kernel
theorem dX10_emit_49 : decode cX10_emit 49 = .ok (.putfield 148, 3) := by decide +kernel
theorem dX10_emit_52 : decode cX10_emit 52 = .ok (.return_, 1) := by decide +kernel
theorem dX10_isLong_0 : decode cX10_isLong 0 = .ok (.aload_n 0, 1) := by decide +kernel
theorem dX10_isLong_1 : decode cX10_isLong 1 = .ok (.getfield 107, 3) := by decide +kernel
theorem dX10_isLong_4 : decode cX10_isLong 4 = .ok (.iconst 2, 1) := by decide +kernel
theorem dX10_isLong_5 : decode cX10_isLong 5 = .ok (.if_icmp .ne 19, 3) := by decide +kernel
theorem dX10_isLong_8 : decode cX10_isLong 8 = .ok (.aload_n 0, 1) := by decide +kernel
theorem dX10_isLong_9 : decode cX10_isLong 9 = .ok (.getfield 97, 3) := by decide +kernel
theorem dX10_isLong_12 : decode cX10_isLong 12 = .ok (.aload_n 0, 1) := by decide +kernel
theorem dX10_isLong_13 : decode cX10_isLong 13 = .ok (.getfield 104, 3) := by decide +kernel
theorem dX10_isLong_16 : decode cX10_isLong 16 = .ok (.isub, 1) := by decide +kernel
theorem dX10_isLong_17 : decode cX10_isLong 17 = .ok (.iconst 4, 1) := by decide +kernel
theorem dX10_isLong_18 : decode cX10_isLong 18 = .ok (.iload 5, 2) := by decide +kernel
theorem dX10_isLong_20 : decode cX10_isLong 20 = .ok (.iadd, 1) := by decide +kernel
theorem dX10_isLong_21 : decode cX10_isLong 21 = .ok (.if_icmp .eq 5, 3) := by decide +kernel
theorem dX10_isLong_24 : decode cX10_isLong 24 = .ok (.iconst 0, 1) := by decide +kernel
theorem dX10_isLong_25 : decode cX10_isLong 25 = .ok (.ireturn, 1) := by decide +kernel
theorem dX10_isLong_26 : decode cX10_isLong 26 = .ok (.iload 5, 2) := by decide +kernel
theorem dX10_isLong_28 : decode cX10_isLong 28 = .ok (.iconst 3, 1) := by decide +kernel
theorem dX10_isLong_29 : decode cX10_isLong 29 = .ok (.if_icmp .ne 40, 3) := by decide +kernel
theorem dX10_isLong_32 : decode cX10_isLong 32 = .ok (.aload_n 0, 1) := by decide +kernel
theorem dX10_isLong_33 : decode cX10_isLong 33 = .ok (.aload_n 0, 1) := by decide +kernel
theorem dX10_isLong_34 : decode cX10_isLong 34 = .ok (.getfield 104, 3) := by decide +kernel
theorem dX10_isLong_37 : decode cX10_isLong 37 = .ok (.iconst 4, 1) := by decide +kernel
theorem dX10_isLong_38 : decode cX10_isLong 38 = .ok (.iadd, 1) := by decide +kernel
theorem dX10_isLong_39 : decode cX10_isLong 39 = .ok (.invokevirtual 100, 3) := by decide +kernel
theorem dX10_isLong_42 : decode cX10_isLong 42 = .ok (.aload_n 0, 1) := by decide +kernel
theorem dX10_isLong_43 : decode cX10_isLong 43 = .ok (.aload_n 0, 1) := by decide +kernel
theorem dX10_isLong_44 : decode cX10_isLong 44 = .ok (.getfield 104, 3) := by decide +kernel
theorem dX10_isLong_47 : decode cX10_isLong 47 = .ok (.iconst 5, 1) := by decide +kernel
theorem dX10_isLong_48 : decode cX10_isLong 48 = .ok (.iadd, 1) := by decide +kernel
theorem dX10_isLong_49 : decode cX10_isLong 49 = .ok (.invokevirtual 100, 3) := by decide +kernel
theorem dX10_isLong_52 : decode cX10_isLong 52 = .ok (.aload_n 0, 1) := by decide +kernel
theorem dX10_isLong_53 : decode cX10_isLong 53 = .ok (.aload_n 0, 1) := by decide +kernel
theorem dX10_isLong_54 : decode cX10_isLong 54 = .ok (.getfield 104, 3) := by decide +kernel
theorem dX10_isLong_57 : decode cX10_isLong 57 = .ok (.bipush 6, 2) := by decide +kernel
theorem dX10_isLong_59 : decode cX10_isLong 59 = .ok (.iadd, 1) := by decide +kernel
theorem dX10_isLong_60 : decode cX10_isLong 60 = .ok (.invokevirtual 100, 3) := by decide +kernel
theorem dX10_isLong_63 : decode cX10_isLong 63 = .ok (.invokestatic 133, 3) := by decide +kernel
theorem dX10_isLong_66 : decode cX10_isLong 66 = .ok (.goto 48, 3) := by decide +kernel
theorem dX10_isLong_69 : decode cX10_isLong 69 = .ok (.aload_n 0, 1) := by decide +kernel
theorem dX10_isLong_70 : decode cX10_isLong 70 = .ok (.aload_n 0, 1) := by decide +kernel
theorem dX10_isLong_71 : decode cX10_isLong 71 = .ok (.getfield 104, 3) := by decide +kernel
theorem dX10_isLong_74 : decode cX10_isLong 74 = .ok (.iconst 4, 1) := by decide +kernel
theorem dX10_isLong_75 : decode cX10_isLong 75 = .ok (.iadd, 1) := by decide +kernel
theorem dX10_isLong_76 : decode cX10_isLong 76 = .ok (.invokevirtual 100, 3) := by decide +kernel
theorem dX10_isLong_79 : decode cX10_isLong 79 = .ok (.aload_n 0, 1) := by decide +kernel
theorem dX10_isLong_80 : decode cX10_isLong 80 = .ok (.aload_n 0, 1) := by decide +kernel
theorem dX10_isLong_81 : decode cX10_isLong 81 = .ok (.getfield 104, 3) := by decide +kernel
theorem dX10_isLong_84 : decode cX10_isLong 84 = .ok (.iconst 5, 1) := by decide +kernel
theorem dX10_isLong_85 : decode cX10_isLong 85 = .ok (.iadd, 1) := by decide +kernel
theorem dX10_isLong_86 : decode cX10_isLong 86 = .ok (.invokevirtual 100, 3) := by decide +kernel
theorem dX10_isLong_89 : decode cX10_isLong 89 = .ok (.aload_n 0, 1) := by decide +kernel
theorem dX10_isLong_90 : decode cX10_isLong 90 = .ok (.aload_n 0, 1) := by decide +kernel
theorem dX10_isLong_91 : decode cX10_isLong 91 = .ok (.getfield 104, 3) := by decide +kernel
theorem dX10_isLong_94 : decode cX10_isLong 94 = .ok (.bipush 6, 2) := by decide +kernel
theorem dX10_isLong_96 : decode cX10_isLong 96 = .ok (.iadd, 1) := by decide +kernel
theorem dX10_isLong_97 : decode cX10_isLong 97 = .ok (.invokevirtual 100, 3) := by decide +kernel
theorem dX10_isLong_100 : decode cX10_isLong 100 = .ok (.aload_n 0, 1) := by decide +kernel
theorem dX10_isLong_101 : decode cX10_isLong 101 = .ok (.aload_n 0, 1) := by decide +kernel
theorem dX10_isLong_102 : decode cX10_isLong 102 = .ok (.getfield 104, 3) := by decide +kernel
theorem dX10_isLong_105 : decode cX10_isLong 105 = .ok (.bipush 7, 2) := by decide +kernel
theorem dX10_isLong_107 : decode cX10_isLong 107 = .ok (.iadd, 1) := by decide +kernel
theorem dX10_isLong_108 : decode cX10_isLong 108 = .ok (.invokevirtual 100, 3) := by decide +kernel
theorem dX10_isLong_111 : decode cX10_isLong 111 = .ok (.invokestatic 137, 3) := by decide +kernel
theorem dX10_isLong_114 : decode cX10_isLong 114 = .ok (.lstore 6, 2) := by decide +kernel
theorem dX10_isLong_116 : decode cX10_isLong 116 = .ok (.aload_n 0, 1) := by decide +kernel
theorem dX10_isLong_117 : decode cX10_isLong 117 = .ok (.aload_n 0, 1) := by decide +kernel
theorem dX10_isLong_118 : decode cX10_isLong 118 = .ok (.getfield 104, 3) := by decide +kernel
theorem dX10_isLong_121 : decode cX10_isLong 121 = .ok (.invokevirtual 100, 3) := by decide +kernel
theorem dX10_isLong_124 : decode cX10_isLong 124 = .ok (.aload_n 0, 1) := by decide +kernel
theorem dX10_isLong_125 : decode cX10_isLong 125 = .ok (.aload_n 0, 1) := by decide +kernel
theorem dX10_isLong_126 : decode cX10_isLong 126 = .ok (.getfield 104, 3) := by decide +kernel
theorem dX10_isLong_129 : decode cX10_isLong 129 = .ok (.iconst 1, 1) := by decide +kernel
theorem dX10_isLong_130 : decode cX10_isLong 130 = .ok (.iadd, 1) := by decide +kernel
theorem dX10_isLong_131 : decode cX10_isLong 131 = .ok (.invokevirtual 100, 3) := by decide +kernel
theorem dX10_isLong_134 : decode cX10_isLong 134 = .ok (.aload_n 0, 1) := by decide +kernel
theorem dX10_isLong_135 : decode cX10_isLong 135 = .ok (.aload_n 0, 1) := by decide +kernel
theorem dX10_isLong_136 : decode cX10_isLong 136 = .ok (.getfield 104, 3) := by decide +kernel
theorem dX10_isLong_139 : decode cX10_isLong 139 = .ok (.iconst 2, 1) := by decide +kernel
theorem dX10_isLong_140 : decode cX10_isLong 140 = .ok (.iadd, 1) := by decide +kernel
theorem dX10_isLong_141 : decode cX10_isLong 141 = .ok (.invokevirtual 100, 3) := by decide +kernel
theorem dX10_isLong_144 : decode cX10_isLong 144 = .ok (.aload_n 0, 1) := by decide +kernel
theorem dX10_isLong_145 : decode cX10_isLong 145 = .ok (.aload_n 0, 1) := by decide +kernel
theorem dX10_isLong_146 : decode cX10_isLong 146 = .ok (.getfield 104, 3) := by decide +kernel
theorem dX10_isLong_149 : decode cX10_isLong 149 = .ok (.iconst 3, 1) := by decide +kernel
theorem dX10_isLong_150 : decode cX10_isLong 150 = .ok (.iadd, 1) := by decide +kernel
theorem dX10_isLong_151 : decode cX10_isLong 151 = .ok (.invokevirtual 100, 3) := by decide +kernel
theorem dX10_isLong_154 : decode cX10_isLong 154 = .ok (.invokestatic 137, 3) := by decide +kernel
theorem dX10_isLong_157 : decode cX10_isLong 157 = .ok (.lload_n 1, 1) := by decide +kernel
theorem dX10_isLong_158 : decode cX10_isLong 158 = .ok (.lcmp, 1) := by decide +kernel
theorem dX10_isLong_159 : decode cX10_isLong 159 = .ok (.ifCond .ne 14, 3) := by decide +kernel
theorem dX10_isLong_162 : decode cX10_isLong 162 = .ok (.lload 6, 2) := by decide +kernel
theorem dX10_isLong_164 : decode cX10_isLong 164 = .ok (.lload_n 3, 1) := by decide +kernel
theorem dX10_isLong_165 : decode cX10_isLong 165 = .ok (.lcmp, 1) := by decide +kernel
theorem dX10_isLong_166 : decode cX10_isLong 166 = .ok (.ifCond .ne 7, 3) := by decide +kernel
theorem dX10_isLong_169 : decode cX10_isLong 169 = .ok (.iconst 1, 1) := by decide +kernel
theorem dX10_isLong_170 : decode cX10_isLong 170 = .ok (.goto 4, 3) := by decide +kernel
theorem dX10_isLong_173 : decode cX10_isLong 173 = .ok (.iconst 0, 1) := by decide +kernel
theorem dX10_isLong_174 : decode cX10_isLong 174 = .ok (.ireturn, 1) := by decide +kernel
theorem dX10_isGravity_0 : decode cX10_isGravity 0 = .ok (.aload_n 0, 1) := by decide +kernel
theorem dX10_isGravity_1 : decode cX10_isGravity 1 = .ok (.bipush 103, 2) := by decide +kernel
theorem dX10_isGravity_3 : decode cX10_isGravity 3 = .ok (.bipush 114, 2) := by decide +kernel
theorem dX10_isGravity_5 : decode cX10_isGravity 5 = .ok (.bipush 97, 2) := by decide +kernel
theorem dX10_isGravity_7 : decode cX10_isGravity 7 = .ok (.bipush 118, 2) := by decide +kernel
theorem dX10_isGravity_9 : decode cX10_isGravity 9 = .ok (.invokestatic 137, 3) := by decide +kernel
theorem dX10_isGravity_12 : decode cX10_isGravity 12 = .ok (.bipush 105, 2) := by decide +kernel
theorem dX10_isGravity_14 : decode cX10_isGravity 14 = .ok (.bipush 116, 2) := by decide +kernel
theorem dX10_isGravity_16 : decode cX10_isGravity 16 = .ok (.bipush 121, 2) := by decide +kernel
theorem dX10_isGravity_18 : decode cX10_isGravity 18 = .ok (.invokestatic 133, 3) := by decide +kernel
theorem dX10_isGravity_21 : decode cX10_isGravity 21 = .ok (.iconst 3, 1) := by decide +kernel
theorem dX10_isGravity_22 : decode cX10_isGravity 22 = .ok (.invokevirtual 151, 3) := by decide +kernel
theorem dX10_isGravity_25 : decode cX10_isGravity 25 = .ok (.ireturn, 1) := by decide +kernel
theorem dX10_isQuarter_0 : decode cX10_isQuarter 0 = .ok (.aload_n 0, 1) := by decide +kernel
theorem dX10_isQuarter_1 : decode cX10_isQuarter 1 = .ok (.bipush 113, 2) := by decide +kernel
theorem dX10_isQuarter_3 : decode cX10_isQuarter 3 = .ok (.bipush 117, 2) := by decide +kernel
theorem dX10_isQuarter_5 : decode cX10_isQuarter 5 = .ok (.bipush 97, 2) := by decide +kernel
theorem dX10_isQuarter_7 : decode cX10_isQuarter 7 = .ok (.bipush 114, 2) := by decide +kernel
theorem dX10_isQuarter_9 : decode cX10_isQuarter 9 = .ok (.invokestatic 137, 3) := by decide +kernel
theorem dX10_isQuarter_12 : decode cX10_isQuarter 12 = .ok (.bipush 116, 2) := by decide +kernel
theorem dX10_isQuarter_14 : decode cX10_isQuarter 14 = .ok (.bipush 101, 2) := by decide +kernel
theorem dX10_isQuarter_16 : decode cX10_isQuarter 16 = .ok (.bipush 114, 2) := by decide +kernel
theorem dX10_isQuarter_18 : decode cX10_isQuarter 18 = .ok (.invokestatic 133, 3) := by decide +kernel
theorem dX10_isQuarter_21 : decode cX10_isQuarter 21 = .ok (.iconst 3, 1) := by decide +kernel
theorem dX10_isQuarter_22 : decode cX10_isQuarter 22 = .ok (.invokevirtual 151, 3) := by decide +kernel
theorem dX10_isQuarter_25 : decode cX10_isQuarter 25 = .ok (.ireturn, 1) := by decide +kernel
theorem dX10_isSentence_0 : decode cX10_isSentence 0 = .ok (.aload_n 0, 1) := by decide +kernel
theorem dX10_isSentence_1 : decode cX10_isSentence 1 = .ok (.bipush 115, 2) := by decide +kernel
theorem dX10_isSentence_3 : decode cX10_isSentence 3 = .ok (.bipush 101, 2) := by decide +kernel
theorem dX10_isSentence_5 : decode cX10_isSentence 5 = .ok (.bipush 110, 2) := by decide +kernel
theorem dX10_isSentence_7 : decode cX10_isSentence 7 = .ok (.bipush 116, 2) := by decide +kernel
theorem dX10_isSentence_9 : decode cX10_isSentence 9 = .ok (.invokestatic 137, 3) := by decide +kernel
theorem dX10_isSentence_12 : decode cX10_isSentence 12 = .ok (.bipush 101, 2) := by decide +kernel
theorem dX10_isSentence_14 : decode cX10_isSentence 14 = .ok (.bipush 110, 2) := by decide +kernel
theorem dX10_isSentence_16 : decode cX10_isSentence 16 = .ok (.bipush 99, 2) := by decide +kernel
theorem dX10_isSentence_18 : decode cX10_isSentence 18 = .ok (.bipush 101, 2) := by decide +kernel
theorem dX10_isSentence_20 : decode cX10_isSentence 20 = .ok (.invokestatic 137, 3) := by decide +kernel
theorem dX10_isSentence_23 : decode cX10_isSentence 23 = .ok (.iconst 4, 1) := by decide +kernel
theorem dX10_isSentence_24 : decode cX10_isSentence 24 = .ok (.invokevirtual 151, 3) := by decide +kernel
theorem dX10_isSentence_27 : decode cX10_isSentence 27 = .ok (.ireturn, 1) := by decide +kernel
theorem dX10_isWithdraw_0 : decode cX10_isWithdraw 0 = .ok (.aload_n 0, 1) := by decide +kernel
theorem dX10_isWithdraw_1 : decode cX10_isWithdraw 1 = .ok (.bipush 119, 2) := by decide +kernel
theorem dX10_isWithdraw_3 : decode cX10_isWithdraw 3 = .ok (.bipush 105, 2) := by decide +kernel
theorem dX10_isWithdraw_5 : decode cX10_isWithdraw 5 = .ok (.bipush 116, 2) := by decide +kernel
theorem dX10_isWithdraw_7 : decode cX10_isWithdraw 7 = .ok (.bipush 104, 2) := by decide +kernel
theorem dX10_isWithdraw_9 : decode cX10_isWithdraw 9 = .ok (.invokestatic 137, 3) := by decide +kernel
theorem dX10_isWithdraw_12 : decode cX10_isWithdraw 12 = .ok (.bipush 100, 2) := by decide +kernel
theorem dX10_isWithdraw_14 : decode cX10_isWithdraw 14 = .ok (.bipush 114, 2) := by decide +kernel
theorem dX10_isWithdraw_16 : decode cX10_isWithdraw 16 = .ok (.bipush 97, 2) := by decide +kernel
theorem dX10_isWithdraw_18 : decode cX10_isWithdraw 18 = .ok (.bipush 119, 2) := by decide +kernel
theorem dX10_isWithdraw_20 : decode cX10_isWithdraw 20 = .ok (.invokestatic 137, 3) := by decide +kernel
theorem dX10_isWithdraw_23 : decode cX10_isWithdraw 23 = .ok (.iconst 4, 1) := by decide +kernel
theorem dX10_isWithdraw_24 : decode cX10_isWithdraw 24 = .ok (.invokevirtual 151, 3) := by decide +kernel
theorem dX10_isWithdraw_27 : decode cX10_isWithdraw 27 = .ok (.ireturn, 1) := by decide +kernel
theorem dX10_nameOf_0 : decode cX10_nameOf 0 = .ok (.aload_n 0, 1) := by decide +kernel
theorem dX10_nameOf_1 : decode cX10_nameOf 1 = .ok (.getfield 107, 3) := by decide +kernel
theorem dX10_nameOf_4 : decode cX10_nameOf 4 = .ok (.iconst 2, 1) := by decide +kernel
theorem dX10_nameOf_5 : decode cX10_nameOf 5 = .ok (.if_icmp .eq 5, 3) := by decide +kernel
theorem dX10_nameOf_8 : decode cX10_nameOf 8 = .ok (.iconst (-1), 1) := by decide +kernel
theorem dX10_nameOf_9 : decode cX10_nameOf 9 = .ok (.ireturn, 1) := by decide +kernel
theorem dX10_nameOf_10 : decode cX10_nameOf 10 = .ok (.aload_n 0, 1) := by decide +kernel
theorem dX10_nameOf_11 : decode cX10_nameOf 11 = .ok (.getfield 120, 3) := by decide +kernel
theorem dX10_nameOf_14 : decode cX10_nameOf 14 = .ok (.bipush 104, 2) := by decide +kernel
theorem dX10_nameOf_16 : decode cX10_nameOf 16 = .ok (.bipush 111, 2) := by decide +kernel
theorem dX10_nameOf_18 : decode cX10_nameOf 18 = .ok (.bipush 117, 2) := by decide +kernel
theorem dX10_nameOf_20 : decode cX10_nameOf 20 = .ok (.bipush 114, 2) := by decide +kernel
theorem dX10_nameOf_22 : decode cX10_nameOf 22 = .ok (.invokestatic 137, 3) := by decide +kernel
theorem dX10_nameOf_25 : decode cX10_nameOf 25 = .ok (.lcmp, 1) := by decide +kernel
theorem dX10_nameOf_26 : decode cX10_nameOf 26 = .ok (.ifCond .ne 5, 3) := by decide +kernel
theorem dX10_nameOf_29 : decode cX10_nameOf 29 = .ok (.iconst 0, 1) := by decide +kernel
theorem dX10_nameOf_30 : decode cX10_nameOf 30 = .ok (.ireturn, 1) := by decide +kernel
theorem dX10_nameOf_31 : decode cX10_nameOf 31 = .ok (.aload_n 0, 1) := by decide +kernel
theorem dX10_nameOf_32 : decode cX10_nameOf 32 = .ok (.invokevirtual 155, 3) := by decide +kernel
theorem dX10_nameOf_35 : decode cX10_nameOf 35 = .ok (.ifCond .eq 5, 3) := by decide +kernel
theorem dX10_nameOf_38 : decode cX10_nameOf 38 = .ok (.iconst 1, 1) := by decide +kernel
theorem dX10_nameOf_39 : decode cX10_nameOf 39 = .ok (.ireturn, 1) := by decide +kernel
theorem dX10_nameOf_40 : decode cX10_nameOf 40 = .ok (.aload_n 0, 1) := by decide +kernel
theorem dX10_nameOf_41 : decode cX10_nameOf 41 = .ok (.getfield 120, 3) := by decide +kernel
theorem dX10_nameOf_44 : decode cX10_nameOf 44 = .ok (.bipush 102, 2) := by decide +kernel
theorem dX10_nameOf_46 : decode cX10_nameOf 46 = .ok (.bipush 111, 2) := by decide +kernel
theorem dX10_nameOf_48 : decode cX10_nameOf 48 = .ok (.bipush 114, 2) := by decide +kernel
theorem dX10_nameOf_50 : decode cX10_nameOf 50 = .ok (.bipush 99, 2) := by decide +kernel
theorem dX10_nameOf_52 : decode cX10_nameOf 52 = .ok (.bipush 101, 2) := by decide +kernel
theorem dX10_nameOf_54 : decode cX10_nameOf 54 = .ok (.invokestatic 141, 3) := by decide +kernel
theorem dX10_nameOf_57 : decode cX10_nameOf 57 = .ok (.lcmp, 1) := by decide +kernel
theorem dX10_nameOf_58 : decode cX10_nameOf 58 = .ok (.ifCond .ne 5, 3) := by decide +kernel
theorem dX10_nameOf_61 : decode cX10_nameOf 61 = .ok (.iconst 2, 1) := by decide +kernel
theorem dX10_nameOf_62 : decode cX10_nameOf 62 = .ok (.ireturn, 1) := by decide +kernel
theorem dX10_nameOf_63 : decode cX10_nameOf 63 = .ok (.aload_n 0, 1) := by decide +kernel
theorem dX10_nameOf_64 : decode cX10_nameOf 64 = .ok (.getfield 120, 3) := by decide +kernel
theorem dX10_nameOf_67 : decode cX10_nameOf 67 = .ok (.bipush 100, 2) := by decide +kernel
theorem dX10_nameOf_69 : decode cX10_nameOf 69 = .ok (.bipush 114, 2) := by decide +kernel
theorem dX10_nameOf_71 : decode cX10_nameOf 71 = .ok (.bipush 97, 2) := by decide +kernel
theorem dX10_nameOf_73 : decode cX10_nameOf 73 = .ok (.bipush 119, 2) := by decide +kernel
theorem dX10_nameOf_75 : decode cX10_nameOf 75 = .ok (.invokestatic 137, 3) := by decide +kernel
theorem dX10_nameOf_78 : decode cX10_nameOf 78 = .ok (.lcmp, 1) := by decide +kernel
theorem dX10_nameOf_79 : decode cX10_nameOf 79 = .ok (.ifCond .ne 5, 3) := by decide +kernel
theorem dX10_nameOf_82 : decode cX10_nameOf 82 = .ok (.iconst 3, 1) := by decide +kernel
theorem dX10_nameOf_83 : decode cX10_nameOf 83 = .ok (.ireturn, 1) := by decide +kernel
theorem dX10_nameOf_84 : decode cX10_nameOf 84 = .ok (.aload_n 0, 1) := by decide +kernel
theorem dX10_nameOf_85 : decode cX10_nameOf 85 = .ok (.getfield 120, 3) := by decide +kernel
theorem dX10_nameOf_88 : decode cX10_nameOf 88 = .ok (.bipush 107, 2) := by decide +kernel
theorem dX10_nameOf_90 : decode cX10_nameOf 90 = .ok (.bipush 105, 2) := by decide +kernel
theorem dX10_nameOf_92 : decode cX10_nameOf 92 = .ok (.bipush 110, 2) := by decide +kernel
theorem dX10_nameOf_94 : decode cX10_nameOf 94 = .ok (.bipush 100, 2) := by decide +kernel
theorem dX10_nameOf_96 : decode cX10_nameOf 96 = .ok (.invokestatic 137, 3) := by decide +kernel
theorem dX10_nameOf_99 : decode cX10_nameOf 99 = .ok (.lcmp, 1) := by decide +kernel
theorem dX10_nameOf_100 : decode cX10_nameOf 100 = .ok (.ifCond .ne 5, 3) := by decide +kernel
theorem dX10_nameOf_103 : decode cX10_nameOf 103 = .ok (.iconst 4, 1) := by decide +kernel
theorem dX10_nameOf_104 : decode cX10_nameOf 104 = .ok (.ireturn, 1) := by decide +kernel
theorem dX10_nameOf_105 : decode cX10_nameOf 105 = .ok (.aload_n 0, 1) := by decide +kernel
theorem dX10_nameOf_106 : decode cX10_nameOf 106 = .ok (.invokevirtual 159, 3) := by decide +kernel
theorem dX10_nameOf_109 : decode cX10_nameOf 109 = .ok (.ifCond .eq 5, 3) := by decide +kernel
theorem dX10_nameOf_112 : decode cX10_nameOf 112 = .ok (.iconst 5, 1) := by decide +kernel
theorem dX10_nameOf_113 : decode cX10_nameOf 113 = .ok (.ireturn, 1) := by decide +kernel
theorem dX10_nameOf_114 : decode cX10_nameOf 114 = .ok (.aload_n 0, 1) := by decide +kernel
theorem dX10_nameOf_115 : decode cX10_nameOf 115 = .ok (.getfield 120, 3) := by decide +kernel
theorem dX10_nameOf_118 : decode cX10_nameOf 118 = .ok (.bipush 104, 2) := by decide +kernel
theorem dX10_nameOf_120 : decode cX10_nameOf 120 = .ok (.bipush 111, 2) := by decide +kernel
theorem dX10_nameOf_122 : decode cX10_nameOf 122 = .ok (.bipush 117, 2) := by decide +kernel
theorem dX10_nameOf_124 : decode cX10_nameOf 124 = .ok (.bipush 114, 2) := by decide +kernel
theorem dX10_nameOf_126 : decode cX10_nameOf 126 = .ok (.bipush 115, 2) := by decide +kernel
theorem dX10_nameOf_128 : decode cX10_nameOf 128 = .ok (.invokestatic 141, 3) := by decide +kernel
theorem dX10_nameOf_131 : decode cX10_nameOf 131 = .ok (.lcmp, 1) := by decide +kernel
theorem dX10_nameOf_132 : decode cX10_nameOf 132 = .ok (.ifCond .ne 8, 3) := by decide +kernel
theorem dX10_nameOf_135 : decode cX10_nameOf 135 = .ok (.bipush 6, 2) := by decide +kernel
theorem dX10_nameOf_137 : decode cX10_nameOf 137 = .ok (.goto 28, 3) := by decide +kernel
theorem dX10_nameOf_140 : decode cX10_nameOf 140 = .ok (.aload_n 0, 1) := by decide +kernel
theorem dX10_nameOf_141 : decode cX10_nameOf 141 = .ok (.getfield 120, 3) := by decide +kernel
theorem dX10_nameOf_144 : decode cX10_nameOf 144 = .ok (.bipush 108, 2) := by decide +kernel
theorem dX10_nameOf_146 : decode cX10_nameOf 146 = .ok (.bipush 97, 2) := by decide +kernel
theorem dX10_nameOf_148 : decode cX10_nameOf 148 = .ok (.bipush 119, 2) := by decide +kernel
theorem dX10_nameOf_150 : decode cX10_nameOf 150 = .ok (.bipush 115, 2) := by decide +kernel
theorem dX10_nameOf_152 : decode cX10_nameOf 152 = .ok (.invokestatic 137, 3) := by decide +kernel
theorem dX10_nameOf_155 : decode cX10_nameOf 155 = .ok (.lcmp, 1) := by decide +kernel
theorem dX10_nameOf_156 : decode cX10_nameOf 156 = .ok (.ifCond .ne 8, 3) := by decide +kernel
theorem dX10_nameOf_159 : decode cX10_nameOf 159 = .ok (.bipush 7, 2) := by decide +kernel
theorem dX10_nameOf_161 : decode cX10_nameOf 161 = .ok (.goto 4, 3) := by decide +kernel
theorem dX10_nameOf_164 : decode cX10_nameOf 164 = .ok (.iconst (-1), 1) := by decide +kernel
theorem dX10_nameOf_165 : decode cX10_nameOf 165 = .ok (.ireturn, 1) := by decide +kernel
theorem dX10_isOf_0 : decode cX10_isOf 0 = .ok (.iload_n 1, 1) := by decide +kernel
theorem dX10_isOf_1 : decode cX10_isOf 1 = .ok (.iconst 3, 1) := by decide +kernel
theorem dX10_isOf_2 : decode cX10_isOf 2 = .ok (.if_icmp .ge 5, 3) := by decide +kernel
theorem dX10_isOf_5 : decode cX10_isOf 5 = .ok (.iconst 1, 1) := by decide +kernel
theorem dX10_isOf_6 : decode cX10_isOf 6 = .ok (.ireturn, 1) := by decide +kernel
theorem dX10_isOf_7 : decode cX10_isOf 7 = .ok (.iload_n 1, 1) := by decide +kernel
theorem dX10_isOf_8 : decode cX10_isOf 8 = .ok (.iconst 3, 1) := by decide +kernel
theorem dX10_isOf_9 : decode cX10_isOf 9 = .ok (.if_icmp .ne 17, 3) := by decide +kernel
theorem dX10_isOf_12 : decode cX10_isOf 12 = .ok (.aload_n 0, 1) := by decide +kernel
theorem dX10_isOf_13 : decode cX10_isOf 13 = .ok (.getfield 162, 3) := by decide +kernel
theorem dX10_isOf_16 : decode cX10_isOf 16 = .ok (.iconst 2, 1) := by decide +kernel
theorem dX10_isOf_17 : decode cX10_isOf 17 = .ok (.if_icmp .gt 7, 3) := by decide +kernel
theorem dX10_isOf_20 : decode cX10_isOf 20 = .ok (.iconst 1, 1) := by decide +kernel
theorem dX10_isOf_21 : decode cX10_isOf 21 = .ok (.goto 4, 3) := by decide +kernel
theorem dX10_isOf_24 : decode cX10_isOf 24 = .ok (.iconst 0, 1) := by decide +kernel
theorem dX10_isOf_25 : decode cX10_isOf 25 = .ok (.ireturn, 1) := by decide +kernel
theorem dX10_isOf_26 : decode cX10_isOf 26 = .ok (.iload_n 1, 1) := by decide +kernel
theorem dX10_isOf_27 : decode cX10_isOf 27 = .ok (.bipush 7, 2) := by decide +kernel
theorem dX10_isOf_29 : decode cX10_isOf 29 = .ok (.if_icmp .ge 19, 3) := by decide +kernel
theorem dX10_isOf_32 : decode cX10_isOf 32 = .ok (.aload_n 0, 1) := by decide +kernel
theorem dX10_isOf_33 : decode cX10_isOf 33 = .ok (.getfield 162, 3) := by decide +kernel
theorem dX10_isOf_36 : decode cX10_isOf 36 = .ok (.iconst 3, 1) := by decide +kernel
theorem dX10_isOf_37 : decode cX10_isOf 37 = .ok (.if_icmp .lt 7, 3) := by decide +kernel
theorem dX10_isOf_40 : decode cX10_isOf 40 = .ok (.iconst 1, 1) := by decide +kernel
theorem dX10_isOf_41 : decode cX10_isOf 41 = .ok (.goto 20, 3) := by decide +kernel
theorem dX10_isOf_44 : decode cX10_isOf 44 = .ok (.iconst 0, 1) := by decide +kernel
theorem dX10_isOf_45 : decode cX10_isOf 45 = .ok (.goto 16, 3) := by decide +kernel
theorem dX10_isOf_48 : decode cX10_isOf 48 = .ok (.aload_n 0, 1) := by decide +kernel
theorem dX10_isOf_49 : decode cX10_isOf 49 = .ok (.getfield 162, 3) := by decide +kernel
theorem dX10_isOf_52 : decode cX10_isOf 52 = .ok (.iconst 3, 1) := by decide +kernel
theorem dX10_isOf_53 : decode cX10_isOf 53 = .ok (.if_icmp .ne 7, 3) := by decide +kernel
theorem dX10_isOf_56 : decode cX10_isOf 56 = .ok (.iconst 1, 1) := by decide +kernel
theorem dX10_isOf_57 : decode cX10_isOf 57 = .ok (.goto 4, 3) := by decide +kernel
theorem dX10_isOf_60 : decode cX10_isOf 60 = .ok (.iconst 0, 1) := by decide +kernel
theorem dX10_isOf_61 : decode cX10_isOf 61 = .ok (.ireturn, 1) := by decide +kernel
theorem dX10_rank_0 : decode cX10_rank 0 = .ok (.iload_n 0, 1) := by decide +kernel
theorem dX10_rank_1 : decode cX10_rank 1 = .ok (.bipush 40, 2) := by decide +kernel
theorem dX10_rank_3 : decode cX10_rank 3 = .ok (.if_icmp .lt 7, 3) := by decide +kernel
theorem dX10_rank_6 : decode cX10_rank 6 = .ok (.iconst 0, 1) := by decide +kernel
theorem dX10_rank_7 : decode cX10_rank 7 = .ok (.goto 51, 3) := by decide +kernel
theorem dX10_rank_10 : decode cX10_rank 10 = .ok (.iload_n 0, 1) := by decide +kernel
theorem dX10_rank_11 : decode cX10_rank 11 = .ok (.bipush 20, 2) := by decide +kernel
theorem dX10_rank_13 : decode cX10_rank 13 = .ok (.if_icmp .lt 12, 3) := by decide +kernel
theorem dX10_rank_16 : decode cX10_rank 16 = .ok (.iconst 4, 1) := by decide +kernel
theorem dX10_rank_17 : decode cX10_rank 17 = .ok (.iload_n 0, 1) := by decide +kernel
theorem dX10_rank_18 : decode cX10_rank 18 = .ok (.bipush 20, 2) := by decide +kernel
theorem dX10_rank_20 : decode cX10_rank 20 = .ok (.isub, 1) := by decide +kernel
theorem dX10_rank_21 : decode cX10_rank 21 = .ok (.isub, 1) := by decide +kernel
theorem dX10_rank_22 : decode cX10_rank 22 = .ok (.goto 36, 3) := by decide +kernel
theorem dX10_rank_25 : decode cX10_rank 25 = .ok (.iload_n 0, 1) := by decide +kernel
theorem dX10_rank_26 : decode cX10_rank 26 = .ok (.bipush 10, 2) := by decide +kernel
theorem dX10_rank_28 : decode cX10_rank 28 = .ok (.if_icmp .lt 7, 3) := by decide +kernel
theorem dX10_rank_31 : decode cX10_rank 31 = .ok (.iconst 5, 1) := by decide +kernel
theorem dX10_rank_32 : decode cX10_rank 32 = .ok (.goto 26, 3) := by decide +kernel
theorem dX10_rank_35 : decode cX10_rank 35 = .ok (.iload_n 0, 1) := by decide +kernel
theorem dX10_rank_36 : decode cX10_rank 36 = .ok (.iconst 4, 1) := by decide +kernel
theorem dX10_rank_37 : decode cX10_rank 37 = .ok (.if_icmp .ne 8, 3) := by decide +kernel
theorem dX10_rank_40 : decode cX10_rank 40 = .ok (.bipush 8, 2) := by decide +kernel
theorem dX10_rank_42 : decode cX10_rank 42 = .ok (.goto 16, 3) := by decide +kernel
theorem dX10_rank_45 : decode cX10_rank 45 = .ok (.iload_n 0, 1) := by decide +kernel
theorem dX10_rank_46 : decode cX10_rank 46 = .ok (.bipush 7, 2) := by decide +kernel
theorem dX10_rank_48 : decode cX10_rank 48 = .ok (.if_icmp .lt 8, 3) := by decide +kernel
theorem dX10_rank_51 : decode cX10_rank 51 = .ok (.bipush 7, 2) := by decide +kernel
theorem dX10_rank_53 : decode cX10_rank 53 = .ok (.goto 5, 3) := by decide +kernel
theorem dX10_rank_56 : decode cX10_rank 56 = .ok (.bipush 6, 2) := by decide +kernel
theorem dX10_rank_58 : decode cX10_rank 58 = .ok (.ireturn, 1) := by decide +kernel
theorem dX10_settle_0 : decode cX10_settle 0 = .ok (.aload_n 0, 1) := by decide +kernel
theorem dX10_settle_1 : decode cX10_settle 1 = .ok (.getfield 165, 3) := by decide +kernel
theorem dX10_settle_4 : decode cX10_settle 4 = .ok (.ifCond .le 99, 3) := by decide +kernel
theorem dX10_settle_7 : decode cX10_settle 7 = .ok (.aload_n 0, 1) := by decide +kernel
theorem dX10_settle_8 : decode cX10_settle 8 = .ok (.getfield 29, 3) := by decide +kernel
theorem dX10_settle_11 : decode cX10_settle 11 = .ok (.aload_n 0, 1) := by decide +kernel
theorem dX10_settle_12 : decode cX10_settle 12 = .ok (.getfield 165, 3) := by decide +kernel
theorem dX10_settle_15 : decode cX10_settle 15 = .ok (.iconst 1, 1) := by decide +kernel
theorem dX10_settle_16 : decode cX10_settle 16 = .ok (.isub, 1) := by decide +kernel
theorem dX10_settle_17 : decode cX10_settle 17 = .ok (.iaload, 1) := by decide +kernel
theorem dX10_settle_18 : decode cX10_settle 18 = .ok (.invokestatic 168, 3) := by decide +kernel
theorem dX10_settle_21 : decode cX10_settle 21 = .ok (.iload_n 1, 1) := by decide +kernel
theorem dX10_settle_22 : decode cX10_settle 22 = .ok (.if_icmp .lt 81, 3) := by decide +kernel
theorem dX10_settle_25 : decode cX10_settle 25 = .ok (.aload_n 0, 1) := by decide +kernel
theorem dX10_settle_26 : decode cX10_settle 26 = .ok (.dup, 1) := by decide +kernel
theorem dX10_settle_27 : decode cX10_settle 27 = .ok (.getfield 165, 3) := by decide +kernel
theorem dX10_settle_30 : decode cX10_settle 30 = .ok (.iconst 1, 1) := by decide +kernel
theorem dX10_settle_31 : decode cX10_settle 31 = .ok (.isub, 1) := by decide +kernel
theorem dX10_settle_32 : decode cX10_settle 32 = .ok (.putfield 165, 3) := by decide +kernel
theorem dX10_settle_35 : decode cX10_settle 35 = .ok (.aload_n 0, 1) := by decide +kernel
theorem dX10_settle_36 : decode cX10_settle 36 = .ok (.getfield 29, 3) := by decide +kernel
theorem dX10_settle_39 : decode cX10_settle 39 = .ok (.aload_n 0, 1) := by decide +kernel
theorem dX10_settle_40 : decode cX10_settle 40 = .ok (.getfield 165, 3) := by decide +kernel
theorem dX10_settle_43 : decode cX10_settle 43 = .ok (.iaload, 1) := by decide +kernel
theorem dX10_settle_44 : decode cX10_settle 44 = .ok (.bipush 16, 2) := by decide +kernel
theorem dX10_settle_46 : decode cX10_settle 46 = .ok (.if_icmp .eq 17, 3) := by decide +kernel
theorem dX10_settle_49 : decode cX10_settle 49 = .ok (.aload_n 0, 1) := by decide +kernel
theorem dX10_settle_50 : decode cX10_settle 50 = .ok (.aload_n 0, 1) := by decide +kernel
theorem dX10_settle_51 : decode cX10_settle 51 = .ok (.getfield 29, 3) := by decide +kernel
theorem dX10_settle_54 : decode cX10_settle 54 = .ok (.aload_n 0, 1) := by decide +kernel
theorem dX10_settle_55 : decode cX10_settle 55 = .ok (.getfield 165, 3) := by decide +kernel
theorem dX10_settle_58 : decode cX10_settle 58 = .ok (.iaload, 1) := by decide +kernel
theorem dX10_settle_59 : decode cX10_settle 59 = .ok (.iconst 0, 1) := by decide +kernel
theorem dX10_settle_60 : decode cX10_settle 60 = .ok (.invokevirtual 171, 3) := by decide +kernel
theorem dX10_settle_63 : decode cX10_settle 63 = .ok (.aload_n 0, 1) := by decide +kernel
theorem dX10_settle_64 : decode cX10_settle 64 = .ok (.getfield 29, 3) := by decide +kernel
theorem dX10_settle_67 : decode cX10_settle 67 = .ok (.aload_n 0, 1) := by decide +kernel
theorem dX10_settle_68 : decode cX10_settle 68 = .ok (.getfield 165, 3) := by decide +kernel
theorem dX10_settle_71 : decode cX10_settle 71 = .ok (.iaload, 1) := by decide +kernel
theorem dX10_settle_72 : decode cX10_settle 72 = .ok (.iconst 4, 1) := by decide +kernel
theorem dX10_settle_73 : decode cX10_settle 73 = .ok (.if_icmp .eq 17, 3) := by decide +kernel
theorem dX10_settle_76 : decode cX10_settle 76 = .ok (.aload_n 0, 1) := by decide +kernel
theorem dX10_settle_77 : decode cX10_settle 77 = .ok (.getfield 29, 3) := by decide +kernel
theorem dX10_settle_80 : decode cX10_settle 80 = .ok (.aload_n 0, 1) := by decide +kernel
theorem dX10_settle_81 : decode cX10_settle 81 = .ok (.getfield 165, 3) := by decide +kernel
theorem dX10_settle_84 : decode cX10_settle 84 = .ok (.iaload, 1) := by decide +kernel
theorem dX10_settle_85 : decode cX10_settle 85 = .ok (.bipush 20, 2) := by decide +kernel
theorem dX10_settle_87 : decode cX10_settle 87 = .ok (.if_icmp .ne (-87), 3) := by decide +kernel
theorem dX10_settle_90 : decode cX10_settle 90 = .ok (.aload_n 0, 1) := by decide +kernel
theorem dX10_settle_91 : decode cX10_settle 91 = .ok (.dup, 1) := by decide +kernel
theorem dX10_settle_92 : decode cX10_settle 92 = .ok (.getfield 175, 3) := by decide +kernel
theorem dX10_settle_95 : decode cX10_settle 95 = .ok (.iconst 1, 1) := by decide +kernel
theorem dX10_settle_96 : decode cX10_settle 96 = .ok (.isub, 1) := by decide +kernel
theorem dX10_settle_97 : decode cX10_settle 97 = .ok (.putfield 175, 3) := by decide +kernel
theorem dX10_settle_100 : decode cX10_settle 100 = .ok (.goto (-100), 3) := by decide +kernel
theorem dX10_settle_103 : decode cX10_settle 103 = .ok (.return_, 1) := by decide +kernel
theorem dX10_openNow_0 : decode cX10_openNow 0 = .ok (.aload_n 0, 1) := by decide +kernel
theorem dX10_openNow_1 : decode cX10_openNow 1 = .ok (.getfield 165, 3) := by decide +kernel
theorem dX10_openNow_4 : decode cX10_openNow 4 = .ok (.iconst 1, 1) := by decide +kernel
theorem dX10_openNow_5 : decode cX10_openNow 5 = .ok (.isub, 1) := by decide +kernel
theorem dX10_openNow_6 : decode cX10_openNow 6 = .ok (.istore_n 1, 1) := by decide +kernel
theorem dX10_openNow_7 : decode cX10_openNow 7 = .ok (.iload_n 1, 1) := by decide +kernel
theorem dX10_openNow_8 : decode cX10_openNow 8 = .ok (.ifCond .lt 20, 3) := by decide +kernel
theorem dX10_openNow_11 : decode cX10_openNow 11 = .ok (.aload_n 0, 1) := by decide +kernel
theorem dX10_openNow_12 : decode cX10_openNow 12 = .ok (.getfield 29, 3) := by decide +kernel
theorem dX10_openNow_15 : decode cX10_openNow 15 = .ok (.iload_n 1, 1) := by decide +kernel
theorem dX10_openNow_16 : decode cX10_openNow 16 = .ok (.iaload, 1) := by decide +kernel
theorem dX10_openNow_17 : decode cX10_openNow 17 = .ok (.bipush 40, 2) := by decide +kernel
theorem dX10_openNow_19 : decode cX10_openNow 19 = .ok (.if_icmp .ge 9, 3) := by decide +kernel
theorem dX10_openNow_22 : decode cX10_openNow 22 = .ok (.iinc 1 (-1), 3) := by decide +kernel
theorem dX10_openNow_25 : decode cX10_openNow 25 = .ok (.goto (-18), 3) := by decide +kernel
theorem dX10_openNow_28 : decode cX10_openNow 28 = .ok (.iload_n 1, 1) := by decide +kernel
theorem dX10_openNow_29 : decode cX10_openNow 29 = .ok (.ifCond .ge 7, 3) := by decide +kernel
theorem dX10_openNow_32 : decode cX10_openNow 32 = .ok (.iconst (-1), 1) := by decide +kernel
theorem dX10_openNow_33 : decode cX10_openNow 33 = .ok (.goto 9, 3) := by decide +kernel
theorem dX10_openNow_36 : decode cX10_openNow 36 = .ok (.aload_n 0, 1) := by decide +kernel
theorem dX10_openNow_37 : decode cX10_openNow 37 = .ok (.getfield 29, 3) := by decide +kernel
theorem dX10_openNow_40 : decode cX10_openNow 40 = .ok (.iload_n 1, 1) := by decide +kernel
theorem dX10_openNow_41 : decode cX10_openNow 41 = .ok (.iaload, 1) := by decide +kernel
theorem dX10_openNow_42 : decode cX10_openNow 42 = .ok (.ireturn, 1) := by decide +kernel
theorem dX10_isCompared_0 : decode cX10_isCompared 0 = .ok (.aload_n 0, 1) := by decide +kernel
theorem dX10_isCompared_1 : decode cX10_isCompared 1 = .ok (.getfield 165, 3) := by decide +kernel
theorem dX10_isCompared_4 : decode cX10_isCompared 4 = .ok (.iconst 1, 1) := by decide +kernel
theorem dX10_isCompared_5 : decode cX10_isCompared 5 = .ok (.isub, 1) := by decide +kernel
theorem dX10_isCompared_6 : decode cX10_isCompared 6 = .ok (.istore_n 1, 1) := by decide +kernel
theorem dX10_isCompared_7 : decode cX10_isCompared 7 = .ok (.iload_n 1, 1) := by decide +kernel
theorem dX10_isCompared_8 : decode cX10_isCompared 8 = .ok (.ifCond .lt 22, 3) := by decide +kernel
theorem dX10_isCompared_11 : decode cX10_isCompared 11 = .ok (.aload_n 0, 1) := by decide +kernel
theorem dX10_isCompared_12 : decode cX10_isCompared 12 = .ok (.getfield 29, 3) := by decide +kernel
theorem dX10_isCompared_15 : decode cX10_isCompared 15 = .ok (.iload_n 1, 1) := by decide +kernel
theorem dX10_isCompared_16 : decode cX10_isCompared 16 = .ok (.iaload, 1) := by decide +kernel
theorem dX10_isCompared_17 : decode cX10_isCompared 17 = .ok (.invokestatic 168, 3) := by decide +kernel
theorem dX10_isCompared_20 : decode cX10_isCompared 20 = .ok (.iconst 5, 1) := by decide +kernel
theorem dX10_isCompared_21 : decode cX10_isCompared 21 = .ok (.if_icmp .le 9, 3) := by decide +kernel
theorem dX10_isCompared_24 : decode cX10_isCompared 24 = .ok (.iinc 1 (-1), 3) := by decide +kernel
theorem dX10_isCompared_27 : decode cX10_isCompared 27 = .ok (.goto (-20), 3) := by decide +kernel
theorem dX10_isCompared_30 : decode cX10_isCompared 30 = .ok (.iload_n 1, 1) := by decide +kernel
theorem dX10_isCompared_31 : decode cX10_isCompared 31 = .ok (.ifCond .lt 20, 3) := by decide +kernel
theorem dX10_isCompared_34 : decode cX10_isCompared 34 = .ok (.aload_n 0, 1) := by decide +kernel
theorem dX10_isCompared_35 : decode cX10_isCompared 35 = .ok (.getfield 29, 3) := by decide +kernel
theorem dX10_isCompared_38 : decode cX10_isCompared 38 = .ok (.iload_n 1, 1) := by decide +kernel
theorem dX10_isCompared_39 : decode cX10_isCompared 39 = .ok (.iaload, 1) := by decide +kernel
theorem dX10_isCompared_40 : decode cX10_isCompared 40 = .ok (.invokestatic 168, 3) := by decide +kernel
theorem dX10_isCompared_43 : decode cX10_isCompared 43 = .ok (.iconst 5, 1) := by decide +kernel
theorem dX10_isCompared_44 : decode cX10_isCompared 44 = .ok (.if_icmp .ne 7, 3) := by decide +kernel
theorem dX10_isCompared_47 : decode cX10_isCompared 47 = .ok (.iconst 1, 1) := by decide +kernel
theorem dX10_isCompared_48 : decode cX10_isCompared 48 = .ok (.goto 4, 3) := by decide +kernel
theorem dX10_isCompared_51 : decode cX10_isCompared 51 = .ok (.iconst 0, 1) := by decide +kernel
theorem dX10_isCompared_52 : decode cX10_isCompared 52 = .ok (.ireturn, 1) := by decide +kernel
theorem dX10_isAskHere_0 : decode cX10_isAskHere 0 = .ok (.aload_n 0, 1) := by decide +kernel
theorem dX10_isAskHere_1 : decode cX10_isAskHere 1 = .ok (.getfield 178, 3) := by decide +kernel
theorem dX10_isAskHere_4 : decode cX10_isAskHere 4 = .ok (.ifCond .eq 16, 3) := by decide +kernel
theorem dX10_isAskHere_7 : decode cX10_isAskHere 7 = .ok (.aload_n 0, 1) := by decide +kernel
theorem dX10_isAskHere_8 : decode cX10_isAskHere 8 = .ok (.invokevirtual 182, 3) := by decide +kernel
theorem dX10_isAskHere_11 : decode cX10_isAskHere 11 = .ok (.bipush 40, 2) := by decide +kernel
theorem dX10_isAskHere_13 : decode cX10_isAskHere 13 = .ok (.if_icmp .eq 7, 3) := by decide +kernel
theorem dX10_isAskHere_16 : decode cX10_isAskHere 16 = .ok (.iconst 1, 1) := by decide +kernel
theorem dX10_isAskHere_17 : decode cX10_isAskHere 17 = .ok (.goto 4, 3) := by decide +kernel
theorem dX10_isAskHere_20 : decode cX10_isAskHere 20 = .ok (.iconst 0, 1) := by decide +kernel
theorem dX10_isAskHere_21 : decode cX10_isAskHere 21 = .ok (.ireturn, 1) := by decide +kernel
theorem dX10_isAskAhead_0 : decode cX10_isAskAhead 0 = .ok (.aload_n 0, 1) := by decide +kernel
theorem dX10_isAskAhead_1 : decode cX10_isAskAhead 1 = .ok (.invokevirtual 186, 3) := by decide +kernel
theorem dX10_isAskAhead_4 : decode cX10_isAskAhead 4 = .ok (.ifCond .eq 52, 3) := by decide +kernel
theorem dX10_isAskAhead_7 : decode cX10_isAskAhead 7 = .ok (.aload_n 0, 1) := by decide +kernel
theorem dX10_isAskAhead_8 : decode cX10_isAskAhead 8 = .ok (.getfield 165, 3) := by decide +kernel
theorem dX10_isAskAhead_11 : decode cX10_isAskAhead 11 = .ok (.ifCond .eq 41, 3) := by decide +kernel
theorem dX10_isAskAhead_14 : decode cX10_isAskAhead 14 = .ok (.aload_n 0, 1) := by decide +kernel
theorem dX10_isAskAhead_15 : decode cX10_isAskAhead 15 = .ok (.getfield 29, 3) := by decide +kernel
theorem dX10_isAskAhead_18 : decode cX10_isAskAhead 18 = .ok (.aload_n 0, 1) := by decide +kernel
theorem dX10_isAskAhead_19 : decode cX10_isAskAhead 19 = .ok (.getfield 165, 3) := by decide +kernel
theorem dX10_isAskAhead_22 : decode cX10_isAskAhead 22 = .ok (.iconst 1, 1) := by decide +kernel
theorem dX10_isAskAhead_23 : decode cX10_isAskAhead 23 = .ok (.isub, 1) := by decide +kernel
theorem dX10_isAskAhead_24 : decode cX10_isAskAhead 24 = .ok (.iaload, 1) := by decide +kernel
theorem dX10_isAskAhead_25 : decode cX10_isAskAhead 25 = .ok (.bipush 41, 2) := by decide +kernel
theorem dX10_isAskAhead_27 : decode cX10_isAskAhead 27 = .ok (.if_icmp .eq 25, 3) := by decide +kernel
theorem dX10_isAskAhead_30 : decode cX10_isAskAhead 30 = .ok (.aload_n 0, 1) := by decide +kernel
theorem dX10_isAskAhead_31 : decode cX10_isAskAhead 31 = .ok (.getfield 29, 3) := by decide +kernel
theorem dX10_isAskAhead_34 : decode cX10_isAskAhead 34 = .ok (.aload_n 0, 1) := by decide +kernel
theorem dX10_isAskAhead_35 : decode cX10_isAskAhead 35 = .ok (.getfield 165, 3) := by decide +kernel
theorem dX10_isAskAhead_38 : decode cX10_isAskAhead 38 = .ok (.iconst 1, 1) := by decide +kernel
theorem dX10_isAskAhead_39 : decode cX10_isAskAhead 39 = .ok (.isub, 1) := by decide +kernel
theorem dX10_isAskAhead_40 : decode cX10_isAskAhead 40 = .ok (.iaload, 1) := by decide +kernel
theorem dX10_isAskAhead_41 : decode cX10_isAskAhead 41 = .ok (.invokestatic 168, 3) := by decide +kernel
theorem dX10_isAskAhead_44 : decode cX10_isAskAhead 44 = .ok (.iconst 1, 1) := by decide +kernel
theorem dX10_isAskAhead_45 : decode cX10_isAskAhead 45 = .ok (.iconst 4, 1) := by decide +kernel
theorem dX10_isAskAhead_46 : decode cX10_isAskAhead 46 = .ok (.invokestatic 74, 3) := by decide +kernel
theorem dX10_isAskAhead_49 : decode cX10_isAskAhead 49 = .ok (.ifCond .eq 7, 3) := by decide +kernel
theorem dX10_isAskAhead_52 : decode cX10_isAskAhead 52 = .ok (.iconst 1, 1) := by decide +kernel
theorem dX10_isAskAhead_53 : decode cX10_isAskAhead 53 = .ok (.goto 4, 3) := by decide +kernel
theorem dX10_isAskAhead_56 : decode cX10_isAskAhead 56 = .ok (.iconst 0, 1) := by decide +kernel
theorem dX10_isAskAhead_57 : decode cX10_isAskAhead 57 = .ok (.ireturn, 1) := by decide +kernel
theorem dX10_opened_0 : decode cX10_opened 0 = .ok (.aload_n 0, 1) := by decide +kernel
theorem dX10_opened_1 : decode cX10_opened 1 = .ok (.getfield 175, 3) := by decide +kernel
theorem dX10_opened_4 : decode cX10_opened 4 = .ok (.bipush 8, 2) := by decide +kernel
theorem dX10_opened_6 : decode cX10_opened 6 = .ok (.if_icmp .ne 5, 3) := by decide +kernel
theorem dX10_opened_9 : decode cX10_opened 9 = .ok (.iconst 3, 1) := by decide +kernel
theorem dX10_opened_10 : decode cX10_opened 10 = .ok (.ireturn, 1) := by decide +kernel
theorem dX10_opened_11 : decode cX10_opened 11 = .ok (.aload_n 0, 1) := by decide +kernel
theorem dX10_opened_12 : decode cX10_opened 12 = .ok (.dup, 1) := by decide +kernel
theorem dX10_opened_13 : decode cX10_opened 13 = .ok (.getfield 175, 3) := by decide +kernel
theorem dX10_opened_16 : decode cX10_opened 16 = .ok (.iconst 1, 1) := by decide +kernel
theorem dX10_opened_17 : decode cX10_opened 17 = .ok (.iadd, 1) := by decide +kernel
theorem dX10_opened_18 : decode cX10_opened 18 = .ok (.putfield 175, 3) := by decide +kernel
theorem dX10_opened_21 : decode cX10_opened 21 = .ok (.aload_n 0, 1) := by decide +kernel
theorem dX10_opened_22 : decode cX10_opened 22 = .ok (.getfield 29, 3) := by decide +kernel
theorem dX10_opened_25 : decode cX10_opened 25 = .ok (.aload_n 0, 1) := by decide +kernel
theorem dX10_opened_26 : decode cX10_opened 26 = .ok (.getfield 165, 3) := by decide +kernel
theorem dX10_opened_29 : decode cX10_opened 29 = .ok (.iload_n 1, 1) := by decide +kernel
theorem dX10_opened_30 : decode cX10_opened 30 = .ok (.iastore, 1) := by decide +kernel
theorem dX10_opened_31 : decode cX10_opened 31 = .ok (.aload_n 0, 1) := by decide +kernel
theorem dX10_opened_32 : decode cX10_opened 32 = .ok (.dup, 1) := by decide +kernel
theorem dX10_opened_33 : decode cX10_opened 33 = .ok (.getfield 165, 3) := by decide +kernel
theorem dX10_opened_36 : decode cX10_opened 36 = .ok (.iconst 1, 1) := by decide +kernel
theorem dX10_opened_37 : decode cX10_opened 37 = .ok (.iadd, 1) := by decide +kernel
theorem dX10_opened_38 : decode cX10_opened 38 = .ok (.putfield 165, 3) := by decide +kernel
theorem dX10_opened_41 : decode cX10_opened 41 = .ok (.aload_n 0, 1) := by decide +kernel
theorem dX10_opened_42 : decode cX10_opened 42 = .ok (.invokevirtual 189, 3) := by decide +kernel
theorem dX10_opened_45 : decode cX10_opened 45 = .ok (.iload_n 1, 1) := by decide +kernel
theorem dX10_opened_46 : decode cX10_opened 46 = .ok (.bipush 41, 2) := by decide +kernel
theorem dX10_opened_48 : decode cX10_opened 48 = .ok (.if_icmp .eq 5, 3) := by decide +kernel
theorem dX10_opened_51 : decode cX10_opened 51 = .ok (.iconst 0, 1) := by decide +kernel
theorem dX10_opened_52 : decode cX10_opened 52 = .ok (.ireturn, 1) := by decide +kernel
theorem dX10_opened_53 : decode cX10_opened 53 = .ok (.aload_n 0, 1) := by decide +kernel
theorem dX10_opened_54 : decode cX10_opened 54 = .ok (.getfield 107, 3) := by decide +kernel
theorem dX10_opened_57 : decode cX10_opened 57 = .ok (.bipush 40, 2) := by decide +kernel
theorem dX10_opened_59 : decode cX10_opened 59 = .ok (.if_icmp .eq 5, 3) := by decide +kernel
theorem dX10_opened_62 : decode cX10_opened 62 = .ok (.iconst 1, 1) := by decide +kernel
theorem dX10_opened_63 : decode cX10_opened 63 = .ok (.ireturn, 1) := by decide +kernel
theorem dX10_opened_64 : decode cX10_opened 64 = .ok (.aload_n 0, 1) := by decide +kernel
theorem dX10_opened_65 : decode cX10_opened 65 = .ok (.getfield 32, 3) := by decide +kernel
theorem dX10_opened_68 : decode cX10_opened 68 = .ok (.aload_n 0, 1) := by decide +kernel
theorem dX10_opened_69 : decode cX10_opened 69 = .ok (.getfield 192, 3) := by decide +kernel
theorem dX10_opened_72 : decode cX10_opened 72 = .ok (.iconst 1, 1) := by decide +kernel
theorem dX10_opened_73 : decode cX10_opened 73 = .ok (.iastore, 1) := by decide +kernel
theorem dX10_opened_74 : decode cX10_opened 74 = .ok (.aload_n 0, 1) := by decide +kernel
theorem dX10_opened_75 : decode cX10_opened 75 = .ok (.dup, 1) := by decide +kernel
theorem dX10_opened_76 : decode cX10_opened 76 = .ok (.getfield 192, 3) := by decide +kernel
theorem dX10_opened_79 : decode cX10_opened 79 = .ok (.iconst 1, 1) := by decide +kernel
theorem dX10_opened_80 : decode cX10_opened 80 = .ok (.iadd, 1) := by decide +kernel
theorem dX10_opened_81 : decode cX10_opened 81 = .ok (.putfield 192, 3) := by decide +kernel
theorem dX10_opened_84 : decode cX10_opened 84 = .ok (.aload_n 0, 1) := by decide +kernel
theorem dX10_opened_85 : decode cX10_opened 85 = .ok (.invokevirtual 189, 3) := by decide +kernel
theorem dX10_opened_88 : decode cX10_opened 88 = .ok (.iconst 0, 1) := by decide +kernel
theorem dX10_opened_89 : decode cX10_opened 89 = .ok (.ireturn, 1) := by decide +kernel
theorem dX10_factAt_0 : decode cX10_factAt 0 = .ok (.aload_n 0, 1) := by decide +kernel
theorem dX10_factAt_1 : decode cX10_factAt 1 = .ok (.getfield 162, 3) := by decide +kernel
theorem dX10_factAt_4 : decode cX10_factAt 4 = .ok (.iconst 4, 1) := by decide +kernel
theorem dX10_factAt_5 : decode cX10_factAt 5 = .ok (.if_icmp .eq 5, 3) := by decide +kernel
theorem dX10_factAt_8 : decode cX10_factAt 8 = .ok (.iconst 5, 1) := by decide +kernel
theorem dX10_factAt_9 : decode cX10_factAt 9 = .ok (.ireturn, 1) := by decide +kernel
theorem dX10_factAt_10 : decode cX10_factAt 10 = .ok (.aload_n 0, 1) := by decide +kernel
theorem dX10_factAt_11 : decode cX10_factAt 11 = .ok (.invokevirtual 189, 3) := by decide +kernel
theorem dX10_factAt_14 : decode cX10_factAt 14 = .ok (.aload_n 0, 1) := by decide +kernel
theorem dX10_factAt_15 : decode cX10_factAt 15 = .ok (.getfield 107, 3) := by decide +kernel
theorem dX10_factAt_18 : decode cX10_factAt 18 = .ok (.iconst 1, 1) := by decide +kernel
theorem dX10_factAt_19 : decode cX10_factAt 19 = .ok (.if_icmp .eq 5, 3) := by decide +kernel
theorem dX10_factAt_22 : decode cX10_factAt 22 = .ok (.iconst 1, 1) := by decide +kernel
theorem dX10_factAt_23 : decode cX10_factAt 23 = .ok (.ireturn, 1) := by decide +kernel
theorem dX10_factAt_24 : decode cX10_factAt 24 = .ok (.aload_n 0, 1) := by decide +kernel
theorem dX10_factAt_25 : decode cX10_factAt 25 = .ok (.getfield 113, 3) := by decide +kernel
theorem dX10_factAt_28 : decode cX10_factAt 28 = .ok (.bipush 7, 2) := by decide +kernel
theorem dX10_factAt_30 : decode cX10_factAt 30 = .ok (.if_icmp .le 5, 3) := by decide +kernel
theorem dX10_factAt_33 : decode cX10_factAt 33 = .ok (.iconst 2, 1) := by decide +kernel
theorem dX10_factAt_34 : decode cX10_factAt 34 = .ok (.ireturn, 1) := by decide +kernel
theorem dX10_factAt_35 : decode cX10_factAt 35 = .ok (.aload_n 0, 1) := by decide +kernel
theorem dX10_factAt_36 : decode cX10_factAt 36 = .ok (.iconst 2, 1) := by decide +kernel
theorem dX10_factAt_37 : decode cX10_factAt 37 = .ok (.aload_n 0, 1) := by decide +kernel
theorem dX10_factAt_38 : decode cX10_factAt 38 = .ok (.getfield 113, 3) := by decide +kernel
theorem dX10_factAt_41 : decode cX10_factAt 41 = .ok (.invokevirtual 171, 3) := by decide +kernel
theorem dX10_factAt_44 : decode cX10_factAt 44 = .ok (.aload_n 0, 1) := by decide +kernel
theorem dX10_factAt_45 : decode cX10_factAt 45 = .ok (.invokevirtual 189, 3) := by decide +kernel
theorem dX10_factAt_48 : decode cX10_factAt 48 = .ok (.aload_n 0, 1) := by decide +kernel
theorem dX10_factAt_49 : decode cX10_factAt 49 = .ok (.getfield 29, 3) := by decide +kernel
theorem dX10_factAt_52 : decode cX10_factAt 52 = .ok (.aload_n 0, 1) := by decide +kernel
theorem dX10_factAt_53 : decode cX10_factAt 53 = .ok (.getfield 165, 3) := by decide +kernel
theorem dX10_factAt_56 : decode cX10_factAt 56 = .ok (.bipush 16, 2) := by decide +kernel
theorem dX10_factAt_58 : decode cX10_factAt 58 = .ok (.iastore, 1) := by decide +kernel
theorem dX10_factAt_59 : decode cX10_factAt 59 = .ok (.aload_n 0, 1) := by decide +kernel
theorem dX10_factAt_60 : decode cX10_factAt 60 = .ok (.dup, 1) := by decide +kernel
theorem dX10_factAt_61 : decode cX10_factAt 61 = .ok (.getfield 165, 3) := by decide +kernel
theorem dX10_factAt_64 : decode cX10_factAt 64 = .ok (.iconst 1, 1) := by decide +kernel
theorem dX10_factAt_65 : decode cX10_factAt 65 = .ok (.iadd, 1) := by decide +kernel
