-- ===== PART A: goes FIRST, ahead of the names: the tables' words, and 'selects' of the private methods out of them =====
/-- a private method of a class that the tables say can be made, by its rows of tables_1 -/
def lw_okq (q : MethodName × Nat) : Prop := (q.1.cls ≠ "java/lang/invoke/MethodHandle" ∧ q.1.cls ≠ "java/lang/invoke/VarHandle") ∧ Cond.instantiable q.1.cls q.2 ∈ tables_1 ∧ Cond.privateMethod q.1 ∈ tables_1 ∧ Cond.instanceMethod q.1 ∈ tables_1
theorem lw_p0 : lw_okq (⟨"VaneCourt$Tape", "scanWord", "(I)I"⟩, 6) := ⟨⟨by decide +kernel, by decide +kernel⟩, List.mem_of_getElem? (i := 157) (by decide +kernel), List.mem_of_getElem? (i := 294) (by decide +kernel), List.mem_of_getElem? (i := 295) (by decide +kernel)⟩
theorem lw_p1 : lw_okq (⟨"VaneCourt$Tape", "wordAt", "(II)I"⟩, 6) := ⟨⟨by decide +kernel, by decide +kernel⟩, List.mem_of_getElem? (i := 157) (by decide +kernel), List.mem_of_getElem? (i := 298) (by decide +kernel), List.mem_of_getElem? (i := 299) (by decide +kernel)⟩
theorem lw_p2 : lw_okq (⟨"VaneCourt$Tape", "addToken", "(III)V"⟩, 6) := ⟨⟨by decide +kernel, by decide +kernel⟩, List.mem_of_getElem? (i := 157) (by decide +kernel), List.mem_of_getElem? (i := 351) (by decide +kernel), List.mem_of_getElem? (i := 352) (by decide +kernel)⟩
theorem lw_p3 : lw_okq (⟨"VaneCourt$Tape", "scanNumber", "(I)I"⟩, 6) := ⟨⟨by decide +kernel, by decide +kernel⟩, List.mem_of_getElem? (i := 157) (by decide +kernel), List.mem_of_getElem? (i := 358) (by decide +kernel), List.mem_of_getElem? (i := 359) (by decide +kernel)⟩
theorem lw_p4 : lw_okq (⟨"VaneCourt$Tape", "scanSign", "(I)I"⟩, 6) := ⟨⟨by decide +kernel, by decide +kernel⟩, List.mem_of_getElem? (i := 157) (by decide +kernel), List.mem_of_getElem? (i := 365) (by decide +kernel), List.mem_of_getElem? (i := 366) (by decide +kernel)⟩
theorem lw_p5 : lw_okq (⟨"VaneCourt$Reader", "advance", "()V"⟩, 8) := ⟨⟨by decide +kernel, by decide +kernel⟩, List.mem_of_getElem? (i := 372) (by decide +kernel), List.mem_of_getElem? (i := 414) (by decide +kernel), List.mem_of_getElem? (i := 415) (by decide +kernel)⟩
theorem lw_p6 : lw_okq (⟨"VaneCourt$Reader", "readClause", "()Z"⟩, 8) := ⟨⟨by decide +kernel, by decide +kernel⟩, List.mem_of_getElem? (i := 372) (by decide +kernel), List.mem_of_getElem? (i := 418) (by decide +kernel), List.mem_of_getElem? (i := 419) (by decide +kernel)⟩
theorem lw_p7 : lw_okq (⟨"VaneCourt$Reader", "refuse", "(I)Z"⟩, 8) := ⟨⟨by decide +kernel, by decide +kernel⟩, List.mem_of_getElem? (i := 372) (by decide +kernel), List.mem_of_getElem? (i := 422) (by decide +kernel), List.mem_of_getElem? (i := 423) (by decide +kernel)⟩
theorem lw_p8 : lw_okq (⟨"VaneCourt$Reader", "readLaw", "(I)Z"⟩, 8) := ⟨⟨by decide +kernel, by decide +kernel⟩, List.mem_of_getElem? (i := 372) (by decide +kernel), List.mem_of_getElem? (i := 437) (by decide +kernel), List.mem_of_getElem? (i := 438) (by decide +kernel)⟩
theorem lw_p9 : lw_okq (⟨"VaneCourt$Reader", "readCodeHead", "()Z"⟩, 8) := ⟨⟨by decide +kernel, by decide +kernel⟩, List.mem_of_getElem? (i := 372) (by decide +kernel), List.mem_of_getElem? (i := 441) (by decide +kernel), List.mem_of_getElem? (i := 442) (by decide +kernel)⟩
theorem lw_p10 : lw_okq (⟨"VaneCourt$Reader", "valueHere", "()I"⟩, 8) := ⟨⟨by decide +kernel, by decide +kernel⟩, List.mem_of_getElem? (i := 372) (by decide +kernel), List.mem_of_getElem? (i := 445) (by decide +kernel), List.mem_of_getElem? (i := 446) (by decide +kernel)⟩
theorem lw_p11 : lw_okq (⟨"VaneCourt$Reader", "takeNumber", "(II)Z"⟩, 8) := ⟨⟨by decide +kernel, by decide +kernel⟩, List.mem_of_getElem? (i := 372) (by decide +kernel), List.mem_of_getElem? (i := 449) (by decide +kernel), List.mem_of_getElem? (i := 450) (by decide +kernel)⟩
theorem lw_p12 : lw_okq (⟨"VaneCourt$Reader", "take", "(I)Z"⟩, 8) := ⟨⟨by decide +kernel, by decide +kernel⟩, List.mem_of_getElem? (i := 372) (by decide +kernel), List.mem_of_getElem? (i := 453) (by decide +kernel), List.mem_of_getElem? (i := 454) (by decide +kernel)⟩
theorem lw_p13 : lw_okq (⟨"VaneCourt$Reader", "readEither", "(I)Z"⟩, 8) := ⟨⟨by decide +kernel, by decide +kernel⟩, List.mem_of_getElem? (i := 372) (by decide +kernel), List.mem_of_getElem? (i := 457) (by decide +kernel), List.mem_of_getElem? (i := 458) (by decide +kernel)⟩
theorem lw_p14 : lw_okq (⟨"VaneCourt$Reader", "readBoth", "(I)Z"⟩, 8) := ⟨⟨by decide +kernel, by decide +kernel⟩, List.mem_of_getElem? (i := 372) (by decide +kernel), List.mem_of_getElem? (i := 461) (by decide +kernel), List.mem_of_getElem? (i := 462) (by decide +kernel)⟩
theorem lw_p15 : lw_okq (⟨"VaneCourt$Reader", "readAsk", "(I)Z"⟩, 8) := ⟨⟨by decide +kernel, by decide +kernel⟩, List.mem_of_getElem? (i := 372) (by decide +kernel), List.mem_of_getElem? (i := 465) (by decide +kernel), List.mem_of_getElem? (i := 466) (by decide +kernel)⟩
def lw_privs_1 : List (MethodName × Nat) := [(⟨"VaneCourt$Tape", "scanWord", "(I)I"⟩, 6), (⟨"VaneCourt$Tape", "wordAt", "(II)I"⟩, 6), (⟨"VaneCourt$Tape", "addToken", "(III)V"⟩, 6), (⟨"VaneCourt$Tape", "scanNumber", "(I)I"⟩, 6), (⟨"VaneCourt$Tape", "scanSign", "(I)I"⟩, 6), (⟨"VaneCourt$Reader", "advance", "()V"⟩, 8), (⟨"VaneCourt$Reader", "readClause", "()Z"⟩, 8), (⟨"VaneCourt$Reader", "refuse", "(I)Z"⟩, 8), (⟨"VaneCourt$Reader", "readLaw", "(I)Z"⟩, 8), (⟨"VaneCourt$Reader", "readCodeHead", "()Z"⟩, 8), (⟨"VaneCourt$Reader", "valueHere", "()I"⟩, 8), (⟨"VaneCourt$Reader", "takeNumber", "(II)Z"⟩, 8), (⟨"VaneCourt$Reader", "take", "(I)Z"⟩, 8), (⟨"VaneCourt$Reader", "readEither", "(I)Z"⟩, 8), (⟨"VaneCourt$Reader", "readBoth", "(I)Z"⟩, 8), (⟨"VaneCourt$Reader", "readAsk", "(I)Z"⟩, 8)]
theorem lw_r1 : ∀ q ∈ lw_privs_1, lw_okq q := List.forall_mem_cons.mpr ⟨lw_p0, List.forall_mem_cons.mpr ⟨lw_p1, List.forall_mem_cons.mpr ⟨lw_p2, List.forall_mem_cons.mpr ⟨lw_p3, List.forall_mem_cons.mpr ⟨lw_p4, List.forall_mem_cons.mpr ⟨lw_p5, List.forall_mem_cons.mpr ⟨lw_p6, List.forall_mem_cons.mpr ⟨lw_p7, List.forall_mem_cons.mpr ⟨lw_p8, List.forall_mem_cons.mpr ⟨lw_p9, List.forall_mem_cons.mpr ⟨lw_p10, List.forall_mem_cons.mpr ⟨lw_p11, List.forall_mem_cons.mpr ⟨lw_p12, List.forall_mem_cons.mpr ⟨lw_p13, List.forall_mem_cons.mpr ⟨lw_p14, List.forall_mem_cons.mpr ⟨lw_p15, fun _ h => absurd h List.not_mem_nil⟩⟩⟩⟩⟩⟩⟩⟩⟩⟩⟩⟩⟩⟩⟩⟩
theorem lw_p16 : lw_okq (⟨"VaneCourt$Reader", "open", "(I)Z"⟩, 8) := ⟨⟨by decide +kernel, by decide +kernel⟩, List.mem_of_getElem? (i := 372) (by decide +kernel), List.mem_of_getElem? (i := 469) (by decide +kernel), List.mem_of_getElem? (i := 470) (by decide +kernel)⟩
theorem lw_p17 : lw_okq (⟨"VaneCourt$Reader", "readNot", "(I)Z"⟩, 8) := ⟨⟨by decide +kernel, by decide +kernel⟩, List.mem_of_getElem? (i := 372) (by decide +kernel), List.mem_of_getElem? (i := 473) (by decide +kernel), List.mem_of_getElem? (i := 474) (by decide +kernel)⟩
theorem lw_p18 : lw_okq (⟨"VaneCourt$Reader", "readMost", "(I)Z"⟩, 8) := ⟨⟨by decide +kernel, by decide +kernel⟩, List.mem_of_getElem? (i := 372) (by decide +kernel), List.mem_of_getElem? (i := 481) (by decide +kernel), List.mem_of_getElem? (i := 482) (by decide +kernel)⟩
theorem lw_p19 : lw_okq (⟨"VaneCourt$Reader", "readFact", "()Z"⟩, 8) := ⟨⟨by decide +kernel, by decide +kernel⟩, List.mem_of_getElem? (i := 372) (by decide +kernel), List.mem_of_getElem? (i := 485) (by decide +kernel), List.mem_of_getElem? (i := 486) (by decide +kernel)⟩
theorem lw_p20 : lw_okq (⟨"VaneCourt$Reader", "readSum", "(I)Z"⟩, 8) := ⟨⟨by decide +kernel, by decide +kernel⟩, List.mem_of_getElem? (i := 372) (by decide +kernel), List.mem_of_getElem? (i := 494) (by decide +kernel), List.mem_of_getElem? (i := 495) (by decide +kernel)⟩
theorem lw_p21 : lw_okq (⟨"VaneCourt$Reader", "readProduct", "(I)Z"⟩, 8) := ⟨⟨by decide +kernel, by decide +kernel⟩, List.mem_of_getElem? (i := 372) (by decide +kernel), List.mem_of_getElem? (i := 498) (by decide +kernel), List.mem_of_getElem? (i := 499) (by decide +kernel)⟩
theorem lw_p22 : lw_okq (⟨"VaneCourt$Reader", "readOne", "(I)Z"⟩, 8) := ⟨⟨by decide +kernel, by decide +kernel⟩, List.mem_of_getElem? (i := 372) (by decide +kernel), List.mem_of_getElem? (i := 502) (by decide +kernel), List.mem_of_getElem? (i := 503) (by decide +kernel)⟩
theorem lw_p23 : lw_okq (⟨"VaneCourt$Reader", "readName", "(I)Z"⟩, 8) := ⟨⟨by decide +kernel, by decide +kernel⟩, List.mem_of_getElem? (i := 372) (by decide +kernel), List.mem_of_getElem? (i := 506) (by decide +kernel), List.mem_of_getElem? (i := 507) (by decide +kernel)⟩
theorem lw_p24 : lw_okq (⟨"VaneCourt$Reader", "isOfLaw", "(I)Z"⟩, 8) := ⟨⟨by decide +kernel, by decide +kernel⟩, List.mem_of_getElem? (i := 372) (by decide +kernel), List.mem_of_getElem? (i := 510) (by decide +kernel), List.mem_of_getElem? (i := 511) (by decide +kernel)⟩
theorem lw_p25 : lw_okq (⟨"VaneCourt$Reader", "readDeed", "(I)Z"⟩, 8) := ⟨⟨by decide +kernel, by decide +kernel⟩, List.mem_of_getElem? (i := 372) (by decide +kernel), List.mem_of_getElem? (i := 521) (by decide +kernel), List.mem_of_getElem? (i := 522) (by decide +kernel)⟩
theorem lw_p26 : lw_okq (⟨"VaneCourt$Reader", "takeTold", "(III)Z"⟩, 8) := ⟨⟨by decide +kernel, by decide +kernel⟩, List.mem_of_getElem? (i := 372) (by decide +kernel), List.mem_of_getElem? (i := 525) (by decide +kernel), List.mem_of_getElem? (i := 526) (by decide +kernel)⟩
theorem lw_p27 : lw_okq (⟨"VaneCourt", "isText", "(I)Z"⟩, 9) := ⟨⟨by decide +kernel, by decide +kernel⟩, List.mem_of_getElem? (i := 18) (by decide +kernel), List.mem_of_getElem? (i := 541) (by decide +kernel), List.mem_of_getElem? (i := 542) (by decide +kernel)⟩
theorem lw_p28 : lw_okq (⟨"VaneCourt", "passHours", "(I)I"⟩, 9) := ⟨⟨by decide +kernel, by decide +kernel⟩, List.mem_of_getElem? (i := 18) (by decide +kernel), List.mem_of_getElem? (i := 617) (by decide +kernel), List.mem_of_getElem? (i := 618) (by decide +kernel)⟩
theorem lw_p29 : lw_okq (⟨"VaneCourt", "ruling", "()LVaneCourt$Text;"⟩, 9) := ⟨⟨by decide +kernel, by decide +kernel⟩, List.mem_of_getElem? (i := 18) (by decide +kernel), List.mem_of_getElem? (i := 621) (by decide +kernel), List.mem_of_getElem? (i := 622) (by decide +kernel)⟩
theorem lw_p30 : lw_okq (⟨"VaneCourt$Law", "worth", "(LVaneCourt$Text;I)I"⟩, 3) := ⟨⟨by decide +kernel, by decide +kernel⟩, List.mem_of_getElem? (i := 89) (by decide +kernel), List.mem_of_getElem? (i := 652) (by decide +kernel), List.mem_of_getElem? (i := 653) (by decide +kernel)⟩
theorem lw_p31 : lw_okq (⟨"VaneCourt$Law", "mostAreSo", "(II)Z"⟩, 3) := ⟨⟨by decide +kernel, by decide +kernel⟩, List.mem_of_getElem? (i := 89) (by decide +kernel), List.mem_of_getElem? (i := 659) (by decide +kernel), List.mem_of_getElem? (i := 660) (by decide +kernel)⟩
def lw_privs_2 : List (MethodName × Nat) := [(⟨"VaneCourt$Reader", "open", "(I)Z"⟩, 8), (⟨"VaneCourt$Reader", "readNot", "(I)Z"⟩, 8), (⟨"VaneCourt$Reader", "readMost", "(I)Z"⟩, 8), (⟨"VaneCourt$Reader", "readFact", "()Z"⟩, 8), (⟨"VaneCourt$Reader", "readSum", "(I)Z"⟩, 8), (⟨"VaneCourt$Reader", "readProduct", "(I)Z"⟩, 8), (⟨"VaneCourt$Reader", "readOne", "(I)Z"⟩, 8), (⟨"VaneCourt$Reader", "readName", "(I)Z"⟩, 8), (⟨"VaneCourt$Reader", "isOfLaw", "(I)Z"⟩, 8), (⟨"VaneCourt$Reader", "readDeed", "(I)Z"⟩, 8), (⟨"VaneCourt$Reader", "takeTold", "(III)Z"⟩, 8), (⟨"VaneCourt", "isText", "(I)Z"⟩, 9), (⟨"VaneCourt", "passHours", "(I)I"⟩, 9), (⟨"VaneCourt", "ruling", "()LVaneCourt$Text;"⟩, 9), (⟨"VaneCourt$Law", "worth", "(LVaneCourt$Text;I)I"⟩, 3), (⟨"VaneCourt$Law", "mostAreSo", "(II)Z"⟩, 3)]
theorem lw_r2 : ∀ q ∈ lw_privs_2, lw_okq q := List.forall_mem_cons.mpr ⟨lw_p16, List.forall_mem_cons.mpr ⟨lw_p17, List.forall_mem_cons.mpr ⟨lw_p18, List.forall_mem_cons.mpr ⟨lw_p19, List.forall_mem_cons.mpr ⟨lw_p20, List.forall_mem_cons.mpr ⟨lw_p21, List.forall_mem_cons.mpr ⟨lw_p22, List.forall_mem_cons.mpr ⟨lw_p23, List.forall_mem_cons.mpr ⟨lw_p24, List.forall_mem_cons.mpr ⟨lw_p25, List.forall_mem_cons.mpr ⟨lw_p26, List.forall_mem_cons.mpr ⟨lw_p27, List.forall_mem_cons.mpr ⟨lw_p28, List.forall_mem_cons.mpr ⟨lw_p29, List.forall_mem_cons.mpr ⟨lw_p30, List.forall_mem_cons.mpr ⟨lw_p31, fun _ h => absurd h List.not_mem_nil⟩⟩⟩⟩⟩⟩⟩⟩⟩⟩⟩⟩⟩⟩⟩⟩
theorem lw_p32 : lw_okq (⟨"VaneCourt$Court", "close", "(II)V"⟩, 10) := ⟨⟨by decide +kernel, by decide +kernel⟩, List.mem_of_getElem? (i := 26) (by decide +kernel), List.mem_of_getElem? (i := 680) (by decide +kernel), List.mem_of_getElem? (i := 681) (by decide +kernel)⟩
theorem lw_p33 : lw_okq (⟨"VaneCourt$Court", "drawX", "()I"⟩, 10) := ⟨⟨by decide +kernel, by decide +kernel⟩, List.mem_of_getElem? (i := 26) (by decide +kernel), List.mem_of_getElem? (i := 685) (by decide +kernel), List.mem_of_getElem? (i := 686) (by decide +kernel)⟩
theorem lw_p34 : lw_okq (⟨"VaneCourt$Law", "veered", "(LVaneCourt$Text;)I"⟩, 3) := ⟨⟨by decide +kernel, by decide +kernel⟩, List.mem_of_getElem? (i := 89) (by decide +kernel), List.mem_of_getElem? (i := 697) (by decide +kernel), List.mem_of_getElem? (i := 698) (by decide +kernel)⟩
theorem lw_p35 : lw_okq (⟨"VaneCourt$Law", "blown", "(LVaneCourt$Text;)I"⟩, 3) := ⟨⟨by decide +kernel, by decide +kernel⟩, List.mem_of_getElem? (i := 89) (by decide +kernel), List.mem_of_getElem? (i := 704) (by decide +kernel), List.mem_of_getElem? (i := 705) (by decide +kernel)⟩
theorem lw_p36 : lw_okq (⟨"VaneCourt$Law", "isFoggy", "(LVaneCourt$Text;)Z"⟩, 3) := ⟨⟨by decide +kernel, by decide +kernel⟩, List.mem_of_getElem? (i := 89) (by decide +kernel), List.mem_of_getElem? (i := 708) (by decide +kernel), List.mem_of_getElem? (i := 709) (by decide +kernel)⟩
theorem lw_p37 : lw_okq (⟨"VaneCourt", "isDone", "(LVaneCourt$Text;I)Z"⟩, 9) := ⟨⟨by decide +kernel, by decide +kernel⟩, List.mem_of_getElem? (i := 18) (by decide +kernel), List.mem_of_getElem? (i := 716) (by decide +kernel), List.mem_of_getElem? (i := 717) (by decide +kernel)⟩
theorem lw_p38 : lw_okq (⟨"VaneCourt$Foresight", "isCalm", "(I)Z"⟩, 12) := ⟨⟨by decide +kernel, by decide +kernel⟩, List.mem_of_getElem? (i := 106) (by decide +kernel), List.mem_of_getElem? (i := 792) (by decide +kernel), List.mem_of_getElem? (i := 793) (by decide +kernel)⟩
theorem lw_p39 : lw_okq (⟨"VaneCourt", "lookAtCalls", "(I)V"⟩, 9) := ⟨⟨by decide +kernel, by decide +kernel⟩, List.mem_of_getElem? (i := 18) (by decide +kernel), List.mem_of_getElem? (i := 801) (by decide +kernel), List.mem_of_getElem? (i := 802) (by decide +kernel)⟩
theorem lw_p40 : lw_okq (⟨"VaneCourt$Foresight", "waysFrom", "(IIIII)I"⟩, 12) := ⟨⟨by decide +kernel, by decide +kernel⟩, List.mem_of_getElem? (i := 106) (by decide +kernel), List.mem_of_getElem? (i := 831) (by decide +kernel), List.mem_of_getElem? (i := 832) (by decide +kernel)⟩
theorem lw_p41 : lw_okq (⟨"VaneCourt", "guiltyCodes", "(II)I"⟩, 9) := ⟨⟨by decide +kernel, by decide +kernel⟩, List.mem_of_getElem? (i := 18) (by decide +kernel), List.mem_of_getElem? (i := 842) (by decide +kernel), List.mem_of_getElem? (i := 843) (by decide +kernel)⟩
theorem lw_p42 : lw_okq (⟨"VaneCourt", "allAlike", "(II)Z"⟩, 9) := ⟨⟨by decide +kernel, by decide +kernel⟩, List.mem_of_getElem? (i := 18) (by decide +kernel), List.mem_of_getElem? (i := 854) (by decide +kernel), List.mem_of_getElem? (i := 855) (by decide +kernel)⟩
theorem lw_p43 : lw_okq (⟨"VaneCourt$Foresight", "arrange", "(IIII)V"⟩, 12) := ⟨⟨by decide +kernel, by decide +kernel⟩, List.mem_of_getElem? (i := 106) (by decide +kernel), List.mem_of_getElem? (i := 875) (by decide +kernel), List.mem_of_getElem? (i := 876) (by decide +kernel)⟩
theorem lw_p44 : lw_okq (⟨"VaneCourt", "wrongRecords", "(LVaneCourt$Text;I)I"⟩, 9) := ⟨⟨by decide +kernel, by decide +kernel⟩, List.mem_of_getElem? (i := 18) (by decide +kernel), List.mem_of_getElem? (i := 891) (by decide +kernel), List.mem_of_getElem? (i := 892) (by decide +kernel)⟩
theorem lw_p45 : lw_okq (⟨"VaneCourt", "gatherCodes", "()I"⟩, 9) := ⟨⟨by decide +kernel, by decide +kernel⟩, List.mem_of_getElem? (i := 18) (by decide +kernel), List.mem_of_getElem? (i := 911) (by decide +kernel), List.mem_of_getElem? (i := 912) (by decide +kernel)⟩
theorem lw_p46 : lw_okq (⟨"VaneCourt", "fitsLearned", "(I)Z"⟩, 9) := ⟨⟨by decide +kernel, by decide +kernel⟩, List.mem_of_getElem? (i := 18) (by decide +kernel), List.mem_of_getElem? (i := 915) (by decide +kernel), List.mem_of_getElem? (i := 916) (by decide +kernel)⟩
theorem lw_p47 : lw_okq (⟨"VaneCourt", "guiltyByGathered", "(II)I"⟩, 9) := ⟨⟨by decide +kernel, by decide +kernel⟩, List.mem_of_getElem? (i := 18) (by decide +kernel), List.mem_of_getElem? (i := 923) (by decide +kernel), List.mem_of_getElem? (i := 924) (by decide +kernel)⟩
def lw_privs_3 : List (MethodName × Nat) := [(⟨"VaneCourt$Court", "close", "(II)V"⟩, 10), (⟨"VaneCourt$Court", "drawX", "()I"⟩, 10), (⟨"VaneCourt$Law", "veered", "(LVaneCourt$Text;)I"⟩, 3), (⟨"VaneCourt$Law", "blown", "(LVaneCourt$Text;)I"⟩, 3), (⟨"VaneCourt$Law", "isFoggy", "(LVaneCourt$Text;)Z"⟩, 3), (⟨"VaneCourt", "isDone", "(LVaneCourt$Text;I)Z"⟩, 9), (⟨"VaneCourt$Foresight", "isCalm", "(I)Z"⟩, 12), (⟨"VaneCourt", "lookAtCalls", "(I)V"⟩, 9), (⟨"VaneCourt$Foresight", "waysFrom", "(IIIII)I"⟩, 12), (⟨"VaneCourt", "guiltyCodes", "(II)I"⟩, 9), (⟨"VaneCourt", "allAlike", "(II)Z"⟩, 9), (⟨"VaneCourt$Foresight", "arrange", "(IIII)V"⟩, 12), (⟨"VaneCourt", "wrongRecords", "(LVaneCourt$Text;I)I"⟩, 9), (⟨"VaneCourt", "gatherCodes", "()I"⟩, 9), (⟨"VaneCourt", "fitsLearned", "(I)Z"⟩, 9), (⟨"VaneCourt", "guiltyByGathered", "(II)I"⟩, 9)]
theorem lw_r3 : ∀ q ∈ lw_privs_3, lw_okq q := List.forall_mem_cons.mpr ⟨lw_p32, List.forall_mem_cons.mpr ⟨lw_p33, List.forall_mem_cons.mpr ⟨lw_p34, List.forall_mem_cons.mpr ⟨lw_p35, List.forall_mem_cons.mpr ⟨lw_p36, List.forall_mem_cons.mpr ⟨lw_p37, List.forall_mem_cons.mpr ⟨lw_p38, List.forall_mem_cons.mpr ⟨lw_p39, List.forall_mem_cons.mpr ⟨lw_p40, List.forall_mem_cons.mpr ⟨lw_p41, List.forall_mem_cons.mpr ⟨lw_p42, List.forall_mem_cons.mpr ⟨lw_p43, List.forall_mem_cons.mpr ⟨lw_p44, List.forall_mem_cons.mpr ⟨lw_p45, List.forall_mem_cons.mpr ⟨lw_p46, List.forall_mem_cons.mpr ⟨lw_p47, fun _ h => absurd h List.not_mem_nil⟩⟩⟩⟩⟩⟩⟩⟩⟩⟩⟩⟩⟩⟩⟩⟩
theorem lw_p48 : lw_okq (⟨"VaneCourtModel", "put", "(III)V"⟩, 40) := ⟨⟨by decide +kernel, by decide +kernel⟩, List.mem_of_getElem? (i := 984) (by decide +kernel), List.mem_of_getElem? (i := 1123) (by decide +kernel), List.mem_of_getElem? (i := 1124) (by decide +kernel)⟩
theorem lw_p49 : lw_okq (⟨"VaneCourtModel", "four", "(I)V"⟩, 40) := ⟨⟨by decide +kernel, by decide +kernel⟩, List.mem_of_getElem? (i := 984) (by decide +kernel), List.mem_of_getElem? (i := 1131) (by decide +kernel), List.mem_of_getElem? (i := 1132) (by decide +kernel)⟩
theorem lw_p50 : lw_okq (⟨"VaneCourtModel", "readText", "()I"⟩, 40) := ⟨⟨by decide +kernel, by decide +kernel⟩, List.mem_of_getElem? (i := 984) (by decide +kernel), List.mem_of_getElem? (i := 1143) (by decide +kernel), List.mem_of_getElem? (i := 1144) (by decide +kernel)⟩
theorem lw_p51 : lw_okq (⟨"VaneCourtModel", "nextToken", "()V"⟩, 40) := ⟨⟨by decide +kernel, by decide +kernel⟩, List.mem_of_getElem? (i := 984) (by decide +kernel), List.mem_of_getElem? (i := 1147) (by decide +kernel), List.mem_of_getElem? (i := 1148) (by decide +kernel)⟩
theorem lw_p52 : lw_okq (⟨"VaneCourtModel", "byteAt", "(I)I"⟩, 40) := ⟨⟨by decide +kernel, by decide +kernel⟩, List.mem_of_getElem? (i := 984) (by decide +kernel), List.mem_of_getElem? (i := 1151) (by decide +kernel), List.mem_of_getElem? (i := 1152) (by decide +kernel)⟩
theorem lw_p53 : lw_okq (⟨"VaneCourtModel", "clause", "()I"⟩, 40) := ⟨⟨by decide +kernel, by decide +kernel⟩, List.mem_of_getElem? (i := 984) (by decide +kernel), List.mem_of_getElem? (i := 1166) (by decide +kernel), List.mem_of_getElem? (i := 1167) (by decide +kernel)⟩
theorem lw_p54 : lw_okq (⟨"VaneCourtModel", "sortOf", "()I"⟩, 40) := ⟨⟨by decide +kernel, by decide +kernel⟩, List.mem_of_getElem? (i := 984) (by decide +kernel), List.mem_of_getElem? (i := 1170) (by decide +kernel), List.mem_of_getElem? (i := 1171) (by decide +kernel)⟩
theorem lw_p55 : lw_okq (⟨"VaneCourtModel", "isWord", "(J)Z"⟩, 40) := ⟨⟨by decide +kernel, by decide +kernel⟩, List.mem_of_getElem? (i := 984) (by decide +kernel), List.mem_of_getElem? (i := 1186) (by decide +kernel), List.mem_of_getElem? (i := 1187) (by decide +kernel)⟩
theorem lw_p56 : lw_okq (⟨"VaneCourtModel", "isSentence", "()Z"⟩, 40) := ⟨⟨by decide +kernel, by decide +kernel⟩, List.mem_of_getElem? (i := 984) (by decide +kernel), List.mem_of_getElem? (i := 1190) (by decide +kernel), List.mem_of_getElem? (i := 1191) (by decide +kernel)⟩
theorem lw_p57 : lw_okq (⟨"VaneCourtModel", "isLong", "(JJI)Z"⟩, 40) := ⟨⟨by decide +kernel, by decide +kernel⟩, List.mem_of_getElem? (i := 984) (by decide +kernel), List.mem_of_getElem? (i := 1194) (by decide +kernel), List.mem_of_getElem? (i := 1195) (by decide +kernel)⟩
theorem lw_p58 : lw_okq (⟨"VaneCourtModel", "isWithdraw", "()Z"⟩, 40) := ⟨⟨by decide +kernel, by decide +kernel⟩, List.mem_of_getElem? (i := 984) (by decide +kernel), List.mem_of_getElem? (i := 1201) (by decide +kernel), List.mem_of_getElem? (i := 1202) (by decide +kernel)⟩
theorem lw_p59 : lw_okq (⟨"VaneCourtModel", "body", "(II)I"⟩, 40) := ⟨⟨by decide +kernel, by decide +kernel⟩, List.mem_of_getElem? (i := 984) (by decide +kernel), List.mem_of_getElem? (i := 1208) (by decide +kernel), List.mem_of_getElem? (i := 1209) (by decide +kernel)⟩
theorem lw_p60 : lw_okq (⟨"VaneCourtModel", "codeClause", "(I)I"⟩, 40) := ⟨⟨by decide +kernel, by decide +kernel⟩, List.mem_of_getElem? (i := 984) (by decide +kernel), List.mem_of_getElem? (i := 1212) (by decide +kernel), List.mem_of_getElem? (i := 1213) (by decide +kernel)⟩
theorem lw_p61 : lw_okq (⟨"VaneCourtModel", "figure", "(III)I"⟩, 40) := ⟨⟨by decide +kernel, by decide +kernel⟩, List.mem_of_getElem? (i := 984) (by decide +kernel), List.mem_of_getElem? (i := 1216) (by decide +kernel), List.mem_of_getElem? (i := 1217) (by decide +kernel)⟩
theorem lw_p62 : lw_okq (⟨"VaneCourtModel", "lawClause", "(IZ)I"⟩, 40) := ⟨⟨by decide +kernel, by decide +kernel⟩, List.mem_of_getElem? (i := 984) (by decide +kernel), List.mem_of_getElem? (i := 1220) (by decide +kernel), List.mem_of_getElem? (i := 1221) (by decide +kernel)⟩
theorem lw_p63 : lw_okq (⟨"VaneCourtModel", "parsed", "(Z)I"⟩, 40) := ⟨⟨by decide +kernel, by decide +kernel⟩, List.mem_of_getElem? (i := 984) (by decide +kernel), List.mem_of_getElem? (i := 1224) (by decide +kernel), List.mem_of_getElem? (i := 1225) (by decide +kernel)⟩
def lw_privs_4 : List (MethodName × Nat) := [(⟨"VaneCourtModel", "put", "(III)V"⟩, 40), (⟨"VaneCourtModel", "four", "(I)V"⟩, 40), (⟨"VaneCourtModel", "readText", "()I"⟩, 40), (⟨"VaneCourtModel", "nextToken", "()V"⟩, 40), (⟨"VaneCourtModel", "byteAt", "(I)I"⟩, 40), (⟨"VaneCourtModel", "clause", "()I"⟩, 40), (⟨"VaneCourtModel", "sortOf", "()I"⟩, 40), (⟨"VaneCourtModel", "isWord", "(J)Z"⟩, 40), (⟨"VaneCourtModel", "isSentence", "()Z"⟩, 40), (⟨"VaneCourtModel", "isLong", "(JJI)Z"⟩, 40), (⟨"VaneCourtModel", "isWithdraw", "()Z"⟩, 40), (⟨"VaneCourtModel", "body", "(II)I"⟩, 40), (⟨"VaneCourtModel", "codeClause", "(I)I"⟩, 40), (⟨"VaneCourtModel", "figure", "(III)I"⟩, 40), (⟨"VaneCourtModel", "lawClause", "(IZ)I"⟩, 40), (⟨"VaneCourtModel", "parsed", "(Z)I"⟩, 40)]
theorem lw_r4 : ∀ q ∈ lw_privs_4, lw_okq q := List.forall_mem_cons.mpr ⟨lw_p48, List.forall_mem_cons.mpr ⟨lw_p49, List.forall_mem_cons.mpr ⟨lw_p50, List.forall_mem_cons.mpr ⟨lw_p51, List.forall_mem_cons.mpr ⟨lw_p52, List.forall_mem_cons.mpr ⟨lw_p53, List.forall_mem_cons.mpr ⟨lw_p54, List.forall_mem_cons.mpr ⟨lw_p55, List.forall_mem_cons.mpr ⟨lw_p56, List.forall_mem_cons.mpr ⟨lw_p57, List.forall_mem_cons.mpr ⟨lw_p58, List.forall_mem_cons.mpr ⟨lw_p59, List.forall_mem_cons.mpr ⟨lw_p60, List.forall_mem_cons.mpr ⟨lw_p61, List.forall_mem_cons.mpr ⟨lw_p62, List.forall_mem_cons.mpr ⟨lw_p63, fun _ h => absurd h List.not_mem_nil⟩⟩⟩⟩⟩⟩⟩⟩⟩⟩⟩⟩⟩⟩⟩⟩
theorem lw_p64 : lw_okq (⟨"VaneCourtModel", "behindOne", "()I"⟩, 40) := ⟨⟨by decide +kernel, by decide +kernel⟩, List.mem_of_getElem? (i := 984) (by decide +kernel), List.mem_of_getElem? (i := 1228) (by decide +kernel), List.mem_of_getElem? (i := 1229) (by decide +kernel)⟩
theorem lw_p65 : lw_okq (⟨"VaneCourtModel", "betweenOf", "()I"⟩, 40) := ⟨⟨by decide +kernel, by decide +kernel⟩, List.mem_of_getElem? (i := 984) (by decide +kernel), List.mem_of_getElem? (i := 1232) (by decide +kernel), List.mem_of_getElem? (i := 1233) (by decide +kernel)⟩
theorem lw_p66 : lw_okq (⟨"VaneCourtModel", "isAskHere", "()Z"⟩, 40) := ⟨⟨by decide +kernel, by decide +kernel⟩, List.mem_of_getElem? (i := 984) (by decide +kernel), List.mem_of_getElem? (i := 1236) (by decide +kernel), List.mem_of_getElem? (i := 1237) (by decide +kernel)⟩
theorem lw_p67 : lw_okq (⟨"VaneCourtModel", "openNow", "()I"⟩, 40) := ⟨⟨by decide +kernel, by decide +kernel⟩, List.mem_of_getElem? (i := 984) (by decide +kernel), List.mem_of_getElem? (i := 1240) (by decide +kernel), List.mem_of_getElem? (i := 1241) (by decide +kernel)⟩
theorem lw_p68 : lw_okq (⟨"VaneCourtModel", "isCompared", "()Z"⟩, 40) := ⟨⟨by decide +kernel, by decide +kernel⟩, List.mem_of_getElem? (i := 984) (by decide +kernel), List.mem_of_getElem? (i := 1244) (by decide +kernel), List.mem_of_getElem? (i := 1245) (by decide +kernel)⟩
theorem lw_p69 : lw_okq (⟨"VaneCourtModel", "compareOf", "()I"⟩, 40) := ⟨⟨by decide +kernel, by decide +kernel⟩, List.mem_of_getElem? (i := 984) (by decide +kernel), List.mem_of_getElem? (i := 1251) (by decide +kernel), List.mem_of_getElem? (i := 1252) (by decide +kernel)⟩
theorem lw_p70 : lw_okq (⟨"VaneCourtModel", "settle", "(I)V"⟩, 40) := ⟨⟨by decide +kernel, by decide +kernel⟩, List.mem_of_getElem? (i := 984) (by decide +kernel), List.mem_of_getElem? (i := 1255) (by decide +kernel), List.mem_of_getElem? (i := 1256) (by decide +kernel)⟩
theorem lw_p71 : lw_okq (⟨"VaneCourtModel", "emit", "(II)V"⟩, 40) := ⟨⟨by decide +kernel, by decide +kernel⟩, List.mem_of_getElem? (i := 984) (by decide +kernel), List.mem_of_getElem? (i := 1259) (by decide +kernel), List.mem_of_getElem? (i := 1260) (by decide +kernel)⟩
theorem lw_p72 : lw_okq (⟨"VaneCourtModel", "nextOfMost", "()I"⟩, 40) := ⟨⟨by decide +kernel, by decide +kernel⟩, List.mem_of_getElem? (i := 984) (by decide +kernel), List.mem_of_getElem? (i := 1263) (by decide +kernel), List.mem_of_getElem? (i := 1264) (by decide +kernel)⟩
theorem lw_p73 : lw_okq (⟨"VaneCourtModel", "shut", "(I)V"⟩, 40) := ⟨⟨by decide +kernel, by decide +kernel⟩, List.mem_of_getElem? (i := 984) (by decide +kernel), List.mem_of_getElem? (i := 1267) (by decide +kernel), List.mem_of_getElem? (i := 1268) (by decide +kernel)⟩
theorem lw_p74 : lw_okq (⟨"VaneCourtModel", "beginOne", "()I"⟩, 40) := ⟨⟨by decide +kernel, by decide +kernel⟩, List.mem_of_getElem? (i := 984) (by decide +kernel), List.mem_of_getElem? (i := 1271) (by decide +kernel), List.mem_of_getElem? (i := 1272) (by decide +kernel)⟩
theorem lw_p75 : lw_okq (⟨"VaneCourtModel", "nameOf", "()I"⟩, 40) := ⟨⟨by decide +kernel, by decide +kernel⟩, List.mem_of_getElem? (i := 984) (by decide +kernel), List.mem_of_getElem? (i := 1275) (by decide +kernel), List.mem_of_getElem? (i := 1276) (by decide +kernel)⟩
theorem lw_p76 : lw_okq (⟨"VaneCourtModel", "isQuarter", "()Z"⟩, 40) := ⟨⟨by decide +kernel, by decide +kernel⟩, List.mem_of_getElem? (i := 984) (by decide +kernel), List.mem_of_getElem? (i := 1279) (by decide +kernel), List.mem_of_getElem? (i := 1280) (by decide +kernel)⟩
theorem lw_p77 : lw_okq (⟨"VaneCourtModel", "isGravity", "()Z"⟩, 40) := ⟨⟨by decide +kernel, by decide +kernel⟩, List.mem_of_getElem? (i := 984) (by decide +kernel), List.mem_of_getElem? (i := 1283) (by decide +kernel), List.mem_of_getElem? (i := 1284) (by decide +kernel)⟩
theorem lw_p78 : lw_okq (⟨"VaneCourtModel", "isOf", "(I)Z"⟩, 40) := ⟨⟨by decide +kernel, by decide +kernel⟩, List.mem_of_getElem? (i := 984) (by decide +kernel), List.mem_of_getElem? (i := 1287) (by decide +kernel), List.mem_of_getElem? (i := 1288) (by decide +kernel)⟩
theorem lw_p79 : lw_okq (⟨"VaneCourtModel", "opened", "(I)I"⟩, 40) := ⟨⟨by decide +kernel, by decide +kernel⟩, List.mem_of_getElem? (i := 984) (by decide +kernel), List.mem_of_getElem? (i := 1291) (by decide +kernel), List.mem_of_getElem? (i := 1292) (by decide +kernel)⟩
def lw_privs_5 : List (MethodName × Nat) := [(⟨"VaneCourtModel", "behindOne", "()I"⟩, 40), (⟨"VaneCourtModel", "betweenOf", "()I"⟩, 40), (⟨"VaneCourtModel", "isAskHere", "()Z"⟩, 40), (⟨"VaneCourtModel", "openNow", "()I"⟩, 40), (⟨"VaneCourtModel", "isCompared", "()Z"⟩, 40), (⟨"VaneCourtModel", "compareOf", "()I"⟩, 40), (⟨"VaneCourtModel", "settle", "(I)V"⟩, 40), (⟨"VaneCourtModel", "emit", "(II)V"⟩, 40), (⟨"VaneCourtModel", "nextOfMost", "()I"⟩, 40), (⟨"VaneCourtModel", "shut", "(I)V"⟩, 40), (⟨"VaneCourtModel", "beginOne", "()I"⟩, 40), (⟨"VaneCourtModel", "nameOf", "()I"⟩, 40), (⟨"VaneCourtModel", "isQuarter", "()Z"⟩, 40), (⟨"VaneCourtModel", "isGravity", "()Z"⟩, 40), (⟨"VaneCourtModel", "isOf", "(I)Z"⟩, 40), (⟨"VaneCourtModel", "opened", "(I)I"⟩, 40)]
theorem lw_r5 : ∀ q ∈ lw_privs_5, lw_okq q := List.forall_mem_cons.mpr ⟨lw_p64, List.forall_mem_cons.mpr ⟨lw_p65, List.forall_mem_cons.mpr ⟨lw_p66, List.forall_mem_cons.mpr ⟨lw_p67, List.forall_mem_cons.mpr ⟨lw_p68, List.forall_mem_cons.mpr ⟨lw_p69, List.forall_mem_cons.mpr ⟨lw_p70, List.forall_mem_cons.mpr ⟨lw_p71, List.forall_mem_cons.mpr ⟨lw_p72, List.forall_mem_cons.mpr ⟨lw_p73, List.forall_mem_cons.mpr ⟨lw_p74, List.forall_mem_cons.mpr ⟨lw_p75, List.forall_mem_cons.mpr ⟨lw_p76, List.forall_mem_cons.mpr ⟨lw_p77, List.forall_mem_cons.mpr ⟨lw_p78, List.forall_mem_cons.mpr ⟨lw_p79, fun _ h => absurd h List.not_mem_nil⟩⟩⟩⟩⟩⟩⟩⟩⟩⟩⟩⟩⟩⟩⟩⟩
theorem lw_p80 : lw_okq (⟨"VaneCourtModel", "isAskAhead", "()Z"⟩, 40) := ⟨⟨by decide +kernel, by decide +kernel⟩, List.mem_of_getElem? (i := 984) (by decide +kernel), List.mem_of_getElem? (i := 1295) (by decide +kernel), List.mem_of_getElem? (i := 1296) (by decide +kernel)⟩
theorem lw_p81 : lw_okq (⟨"VaneCourtModel", "factAt", "()I"⟩, 40) := ⟨⟨by decide +kernel, by decide +kernel⟩, List.mem_of_getElem? (i := 984) (by decide +kernel), List.mem_of_getElem? (i := 1299) (by decide +kernel), List.mem_of_getElem? (i := 1300) (by decide +kernel)⟩
theorem lw_p82 : lw_okq (⟨"VaneCourtModel", "caseClause", "(I)I"⟩, 40) := ⟨⟨by decide +kernel, by decide +kernel⟩, List.mem_of_getElem? (i := 984) (by decide +kernel), List.mem_of_getElem? (i := 1303) (by decide +kernel), List.mem_of_getElem? (i := 1304) (by decide +kernel)⟩
theorem lw_p83 : lw_okq (⟨"VaneCourtModel", "gustClause", "(I)I"⟩, 40) := ⟨⟨by decide +kernel, by decide +kernel⟩, List.mem_of_getElem? (i := 984) (by decide +kernel), List.mem_of_getElem? (i := 1307) (by decide +kernel), List.mem_of_getElem? (i := 1308) (by decide +kernel)⟩
theorem lw_p84 : lw_okq (⟨"VaneCourtModel", "canCall", "(I)Z"⟩, 40) := ⟨⟨by decide +kernel, by decide +kernel⟩, List.mem_of_getElem? (i := 984) (by decide +kernel), List.mem_of_getElem? (i := 1327) (by decide +kernel), List.mem_of_getElem? (i := 1328) (by decide +kernel)⟩
theorem lw_p85 : lw_okq (⟨"VaneCourtModel", "isWaiting", "(I)Z"⟩, 40) := ⟨⟨by decide +kernel, by decide +kernel⟩, List.mem_of_getElem? (i := 984) (by decide +kernel), List.mem_of_getElem? (i := 1331) (by decide +kernel), List.mem_of_getElem? (i := 1332) (by decide +kernel)⟩
theorem lw_p86 : lw_okq (⟨"VaneCourtModel", "isCase", "(I)Z"⟩, 40) := ⟨⟨by decide +kernel, by decide +kernel⟩, List.mem_of_getElem? (i := 984) (by decide +kernel), List.mem_of_getElem? (i := 1335) (by decide +kernel), List.mem_of_getElem? (i := 1336) (by decide +kernel)⟩
theorem lw_p87 : lw_okq (⟨"VaneCourtModel", "get", "(II)I"⟩, 40) := ⟨⟨by decide +kernel, by decide +kernel⟩, List.mem_of_getElem? (i := 984) (by decide +kernel), List.mem_of_getElem? (i := 1339) (by decide +kernel), List.mem_of_getElem? (i := 1340) (by decide +kernel)⟩
theorem lw_p88 : lw_okq (⟨"VaneCourtModel", "keep", "()V"⟩, 40) := ⟨⟨by decide +kernel, by decide +kernel⟩, List.mem_of_getElem? (i := 984) (by decide +kernel), List.mem_of_getElem? (i := 1343) (by decide +kernel), List.mem_of_getElem? (i := 1344) (by decide +kernel)⟩
theorem lw_p89 : lw_okq (⟨"VaneCourtModel", "callNow", "(I)V"⟩, 40) := ⟨⟨by decide +kernel, by decide +kernel⟩, List.mem_of_getElem? (i := 984) (by decide +kernel), List.mem_of_getElem? (i := 1347) (by decide +kernel), List.mem_of_getElem? (i := 1348) (by decide +kernel)⟩
theorem lw_p90 : lw_okq (⟨"VaneCourtModel", "canDelay", "()Z"⟩, 40) := ⟨⟨by decide +kernel, by decide +kernel⟩, List.mem_of_getElem? (i := 984) (by decide +kernel), List.mem_of_getElem? (i := 1355) (by decide +kernel), List.mem_of_getElem? (i := 1356) (by decide +kernel)⟩
theorem lw_p91 : lw_okq (⟨"VaneCourtModel", "canAppeal", "(I)Z"⟩, 40) := ⟨⟨by decide +kernel, by decide +kernel⟩, List.mem_of_getElem? (i := 984) (by decide +kernel), List.mem_of_getElem? (i := 1363) (by decide +kernel), List.mem_of_getElem? (i := 1364) (by decide +kernel)⟩
theorem lw_p92 : lw_okq (⟨"VaneCourtModel", "appealNow", "(I)V"⟩, 40) := ⟨⟨by decide +kernel, by decide +kernel⟩, List.mem_of_getElem? (i := 984) (by decide +kernel), List.mem_of_getElem? (i := 1367) (by decide +kernel), List.mem_of_getElem? (i := 1368) (by decide +kernel)⟩
theorem lw_p93 : lw_okq (⟨"VaneCourtModel", "leave", "(II)V"⟩, 40) := ⟨⟨by decide +kernel, by decide +kernel⟩, List.mem_of_getElem? (i := 984) (by decide +kernel), List.mem_of_getElem? (i := 1379) (by decide +kernel), List.mem_of_getElem? (i := 1380) (by decide +kernel)⟩
theorem lw_p94 : lw_okq (⟨"VaneCourtModel", "arePassed", "(I)Z"⟩, 40) := ⟨⟨by decide +kernel, by decide +kernel⟩, List.mem_of_getElem? (i := 984) (by decide +kernel), List.mem_of_getElem? (i := 1387) (by decide +kernel), List.mem_of_getElem? (i := 1388) (by decide +kernel)⟩
theorem lw_p95 : lw_okq (⟨"VaneCourtModel", "pass", "()V"⟩, 40) := ⟨⟨by decide +kernel, by decide +kernel⟩, List.mem_of_getElem? (i := 984) (by decide +kernel), List.mem_of_getElem? (i := 1391) (by decide +kernel), List.mem_of_getElem? (i := 1392) (by decide +kernel)⟩
def lw_privs_6 : List (MethodName × Nat) := [(⟨"VaneCourtModel", "isAskAhead", "()Z"⟩, 40), (⟨"VaneCourtModel", "factAt", "()I"⟩, 40), (⟨"VaneCourtModel", "caseClause", "(I)I"⟩, 40), (⟨"VaneCourtModel", "gustClause", "(I)I"⟩, 40), (⟨"VaneCourtModel", "canCall", "(I)Z"⟩, 40), (⟨"VaneCourtModel", "isWaiting", "(I)Z"⟩, 40), (⟨"VaneCourtModel", "isCase", "(I)Z"⟩, 40), (⟨"VaneCourtModel", "get", "(II)I"⟩, 40), (⟨"VaneCourtModel", "keep", "()V"⟩, 40), (⟨"VaneCourtModel", "callNow", "(I)V"⟩, 40), (⟨"VaneCourtModel", "canDelay", "()Z"⟩, 40), (⟨"VaneCourtModel", "canAppeal", "(I)Z"⟩, 40), (⟨"VaneCourtModel", "appealNow", "(I)V"⟩, 40), (⟨"VaneCourtModel", "leave", "(II)V"⟩, 40), (⟨"VaneCourtModel", "arePassed", "(I)Z"⟩, 40), (⟨"VaneCourtModel", "pass", "()V"⟩, 40)]
theorem lw_r6 : ∀ q ∈ lw_privs_6, lw_okq q := List.forall_mem_cons.mpr ⟨lw_p80, List.forall_mem_cons.mpr ⟨lw_p81, List.forall_mem_cons.mpr ⟨lw_p82, List.forall_mem_cons.mpr ⟨lw_p83, List.forall_mem_cons.mpr ⟨lw_p84, List.forall_mem_cons.mpr ⟨lw_p85, List.forall_mem_cons.mpr ⟨lw_p86, List.forall_mem_cons.mpr ⟨lw_p87, List.forall_mem_cons.mpr ⟨lw_p88, List.forall_mem_cons.mpr ⟨lw_p89, List.forall_mem_cons.mpr ⟨lw_p90, List.forall_mem_cons.mpr ⟨lw_p91, List.forall_mem_cons.mpr ⟨lw_p92, List.forall_mem_cons.mpr ⟨lw_p93, List.forall_mem_cons.mpr ⟨lw_p94, List.forall_mem_cons.mpr ⟨lw_p95, fun _ h => absurd h List.not_mem_nil⟩⟩⟩⟩⟩⟩⟩⟩⟩⟩⟩⟩⟩⟩⟩⟩
theorem lw_p96 : lw_okq (⟨"VaneCourtModel", "hear", "()V"⟩, 40) := ⟨⟨by decide +kernel, by decide +kernel⟩, List.mem_of_getElem? (i := 984) (by decide +kernel), List.mem_of_getElem? (i := 1395) (by decide +kernel), List.mem_of_getElem? (i := 1396) (by decide +kernel)⟩
theorem lw_p97 : lw_okq (⟨"VaneCourtModel", "isFound", "(III)Z"⟩, 40) := ⟨⟨by decide +kernel, by decide +kernel⟩, List.mem_of_getElem? (i := 984) (by decide +kernel), List.mem_of_getElem? (i := 1399) (by decide +kernel), List.mem_of_getElem? (i := 1400) (by decide +kernel)⟩
theorem lw_p98 : lw_okq (⟨"VaneCourtModel", "isGuilty", "(IIIII)Z"⟩, 40) := ⟨⟨by decide +kernel, by decide +kernel⟩, List.mem_of_getElem? (i := 984) (by decide +kernel), List.mem_of_getElem? (i := 1403) (by decide +kernel), List.mem_of_getElem? (i := 1404) (by decide +kernel)⟩
theorem lw_p99 : lw_okq (⟨"VaneCourtModel", "clauseOf", "(III)I"⟩, 40) := ⟨⟨by decide +kernel, by decide +kernel⟩, List.mem_of_getElem? (i := 984) (by decide +kernel), List.mem_of_getElem? (i := 1407) (by decide +kernel), List.mem_of_getElem? (i := 1408) (by decide +kernel)⟩
theorem lw_p100 : lw_okq (⟨"VaneCourtModel", "nameCase", "(II)V"⟩, 40) := ⟨⟨by decide +kernel, by decide +kernel⟩, List.mem_of_getElem? (i := 984) (by decide +kernel), List.mem_of_getElem? (i := 1411) (by decide +kernel), List.mem_of_getElem? (i := 1412) (by decide +kernel)⟩
theorem lw_p101 : lw_okq (⟨"VaneCourtModel", "name", "()V"⟩, 40) := ⟨⟨by decide +kernel, by decide +kernel⟩, List.mem_of_getElem? (i := 984) (by decide +kernel), List.mem_of_getElem? (i := 1415) (by decide +kernel), List.mem_of_getElem? (i := 1416) (by decide +kernel)⟩
theorem lw_p102 : lw_okq (⟨"VaneCourtModel", "work", "(II)V"⟩, 40) := ⟨⟨by decide +kernel, by decide +kernel⟩, List.mem_of_getElem? (i := 984) (by decide +kernel), List.mem_of_getElem? (i := 1419) (by decide +kernel), List.mem_of_getElem? (i := 1420) (by decide +kernel)⟩
theorem lw_p103 : lw_okq (⟨"VaneCourtModel", "areMost", "(II)Z"⟩, 40) := ⟨⟨by decide +kernel, by decide +kernel⟩, List.mem_of_getElem? (i := 984) (by decide +kernel), List.mem_of_getElem? (i := 1423) (by decide +kernel), List.mem_of_getElem? (i := 1424) (by decide +kernel)⟩
theorem lw_p104 : lw_okq (⟨"VaneCourtModel", "isCalm", "()Z"⟩, 40) := ⟨⟨by decide +kernel, by decide +kernel⟩, List.mem_of_getElem? (i := 984) (by decide +kernel), List.mem_of_getElem? (i := 1441) (by decide +kernel), List.mem_of_getElem? (i := 1442) (by decide +kernel)⟩
theorem lw_p105 : lw_okq (⟨"VaneCourtModel", "sentenceOf", "(III)I"⟩, 40) := ⟨⟨by decide +kernel, by decide +kernel⟩, List.mem_of_getElem? (i := 984) (by decide +kernel), List.mem_of_getElem? (i := 1445) (by decide +kernel), List.mem_of_getElem? (i := 1446) (by decide +kernel)⟩
theorem lw_p106 : lw_okq (⟨"VaneCourtModel", "says", "(IIII)I"⟩, 40) := ⟨⟨by decide +kernel, by decide +kernel⟩, List.mem_of_getElem? (i := 984) (by decide +kernel), List.mem_of_getElem? (i := 1452) (by decide +kernel), List.mem_of_getElem? (i := 1453) (by decide +kernel)⟩
theorem lw_p107 : lw_okq (⟨"VaneCourtModel", "drawn", "(I)I"⟩, 40) := ⟨⟨by decide +kernel, by decide +kernel⟩, List.mem_of_getElem? (i := 984) (by decide +kernel), List.mem_of_getElem? (i := 1459) (by decide +kernel), List.mem_of_getElem? (i := 1460) (by decide +kernel)⟩
theorem lw_p108 : lw_okq (⟨"VaneCourtModel", "anew", "()V"⟩, 40) := ⟨⟨by decide +kernel, by decide +kernel⟩, List.mem_of_getElem? (i := 984) (by decide +kernel), List.mem_of_getElem? (i := 1463) (by decide +kernel), List.mem_of_getElem? (i := 1464) (by decide +kernel)⟩
theorem lw_p109 : lw_okq (⟨"VaneCourtModel", "turnBy", "(I)V"⟩, 40) := ⟨⟨by decide +kernel, by decide +kernel⟩, List.mem_of_getElem? (i := 984) (by decide +kernel), List.mem_of_getElem? (i := 1467) (by decide +kernel), List.mem_of_getElem? (i := 1468) (by decide +kernel)⟩
theorem lw_p110 : lw_okq (⟨"VaneCourtModel", "isPlayed", "(I)Z"⟩, 40) := ⟨⟨by decide +kernel, by decide +kernel⟩, List.mem_of_getElem? (i := 984) (by decide +kernel), List.mem_of_getElem? (i := 1475) (by decide +kernel), List.mem_of_getElem? (i := 1476) (by decide +kernel)⟩
theorem lw_p111 : lw_okq (⟨"VaneCourtModel", "happens", "(I)V"⟩, 40) := ⟨⟨by decide +kernel, by decide +kernel⟩, List.mem_of_getElem? (i := 984) (by decide +kernel), List.mem_of_getElem? (i := 1489) (by decide +kernel), List.mem_of_getElem? (i := 1490) (by decide +kernel)⟩
def lw_privs_7 : List (MethodName × Nat) := [(⟨"VaneCourtModel", "hear", "()V"⟩, 40), (⟨"VaneCourtModel", "isFound", "(III)Z"⟩, 40), (⟨"VaneCourtModel", "isGuilty", "(IIIII)Z"⟩, 40), (⟨"VaneCourtModel", "clauseOf", "(III)I"⟩, 40), (⟨"VaneCourtModel", "nameCase", "(II)V"⟩, 40), (⟨"VaneCourtModel", "name", "()V"⟩, 40), (⟨"VaneCourtModel", "work", "(II)V"⟩, 40), (⟨"VaneCourtModel", "areMost", "(II)Z"⟩, 40), (⟨"VaneCourtModel", "isCalm", "()Z"⟩, 40), (⟨"VaneCourtModel", "sentenceOf", "(III)I"⟩, 40), (⟨"VaneCourtModel", "says", "(IIII)I"⟩, 40), (⟨"VaneCourtModel", "drawn", "(I)I"⟩, 40), (⟨"VaneCourtModel", "anew", "()V"⟩, 40), (⟨"VaneCourtModel", "turnBy", "(I)V"⟩, 40), (⟨"VaneCourtModel", "isPlayed", "(I)Z"⟩, 40), (⟨"VaneCourtModel", "happens", "(I)V"⟩, 40)]
theorem lw_r7 : ∀ q ∈ lw_privs_7, lw_okq q := List.forall_mem_cons.mpr ⟨lw_p96, List.forall_mem_cons.mpr ⟨lw_p97, List.forall_mem_cons.mpr ⟨lw_p98, List.forall_mem_cons.mpr ⟨lw_p99, List.forall_mem_cons.mpr ⟨lw_p100, List.forall_mem_cons.mpr ⟨lw_p101, List.forall_mem_cons.mpr ⟨lw_p102, List.forall_mem_cons.mpr ⟨lw_p103, List.forall_mem_cons.mpr ⟨lw_p104, List.forall_mem_cons.mpr ⟨lw_p105, List.forall_mem_cons.mpr ⟨lw_p106, List.forall_mem_cons.mpr ⟨lw_p107, List.forall_mem_cons.mpr ⟨lw_p108, List.forall_mem_cons.mpr ⟨lw_p109, List.forall_mem_cons.mpr ⟨lw_p110, List.forall_mem_cons.mpr ⟨lw_p111, fun _ h => absurd h List.not_mem_nil⟩⟩⟩⟩⟩⟩⟩⟩⟩⟩⟩⟩⟩⟩⟩⟩
theorem lw_p112 : lw_okq (⟨"VaneCourtModel", "shown", "()I"⟩, 40) := ⟨⟨by decide +kernel, by decide +kernel⟩, List.mem_of_getElem? (i := 984) (by decide +kernel), List.mem_of_getElem? (i := 1505) (by decide +kernel), List.mem_of_getElem? (i := 1506) (by decide +kernel)⟩
theorem lw_p113 : lw_okq (⟨"VaneCourtModel", "layWinds", "(I)I"⟩, 40) := ⟨⟨by decide +kernel, by decide +kernel⟩, List.mem_of_getElem? (i := 984) (by decide +kernel), List.mem_of_getElem? (i := 1513) (by decide +kernel), List.mem_of_getElem? (i := 1514) (by decide +kernel)⟩
theorem lw_p114 : lw_okq (⟨"VaneCourtModel", "begin", "()V"⟩, 40) := ⟨⟨by decide +kernel, by decide +kernel⟩, List.mem_of_getElem? (i := 984) (by decide +kernel), List.mem_of_getElem? (i := 1517) (by decide +kernel), List.mem_of_getElem? (i := 1518) (by decide +kernel)⟩
theorem lw_p115 : lw_okq (⟨"VaneCourtModel", "putBack", "()V"⟩, 40) := ⟨⟨by decide +kernel, by decide +kernel⟩, List.mem_of_getElem? (i := 984) (by decide +kernel), List.mem_of_getElem? (i := 1521) (by decide +kernel), List.mem_of_getElem? (i := 1522) (by decide +kernel)⟩
theorem lw_p116 : lw_okq (⟨"VaneCourtModel", "isEnding", "(III)Z"⟩, 40) := ⟨⟨by decide +kernel, by decide +kernel⟩, List.mem_of_getElem? (i := 984) (by decide +kernel), List.mem_of_getElem? (i := 1529) (by decide +kernel), List.mem_of_getElem? (i := 1530) (by decide +kernel)⟩
theorem lw_p117 : lw_okq (⟨"VaneCourtModel", "isGuiltyBy", "(II)Z"⟩, 40) := ⟨⟨by decide +kernel, by decide +kernel⟩, List.mem_of_getElem? (i := 984) (by decide +kernel), List.mem_of_getElem? (i := 1546) (by decide +kernel), List.mem_of_getElem? (i := 1547) (by decide +kernel)⟩
theorem lw_p118 : lw_okq (⟨"VaneCourtModel", "clashOf", "(II)I"⟩, 40) := ⟨⟨by decide +kernel, by decide +kernel⟩, List.mem_of_getElem? (i := 984) (by decide +kernel), List.mem_of_getElem? (i := 1557) (by decide +kernel), List.mem_of_getElem? (i := 1558) (by decide +kernel)⟩
theorem lw_p119 : lw_okq (⟨"VaneCourtModel", "sentencesBy", "(I)I"⟩, 40) := ⟨⟨by decide +kernel, by decide +kernel⟩, List.mem_of_getElem? (i := 984) (by decide +kernel), List.mem_of_getElem? (i := 1574) (by decide +kernel), List.mem_of_getElem? (i := 1575) (by decide +kernel)⟩
theorem lw_p120 : lw_okq (⟨"VaneCourtModel", "nextRow", "(I)Z"⟩, 40) := ⟨⟨by decide +kernel, by decide +kernel⟩, List.mem_of_getElem? (i := 984) (by decide +kernel), List.mem_of_getElem? (i := 1578) (by decide +kernel), List.mem_of_getElem? (i := 1579) (by decide +kernel)⟩
theorem lw_p121 : lw_okq (⟨"VaneCourtModel", "wrongBy", "(II)I"⟩, 40) := ⟨⟨by decide +kernel, by decide +kernel⟩, List.mem_of_getElem? (i := 984) (by decide +kernel), List.mem_of_getElem? (i := 1590) (by decide +kernel), List.mem_of_getElem? (i := 1591) (by decide +kernel)⟩
theorem lw_p122 : lw_okq (⟨"VaneCourtModel", "codesBy", "(I)I"⟩, 40) := ⟨⟨by decide +kernel, by decide +kernel⟩, List.mem_of_getElem? (i := 984) (by decide +kernel), List.mem_of_getElem? (i := 1611) (by decide +kernel), List.mem_of_getElem? (i := 1612) (by decide +kernel)⟩
theorem lw_p123 : lw_okq (⟨"VaneCourtModel", "isCode", "(I)Z"⟩, 40) := ⟨⟨by decide +kernel, by decide +kernel⟩, List.mem_of_getElem? (i := 984) (by decide +kernel), List.mem_of_getElem? (i := 1615) (by decide +kernel), List.mem_of_getElem? (i := 1616) (by decide +kernel)⟩
theorem lw_p124 : lw_okq (⟨"VaneCourtModel", "isBy", "(II)Z"⟩, 40) := ⟨⟨by decide +kernel, by decide +kernel⟩, List.mem_of_getElem? (i := 984) (by decide +kernel), List.mem_of_getElem? (i := 1619) (by decide +kernel), List.mem_of_getElem? (i := 1620) (by decide +kernel)⟩
theorem lw_p125 : lw_okq (⟨"VaneCourtModel", "together", "(II)I"⟩, 40) := ⟨⟨by decide +kernel, by decide +kernel⟩, List.mem_of_getElem? (i := 984) (by decide +kernel), List.mem_of_getElem? (i := 1639) (by decide +kernel), List.mem_of_getElem? (i := 1640) (by decide +kernel)⟩
def lw_privs_8 : List (MethodName × Nat) := [(⟨"VaneCourtModel", "shown", "()I"⟩, 40), (⟨"VaneCourtModel", "layWinds", "(I)I"⟩, 40), (⟨"VaneCourtModel", "begin", "()V"⟩, 40), (⟨"VaneCourtModel", "putBack", "()V"⟩, 40), (⟨"VaneCourtModel", "isEnding", "(III)Z"⟩, 40), (⟨"VaneCourtModel", "isGuiltyBy", "(II)Z"⟩, 40), (⟨"VaneCourtModel", "clashOf", "(II)I"⟩, 40), (⟨"VaneCourtModel", "sentencesBy", "(I)I"⟩, 40), (⟨"VaneCourtModel", "nextRow", "(I)Z"⟩, 40), (⟨"VaneCourtModel", "wrongBy", "(II)I"⟩, 40), (⟨"VaneCourtModel", "codesBy", "(I)I"⟩, 40), (⟨"VaneCourtModel", "isCode", "(I)Z"⟩, 40), (⟨"VaneCourtModel", "isBy", "(II)Z"⟩, 40), (⟨"VaneCourtModel", "together", "(II)I"⟩, 40)]
theorem lw_r8 : ∀ q ∈ lw_privs_8, lw_okq q := List.forall_mem_cons.mpr ⟨lw_p112, List.forall_mem_cons.mpr ⟨lw_p113, List.forall_mem_cons.mpr ⟨lw_p114, List.forall_mem_cons.mpr ⟨lw_p115, List.forall_mem_cons.mpr ⟨lw_p116, List.forall_mem_cons.mpr ⟨lw_p117, List.forall_mem_cons.mpr ⟨lw_p118, List.forall_mem_cons.mpr ⟨lw_p119, List.forall_mem_cons.mpr ⟨lw_p120, List.forall_mem_cons.mpr ⟨lw_p121, List.forall_mem_cons.mpr ⟨lw_p122, List.forall_mem_cons.mpr ⟨lw_p123, List.forall_mem_cons.mpr ⟨lw_p124, List.forall_mem_cons.mpr ⟨lw_p125, fun _ h => absurd h List.not_mem_nil⟩⟩⟩⟩⟩⟩⟩⟩⟩⟩⟩⟩⟩⟩
def lw_privs : List (MethodName × Nat) := lw_privs_1 ++ (lw_privs_2 ++ (lw_privs_3 ++ (lw_privs_4 ++ (lw_privs_5 ++ (lw_privs_6 ++ (lw_privs_7 ++ (lw_privs_8)))))))
def lw_tbl : List Cond := k2_sels lw_privs ++ tables_1
theorem lw_privs_ok : ∀ q ∈ lw_privs, lw_okq q := by
  show ∀ q ∈ lw_privs_1 ++ (lw_privs_2 ++ (lw_privs_3 ++ (lw_privs_4 ++ (lw_privs_5 ++ (lw_privs_6 ++ (lw_privs_7 ++ (lw_privs_8))))))), lw_okq q
  exact List.forall_mem_append.mpr ⟨lw_r1, List.forall_mem_append.mpr ⟨lw_r2, List.forall_mem_append.mpr ⟨lw_r3, List.forall_mem_append.mpr ⟨lw_r4, List.forall_mem_append.mpr ⟨lw_r5, List.forall_mem_append.mpr ⟨lw_r6, List.forall_mem_append.mpr ⟨lw_r7, lw_r8⟩⟩⟩⟩⟩⟩⟩
-- ===== end of PART A; then your names; then what follows =====
def RX0 : String := "VaneCourt$Court"
def TX0 : u_T := fun k => match k with
  | 0 => ("VaneCourt$Court", "now", "[I", true)
  | 1 => ("VaneCourt$Court", "steps", "[I", true)
  | 2 => ("VaneCourt$Court", "stepCount", "I", false)
  | 3 => ("VaneCourt$Court", "stepNext", "I", false)
  | 4 => ("VaneCourt$Court", "cases", "LVaneCourt$Rows;", true)
  | 5 => ("VaneCourt$Court", "records", "LVaneCourt$Rows;", true)
  | 6 => ("VaneCourt$Court", "learned", "LVaneCourt$Rows;", true)
  | 7 => ("VaneCourt$Court", "counsels", "LVaneCourt$Rows;", true)
  | 8 => ("VaneCourt$Court", "texts", "I", false)
  | _ => ("VaneCourt$Court", "ruling", "I", false)
def tyX0 : Nat → FieldType := fun k => match k with
  | 0 => .array .int
  | 1 => .array .int
  | 2 => .int
  | 3 => .int
  | 4 => .object "VaneCourt$Rows"
  | 5 => .object "VaneCourt$Rows"
  | 6 => .object "VaneCourt$Rows"
  | 7 => .object "VaneCourt$Rows"
  | 8 => .int
  | _ => .int
abbrev wsX00 : List Cond := u_ws RX0 TX0 10
theorem nmX0 : ∀ a, a < 10 → ∀ b, b < 10 → a ≠ b → (TX0 a).2.1 ≠ (TX0 b).2.1 := by decide +kernel
theorem tyX0_ok : ∀ k, k < 10 → parseFieldDescriptor (TX0 k).2.2.1 = some (tyX0 k) := by decide +kernel
abbrev cX0_init : ByteArray := prog_2_method_1_code
def yX0_init : MethodName := ⟨RX0, "<init>", "()V"⟩
abbrev cX0_copyFrom : ByteArray := prog_2_method_2_code
def yX0_copyFrom : MethodName := ⟨RX0, "copyFrom", "(LVaneCourt$Court;)V"⟩
abbrev cX0_keepStep : ByteArray := prog_2_method_3_code
def yX0_keepStep : MethodName := ⟨RX0, "keepStep", "()V"⟩
abbrev cX0_takeBack : ByteArray := prog_2_method_4_code
def yX0_takeBack : MethodName := ⟨RX0, "takeBack", "()Z"⟩
abbrev cX0_hoursLeft : ByteArray := prog_2_method_5_code
def yX0_hoursLeft : MethodName := ⟨RX0, "hoursLeft", "()I"⟩
abbrev cX0_isWaiting : ByteArray := prog_2_method_6_code
def yX0_isWaiting : MethodName := ⟨RX0, "isWaiting", "(I)Z"⟩
abbrev cX0_canBring : ByteArray := prog_2_method_7_code
def yX0_canBring : MethodName := ⟨RX0, "canBring", "(I)Z"⟩
abbrev cX0_bring : ByteArray := prog_2_method_8_code
def yX0_bring : MethodName := ⟨RX0, "bring", "(I)V"⟩
abbrev cX0_canPutOff : ByteArray := prog_2_method_9_code
def yX0_canPutOff : MethodName := ⟨RX0, "canPutOff", "()Z"⟩
abbrev cX0_putOff : ByteArray := prog_2_method_10_code
def yX0_putOff : MethodName := ⟨RX0, "putOff", "()V"⟩
abbrev cX0_canReopen : ByteArray := prog_2_method_11_code
def yX0_canReopen : MethodName := ⟨RX0, "canReopen", "(I)Z"⟩
abbrev cX0_reopen : ByteArray := prog_2_method_12_code
def yX0_reopen : MethodName := ⟨RX0, "reopen", "(I)V"⟩
abbrev cX0_release : ByteArray := prog_2_method_13_code
def yX0_release : MethodName := ⟨RX0, "release", "(II)V"⟩
abbrev cX0_drawX : ByteArray := prog_2_method_14_code
def yX0_drawX : MethodName := ⟨RX0, "drawX", "()I"⟩
abbrev cX0_passHour : ByteArray := prog_2_method_15_code
def yX0_passHour : MethodName := ⟨RX0, "passHour", "(LVaneCourt$Law;LVaneCourt$Text;)Z"⟩
abbrev cX0_close : ByteArray := prog_2_method_16_code
def yX0_close : MethodName := ⟨RX0, "close", "(II)V"⟩
abbrev cX0_passDrawn : ByteArray := prog_2_method_17_code
def yX0_passDrawn : MethodName := ⟨RX0, "passDrawn", "(LVaneCourt$Law;LVaneCourt$Text;)V"⟩
def RX1 : String := "VaneCourt$Foresight"
def TX1 : u_T := fun k => match k with
  | 0 => ("VaneCourt$Foresight", "court", "LVaneCourt$Court;", true)
  | 1 => ("VaneCourt$Foresight", "law", "LVaneCourt$Law;", true)
  | 2 => ("VaneCourt$Foresight", "text", "LVaneCourt$Text;", false)
  | 3 => ("VaneCourt$Foresight", "seen", "I", false)
  | 4 => ("VaneCourt$Foresight", "quarters", "[I", true)
  | 5 => ("VaneCourt$Foresight", "forces", "[I", true)
  | 6 => ("VaneCourt$Foresight", "fogs", "[I", true)
  | 7 => ("VaneCourt$Foresight", "winds", "[[I", true)
  | 8 => ("VaneCourt$Foresight", "worths", "[I", true)
  | 9 => ("VaneCourt$Foresight", "order", "[I", true)
  | 10 => ("VaneCourt$Foresight", "bestOrder", "[I", true)
  | _ => ("VaneCourt$Foresight", "bestSum", "I", false)
def tyX1 : Nat → FieldType := fun k => match k with
  | 0 => .object "VaneCourt$Court"
  | 1 => .object "VaneCourt$Law"
  | 2 => .object "VaneCourt$Text"
  | 3 => .int
  | 4 => .array .int
  | 5 => .array .int
  | 6 => .array .int
  | 7 => .array (.array .int)
  | 8 => .array .int
  | 9 => .array .int
  | 10 => .array .int
  | _ => .int
abbrev wsX10 : List Cond := u_ws RX1 TX1 12
theorem nmX1 : ∀ a, a < 12 → ∀ b, b < 12 → a ≠ b → (TX1 a).2.1 ≠ (TX1 b).2.1 := by decide +kernel
theorem tyX1_ok : ∀ k, k < 12 → parseFieldDescriptor (TX1 k).2.2.1 = some (tyX1 k) := by decide +kernel
abbrev cX1_init : ByteArray := prog_3_method_1_code
def yX1_init : MethodName := ⟨RX1, "<init>", "(LVaneCourt$Court;LVaneCourt$Law;)V"⟩
abbrev cX1_look : ByteArray := prog_3_method_2_code
def yX1_look : MethodName := ⟨RX1, "look", "(LVaneCourt$Text;I)V"⟩
abbrev cX1_isCalm : ByteArray := prog_3_method_3_code
def yX1_isCalm : MethodName := ⟨RX1, "isCalm", "(I)Z"⟩
abbrev cX1_longestCalm : ByteArray := prog_3_method_4_code
def yX1_longestCalm : MethodName := ⟨RX1, "longestCalm", "()I"⟩
abbrev cX1_hoursOf : ByteArray := prog_3_method_5_code
def yX1_hoursOf : MethodName := ⟨RX1, "hoursOf", "(I)I"⟩
abbrev cX1_endOf : ByteArray := prog_3_method_6_code
def yX1_endOf : MethodName := ⟨RX1, "endOf", "(III)I"⟩
abbrev cX1_soonest : ByteArray := prog_3_method_7_code
def yX1_soonest : MethodName := ⟨RX1, "soonest", "(IZ)I"⟩
abbrev cX1_gravest : ByteArray := prog_3_method_8_code
def yX1_gravest : MethodName := ⟨RX1, "gravest", "(I)I"⟩
abbrev cX1_guiltyWays : ByteArray := prog_3_method_9_code
def yX1_guiltyWays : MethodName := ⟨RX1, "guiltyWays", "(LVaneCourt$Text;II)I"⟩
abbrev cX1_waysFrom : ByteArray := prog_3_method_10_code
def yX1_waysFrom : MethodName := ⟨RX1, "waysFrom", "(IIIII)I"⟩
abbrev cX1_duel : ByteArray := prog_3_method_11_code
def yX1_duel : MethodName := ⟨RX1, "duel", "(IZ)I"⟩
abbrev cX1_arrangeAll : ByteArray := prog_3_method_12_code
def yX1_arrangeAll : MethodName := ⟨RX1, "arrangeAll", "(I)V"⟩
abbrev cX1_arrange : ByteArray := prog_3_method_13_code
def yX1_arrange : MethodName := ⟨RX1, "arrange", "(IIII)V"⟩
def RX2 : String := "VaneCourt$Law"
def TX2 : u_T := fun k => match k with
  | 0 => ("VaneCourt$Law", "names", "[I", true)
  | 1 => ("VaneCourt$Law", "facts", "I", false)
  | _ => ("VaneCourt$Law", "stack", "[I", true)
def tyX2 : Nat → FieldType := fun k => match k with
  | 0 => .array .int
  | 1 => .int
  | _ => .array .int
abbrev wsX20 : List Cond := u_ws RX2 TX2 3
theorem nmX2 : ∀ a, a < 3 → ∀ b, b < 3 → a ≠ b → (TX2 a).2.1 ≠ (TX2 b).2.1 := by decide +kernel
theorem tyX2_ok : ∀ k, k < 3 → parseFieldDescriptor (TX2 k).2.2.1 = some (tyX2 k) := by decide +kernel
abbrev cX2_init : ByteArray := prog_4_method_1_code
def yX2_init : MethodName := ⟨RX2, "<init>", "()V"⟩
abbrev cX2_seeWind : ByteArray := prog_4_method_2_code
def yX2_seeWind : MethodName := ⟨RX2, "seeWind", "(III)V"⟩
abbrev cX2_seeCase : ByteArray := prog_4_method_3_code
def yX2_seeCase : MethodName := ⟨RX2, "seeCase", "(LVaneCourt$Rows;II)V"⟩
abbrev cX2_isGuiltyBy : ByteArray := prog_4_method_4_code
def yX2_isGuiltyBy : MethodName := ⟨RX2, "isGuiltyBy", "(LVaneCourt$Text;I)Z"⟩
abbrev cX2_judged : ByteArray := prog_4_method_5_code
def yX2_judged : MethodName := ⟨RX2, "judged", "(LVaneCourt$Text;ZI)I"⟩
abbrev cX2_turn : ByteArray := prog_4_method_6_code
def yX2_turn : MethodName := ⟨RX2, "turn", "([ILVaneCourt$Text;I)V"⟩
abbrev cX2_veered : ByteArray := prog_4_method_7_code
def yX2_veered : MethodName := ⟨RX2, "veered", "(LVaneCourt$Text;)I"⟩
abbrev cX2_blown : ByteArray := prog_4_method_8_code
def yX2_blown : MethodName := ⟨RX2, "blown", "(LVaneCourt$Text;)I"⟩
abbrev cX2_isFoggy : ByteArray := prog_4_method_9_code
def yX2_isFoggy : MethodName := ⟨RX2, "isFoggy", "(LVaneCourt$Text;)Z"⟩
abbrev cX2_worth : ByteArray := prog_4_method_10_code
def yX2_worth : MethodName := ⟨RX2, "worth", "(LVaneCourt$Text;I)I"⟩
abbrev cX2_wants : ByteArray := prog_4_method_11_code
def yX2_wants : MethodName := ⟨RX2, "wants", "(I)I"⟩
abbrev cX2_mostAreSo : ByteArray := prog_4_method_12_code
def yX2_mostAreSo : MethodName := ⟨RX2, "mostAreSo", "(II)Z"⟩
abbrev cX2_joined : ByteArray := prog_4_method_13_code
def yX2_joined : MethodName := ⟨RX2, "joined", "(III)I"⟩
def RX3 : String := "VaneCourt$Name"
def TX3 : u_T := fun k => match k with
  | _ => ("", "", "", false)
def tyX3 : Nat → FieldType := fun k => match k with
  | _ => .int
abbrev wsX30 : List Cond := u_ws RX3 TX3 0
theorem nmX3 : ∀ a, a < 0 → ∀ b, b < 0 → a ≠ b → (TX3 a).2.1 ≠ (TX3 b).2.1 := by decide +kernel
theorem tyX3_ok : ∀ k, k < 0 → parseFieldDescriptor (TX3 k).2.2.1 = some (tyX3 k) := by decide +kernel
def RX4 : String := "VaneCourt$Reader"
def TX4 : u_T := fun k => match k with
  | 0 => ("VaneCourt$Reader", "tape", "LVaneCourt$Tape;", true)
  | 1 => ("VaneCourt$Reader", "text", "LVaneCourt$Text;", true)
  | 2 => ("VaneCourt$Reader", "at", "I", false)
  | 3 => ("VaneCourt$Reader", "kind", "I", false)
  | 4 => ("VaneCourt$Reader", "lawKind", "I", false)
  | 5 => ("VaneCourt$Reader", "number", "I", false)
  | 6 => ("VaneCourt$Reader", "fault", "I", false)
  | _ => ("VaneCourt$Reader", "faultPlace", "I", false)
def tyX4 : Nat → FieldType := fun k => match k with
  | 0 => .object "VaneCourt$Tape"
  | 1 => .object "VaneCourt$Text"
  | 2 => .int
  | 3 => .int
  | 4 => .int
  | 5 => .int
  | 6 => .int
  | _ => .int
abbrev wsX40 : List Cond := u_ws RX4 TX4 8
theorem nmX4 : ∀ a, a < 8 → ∀ b, b < 8 → a ≠ b → (TX4 a).2.1 ≠ (TX4 b).2.1 := by decide +kernel
theorem tyX4_ok : ∀ k, k < 8 → parseFieldDescriptor (TX4 k).2.2.1 = some (tyX4 k) := by decide +kernel
abbrev cX4_init : ByteArray := prog_6_method_1_code
def yX4_init : MethodName := ⟨RX4, "<init>", "(LVaneCourt$Tape;LVaneCourt$Text;)V"⟩
abbrev cX4_readAll : ByteArray := prog_6_method_2_code
def yX4_readAll : MethodName := ⟨RX4, "readAll", "()Z"⟩
abbrev cX4_advance : ByteArray := prog_6_method_3_code
def yX4_advance : MethodName := ⟨RX4, "advance", "()V"⟩
abbrev cX4_refuse : ByteArray := prog_6_method_4_code
def yX4_refuse : MethodName := ⟨RX4, "refuse", "(I)Z"⟩
abbrev cX4_take : ByteArray := prog_6_method_5_code
def yX4_take : MethodName := ⟨RX4, "take", "(I)Z"⟩
abbrev cX4_valueHere : ByteArray := prog_6_method_6_code
def yX4_valueHere : MethodName := ⟨RX4, "valueHere", "()I"⟩
abbrev cX4_takeNumber : ByteArray := prog_6_method_7_code
def yX4_takeNumber : MethodName := ⟨RX4, "takeNumber", "(II)Z"⟩
abbrev cX4_takeTold : ByteArray := prog_6_method_8_code
def yX4_takeTold : MethodName := ⟨RX4, "takeTold", "(III)Z"⟩
abbrev cX4_readClause : ByteArray := prog_6_method_9_code
def yX4_readClause : MethodName := ⟨RX4, "readClause", "()Z"⟩
abbrev cX4_lawOf : ByteArray := prog_6_method_10_code
def yX4_lawOf : MethodName := ⟨RX4, "lawOf", "(I)I"⟩
abbrev cX4_readDeed : ByteArray := prog_6_method_11_code
def yX4_readDeed : MethodName := ⟨RX4, "readDeed", "(I)Z"⟩
abbrev cX4_readLaw : ByteArray := prog_6_method_12_code
def yX4_readLaw : MethodName := ⟨RX4, "readLaw", "(I)Z"⟩
abbrev cX4_readCodeHead : ByteArray := prog_6_method_13_code
def yX4_readCodeHead : MethodName := ⟨RX4, "readCodeHead", "()Z"⟩
abbrev cX4_readEither : ByteArray := prog_6_method_14_code
def yX4_readEither : MethodName := ⟨RX4, "readEither", "(I)Z"⟩
abbrev cX4_readBoth : ByteArray := prog_6_method_15_code
def yX4_readBoth : MethodName := ⟨RX4, "readBoth", "(I)Z"⟩
abbrev cX4_readAsk : ByteArray := prog_6_method_16_code
def yX4_readAsk : MethodName := ⟨RX4, "readAsk", "(I)Z"⟩
abbrev cX4_compares : ByteArray := prog_6_method_17_code
def yX4_compares : MethodName := ⟨RX4, "compares", "(I)Z"⟩
abbrev cX4_readFact : ByteArray := prog_6_method_18_code
def yX4_readFact : MethodName := ⟨RX4, "readFact", "()Z"⟩
abbrev cX4_open : ByteArray := prog_6_method_19_code
def yX4_open : MethodName := ⟨RX4, "open", "(I)Z"⟩
abbrev cX4_readNot : ByteArray := prog_6_method_20_code
def yX4_readNot : MethodName := ⟨RX4, "readNot", "(I)Z"⟩
abbrev cX4_readMost : ByteArray := prog_6_method_21_code
def yX4_readMost : MethodName := ⟨RX4, "readMost", "(I)Z"⟩
abbrev cX4_readSum : ByteArray := prog_6_method_22_code
def yX4_readSum : MethodName := ⟨RX4, "readSum", "(I)Z"⟩
abbrev cX4_readProduct : ByteArray := prog_6_method_23_code
def yX4_readProduct : MethodName := ⟨RX4, "readProduct", "(I)Z"⟩
abbrev cX4_readOne : ByteArray := prog_6_method_24_code
def yX4_readOne : MethodName := ⟨RX4, "readOne", "(I)Z"⟩
abbrev cX4_readName : ByteArray := prog_6_method_25_code
def yX4_readName : MethodName := ⟨RX4, "readName", "(I)Z"⟩
abbrev cX4_isOfLaw : ByteArray := prog_6_method_26_code
def yX4_isOfLaw : MethodName := ⟨RX4, "isOfLaw", "(I)Z"⟩
def RX5 : String := "VaneCourt$Rows"
def TX5 : u_T := fun k => match k with
  | 0 => ("VaneCourt$Rows", "cells", "[I", true)
  | _ => ("VaneCourt$Rows", "size", "I", false)
def tyX5 : Nat → FieldType := fun k => match k with
  | 0 => .array .int
  | _ => .int
abbrev wsX50 : List Cond := u_ws RX5 TX5 2
theorem nmX5 : ∀ a, a < 2 → ∀ b, b < 2 → a ≠ b → (TX5 a).2.1 ≠ (TX5 b).2.1 := by decide +kernel
theorem tyX5_ok : ∀ k, k < 2 → parseFieldDescriptor (TX5 k).2.2.1 = some (tyX5 k) := by decide +kernel
abbrev cX5_init : ByteArray := prog_7_method_1_code
def yX5_init : MethodName := ⟨RX5, "<init>", "()V"⟩
abbrev cX5_isFull : ByteArray := prog_7_method_2_code
def yX5_isFull : MethodName := ⟨RX5, "isFull", "()Z"⟩
abbrev cX5_has : ByteArray := prog_7_method_3_code
def yX5_has : MethodName := ⟨RX5, "has", "(I)Z"⟩
abbrev cX5_at : ByteArray := prog_7_method_4_code
def yX5_at : MethodName := ⟨RX5, "at", "(II)I"⟩
abbrev cX5_add : ByteArray := prog_7_method_5_code
def yX5_add : MethodName := ⟨RX5, "add", "(IIII)I"⟩
abbrev cX5_sum : ByteArray := prog_7_method_6_code
def yX5_sum : MethodName := ⟨RX5, "sum", "(II)I"⟩
abbrev cX5_empty : ByteArray := prog_7_method_7_code
def yX5_empty : MethodName := ⟨RX5, "empty", "()I"⟩
abbrev cX5_copyFrom : ByteArray := prog_7_method_8_code
def yX5_copyFrom : MethodName := ⟨RX5, "copyFrom", "(LVaneCourt$Rows;)V"⟩
def RX6 : String := "VaneCourt$Tape"
def TX6 : u_T := fun k => match k with
  | 0 => ("VaneCourt$Tape", "bytes", "[I", true)
  | 1 => ("VaneCourt$Tape", "length", "I", false)
  | 2 => ("VaneCourt$Tape", "kinds", "[I", true)
  | 3 => ("VaneCourt$Tape", "places", "[I", true)
  | 4 => ("VaneCourt$Tape", "values", "[I", true)
  | _ => ("VaneCourt$Tape", "tokens", "I", false)
def tyX6 : Nat → FieldType := fun k => match k with
  | 0 => .array .int
  | 1 => .int
  | 2 => .array .int
  | 3 => .array .int
  | 4 => .array .int
  | _ => .int
abbrev wsX60 : List Cond := u_ws RX6 TX6 6
theorem nmX6 : ∀ a, a < 6 → ∀ b, b < 6 → a ≠ b → (TX6 a).2.1 ≠ (TX6 b).2.1 := by decide +kernel
theorem tyX6_ok : ∀ k, k < 6 → parseFieldDescriptor (TX6 k).2.2.1 = some (tyX6 k) := by decide +kernel
abbrev cX6_init : ByteArray := prog_8_method_1_code
def yX6_init : MethodName := ⟨RX6, "<init>", "()V"⟩
abbrev cX6_hasRoom : ByteArray := prog_8_method_2_code
def yX6_hasRoom : MethodName := ⟨RX6, "hasRoom", "()Z"⟩
abbrev cX6_put : ByteArray := prog_8_method_3_code
def yX6_put : MethodName := ⟨RX6, "put", "(I)V"⟩
abbrev cX6_scan : ByteArray := prog_8_method_4_code
def yX6_scan : MethodName := ⟨RX6, "scan", "()V"⟩
abbrev cX6_addToken : ByteArray := prog_8_method_5_code
def yX6_addToken : MethodName := ⟨RX6, "addToken", "(III)V"⟩
abbrev cX6_isLetter : ByteArray := prog_8_method_6_code
def yX6_isLetter : MethodName := ⟨RX6, "isLetter", "(I)Z"⟩
abbrev cX6_isDigit : ByteArray := prog_8_method_7_code
def yX6_isDigit : MethodName := ⟨RX6, "isDigit", "(I)Z"⟩
abbrev cX6_scanNumber : ByteArray := prog_8_method_8_code
def yX6_scanNumber : MethodName := ⟨RX6, "scanNumber", "(I)I"⟩
abbrev cX6_scanWord : ByteArray := prog_8_method_9_code
def yX6_scanWord : MethodName := ⟨RX6, "scanWord", "(I)I"⟩
abbrev cX6_wordAt : ByteArray := prog_8_method_10_code
def yX6_wordAt : MethodName := ⟨RX6, "wordAt", "(II)I"⟩
abbrev cX6_scanSign : ByteArray := prog_8_method_11_code
def yX6_scanSign : MethodName := ⟨RX6, "scanSign", "(I)I"⟩
abbrev cX6_isSign : ByteArray := prog_8_method_12_code
def yX6_isSign : MethodName := ⟨RX6, "isSign", "(I)Z"⟩
def RX7 : String := "VaneCourt$Text"
def TX7 : u_T := fun k => match k with
  | 0 => ("VaneCourt$Text", "program", "[I", true)
  | 1 => ("VaneCourt$Text", "size", "I", false)
  | 2 => ("VaneCourt$Text", "starts", "[I", true)
  | 3 => ("VaneCourt$Text", "stops", "[I", true)
  | 4 => ("VaneCourt$Text", "clauses", "[I", true)
  | 5 => ("VaneCourt$Text", "clauseCount", "I", false)
  | _ => ("VaneCourt$Text", "factsAsked", "I", false)
def tyX7 : Nat → FieldType := fun k => match k with
  | 0 => .array .int
  | 1 => .int
  | 2 => .array .int
  | 3 => .array .int
  | 4 => .array .int
  | 5 => .int
  | _ => .int
abbrev wsX70 : List Cond := u_ws RX7 TX7 7
theorem nmX7 : ∀ a, a < 7 → ∀ b, b < 7 → a ≠ b → (TX7 a).2.1 ≠ (TX7 b).2.1 := by decide +kernel
theorem tyX7_ok : ∀ k, k < 7 → parseFieldDescriptor (TX7 k).2.2.1 = some (tyX7 k) := by decide +kernel
abbrev cX7_init : ByteArray := prog_9_method_1_code
def yX7_init : MethodName := ⟨RX7, "<init>", "()V"⟩
abbrev cX7_clear : ByteArray := prog_9_method_2_code
def yX7_clear : MethodName := ⟨RX7, "clear", "()V"⟩
abbrev cX7_has : ByteArray := prog_9_method_3_code
def yX7_has : MethodName := ⟨RX7, "has", "(I)Z"⟩
abbrev cX7_setLaw : ByteArray := prog_9_method_4_code
def yX7_setLaw : MethodName := ⟨RX7, "setLaw", "(II)V"⟩
abbrev cX7_emit : ByteArray := prog_9_method_5_code
def yX7_emit : MethodName := ⟨RX7, "emit", "(II)V"⟩
abbrev cX7_emitFact : ByteArray := prog_9_method_6_code
def yX7_emitFact : MethodName := ⟨RX7, "emitFact", "(I)V"⟩
abbrev cX7_startClause : ByteArray := prog_9_method_7_code
def yX7_startClause : MethodName := ⟨RX7, "startClause", "(I)V"⟩
abbrev cX7_tellOfClause : ByteArray := prog_9_method_8_code
def yX7_tellOfClause : MethodName := ⟨RX7, "tellOfClause", "(II)V"⟩
abbrev cX7_clauseAt : ByteArray := prog_9_method_9_code
def yX7_clauseAt : MethodName := ⟨RX7, "clauseAt", "(II)I"⟩
def RX8 : String := "VaneCourt$Word"
def TX8 : u_T := fun k => match k with
  | _ => ("", "", "", false)
def tyX8 : Nat → FieldType := fun k => match k with
  | _ => .int
abbrev wsX80 : List Cond := u_ws RX8 TX8 0
theorem nmX8 : ∀ a, a < 0 → ∀ b, b < 0 → a ≠ b → (TX8 a).2.1 ≠ (TX8 b).2.1 := by decide +kernel
theorem tyX8_ok : ∀ k, k < 0 → parseFieldDescriptor (TX8 k).2.2.1 = some (tyX8 k) := by decide +kernel
def RX9 : String := "VaneCourt"
def TX9 : u_T := fun k => match k with
  | 0 => ("VaneCourt", "court", "LVaneCourt$Court;", true)
  | 1 => ("VaneCourt", "kept", "LVaneCourt$Court;", true)
  | 2 => ("VaneCourt", "texts", "[LVaneCourt$Text;", true)
  | 3 => ("VaneCourt", "tape", "LVaneCourt$Tape;", true)
  | 4 => ("VaneCourt", "law", "LVaneCourt$Law;", true)
  | 5 => ("VaneCourt", "foresight", "LVaneCourt$Foresight;", true)
  | 6 => ("VaneCourt", "fitting", "[I", true)
  | 7 => ("VaneCourt", "fault", "I", false)
  | _ => ("VaneCourt", "faultPlace", "I", false)
def tyX9 : Nat → FieldType := fun k => match k with
  | 0 => .object "VaneCourt$Court"
  | 1 => .object "VaneCourt$Court"
  | 2 => .array (.object "VaneCourt$Text")
  | 3 => .object "VaneCourt$Tape"
  | 4 => .object "VaneCourt$Law"
  | 5 => .object "VaneCourt$Foresight"
  | 6 => .array .int
  | 7 => .int
  | _ => .int
abbrev wsX90 : List Cond := u_ws RX9 TX9 9
theorem nmX9 : ∀ a, a < 9 → ∀ b, b < 9 → a ≠ b → (TX9 a).2.1 ≠ (TX9 b).2.1 := by decide +kernel
theorem tyX9_ok : ∀ k, k < 9 → parseFieldDescriptor (TX9 k).2.2.1 = some (tyX9 k) := by decide +kernel
abbrev cX9_init : ByteArray := prog_1_method_1_code
def yX9_init : MethodName := ⟨RX9, "<init>", "()V"⟩
abbrev cX9_newCase : ByteArray := prog_1_method_2_code
def yX9_newCase : MethodName := ⟨RX9, "newCase", "(IIII)I"⟩
abbrev cX9_feed : ByteArray := prog_1_method_3_code
def yX9_feed : MethodName := ⟨RX9, "feed", "(IIIII)I"⟩
abbrev cX9_end : ByteArray := prog_1_method_4_code
def yX9_end : MethodName := ⟨RX9, "end", "(I)I"⟩
abbrev cX9_text : ByteArray := prog_1_method_5_code
def yX9_text : MethodName := ⟨RX9, "text", "()I"⟩
abbrev cX9_fault : ByteArray := prog_1_method_6_code
def yX9_fault : MethodName := ⟨RX9, "fault", "(I)I"⟩
abbrev cX9_by : ByteArray := prog_1_method_7_code
def yX9_by : MethodName := ⟨RX9, "by", "(I)Z"⟩
abbrev cX9_call : ByteArray := prog_1_method_8_code
def yX9_call : MethodName := ⟨RX9, "call", "(I)Z"⟩
abbrev cX9_delay : ByteArray := prog_1_method_9_code
def yX9_delay : MethodName := ⟨RX9, "delay", "()I"⟩
abbrev cX9_appeal : ByteArray := prog_1_method_10_code
def yX9_appeal : MethodName := ⟨RX9, "appeal", "(I)Z"⟩
abbrev cX9_gust : ByteArray := prog_1_method_11_code
def yX9_gust : MethodName := ⟨RX9, "gust", "(II)Z"⟩
abbrev cX9_withdraw : ByteArray := prog_1_method_12_code
def yX9_withdraw : MethodName := ⟨RX9, "withdraw", "()I"⟩
abbrev cX9_hour : ByteArray := prog_1_method_13_code
def yX9_hour : MethodName := ⟨RX9, "hour", "(I)I"⟩
abbrev cX9_played : ByteArray := prog_1_method_14_code
def yX9_played : MethodName := ⟨RX9, "played", "(I)I"⟩
abbrev cX9_decades : ByteArray := prog_1_method_15_code
def yX9_decades : MethodName := ⟨RX9, "decades", "(II)I"⟩
abbrev cX9_undo : ByteArray := prog_1_method_16_code
def yX9_undo : MethodName := ⟨RX9, "undo", "()I"⟩
abbrev cX9_ofCase : ByteArray := prog_1_method_17_code
def yX9_ofCase : MethodName := ⟨RX9, "ofCase", "(II)I"⟩
abbrev cX9_is : ByteArray := prog_1_method_18_code
def yX9_is : MethodName := ⟨RX9, "is", "(I)I"⟩
abbrev cX9_book : ByteArray := prog_1_method_19_code
def yX9_book : MethodName := ⟨RX9, "book", "(II)I"⟩
abbrev cX9_foretold : ByteArray := prog_1_method_20_code
def yX9_foretold : MethodName := ⟨RX9, "foretold", "(II)I"⟩
abbrev cX9_ends : ByteArray := prog_1_method_21_code
def yX9_ends : MethodName := ⟨RX9, "ends", "(IIII)I"⟩
abbrev cX9_best : ByteArray := prog_1_method_22_code
def yX9_best : MethodName := ⟨RX9, "best", "(IZI)I"⟩
abbrev cX9_harshest : ByteArray := prog_1_method_23_code
def yX9_harshest : MethodName := ⟨RX9, "harshest", "(I)I"⟩
abbrev cX9_odds : ByteArray := prog_1_method_24_code
def yX9_odds : MethodName := ⟨RX9, "odds", "(Z)J"⟩
abbrev cX9_clash : ByteArray := prog_1_method_25_code
def yX9_clash : MethodName := ⟨RX9, "clash", "(I)I"⟩
abbrev cX9_leastFacts : ByteArray := prog_1_method_26_code
def yX9_leastFacts : MethodName := ⟨RX9, "leastFacts", "(I)I"⟩
abbrev cX9_game : ByteArray := prog_1_method_27_code
def yX9_game : MethodName := ⟨RX9, "game", "(IZZ)I"⟩
abbrev cX9_session : ByteArray := prog_1_method_28_code
def yX9_session : MethodName := ⟨RX9, "session", "(II)I"⟩
abbrev cX9_record : ByteArray := prog_1_method_29_code
def yX9_record : MethodName := ⟨RX9, "record", "(IIZ)I"⟩
abbrev cX9_turned : ByteArray := prog_1_method_30_code
def yX9_turned : MethodName := ⟨RX9, "turned", "()I"⟩
abbrev cX9_fewestWrong : ByteArray := prog_1_method_31_code
def yX9_fewestWrong : MethodName := ⟨RX9, "fewestWrong", "()I"⟩
abbrev cX9_whose : ByteArray := prog_1_method_32_code
def yX9_whose : MethodName := ⟨RX9, "whose", "()I"⟩
abbrev cX9_learn : ByteArray := prog_1_method_33_code
def yX9_learn : MethodName := ⟨RX9, "learn", "(IZ)I"⟩
abbrev cX9_codes : ByteArray := prog_1_method_34_code
def yX9_codes : MethodName := ⟨RX9, "codes", "(I)I"⟩
abbrev cX9_sure : ByteArray := prog_1_method_35_code
def yX9_sure : MethodName := ⟨RX9, "sure", "(I)I"⟩
abbrev cX9_toBring : ByteArray := prog_1_method_36_code
def yX9_toBring : MethodName := ⟨RX9, "toBring", "()I"⟩
abbrev cX9_counsel : ByteArray := prog_1_method_37_code
def yX9_counsel : MethodName := ⟨RX9, "counsel", "(II)I"⟩
abbrev cX9_hired : ByteArray := prog_1_method_38_code
def yX9_hired : MethodName := ⟨RX9, "hired", "(IZ)I"⟩
abbrev cX9_calm : ByteArray := prog_1_method_39_code
def yX9_calm : MethodName := ⟨RX9, "calm", "(I)I"⟩
abbrev cX9_standing : ByteArray := prog_1_method_40_code
def yX9_standing : MethodName := ⟨RX9, "standing", "(II)I"⟩
abbrev cX9_image : ByteArray := prog_1_method_41_code
def yX9_image : MethodName := ⟨RX9, "image", "()I"⟩
abbrev cX9_back : ByteArray := prog_1_method_42_code
def yX9_back : MethodName := ⟨RX9, "back", "()I"⟩
abbrev cX9_about : ByteArray := prog_1_method_43_code
def yX9_about : MethodName := ⟨RX9, "about", "(I)I"⟩
abbrev cX9_nextX : ByteArray := prog_1_method_44_code
def yX9_nextX : MethodName := ⟨RX9, "nextX", "(I)I"⟩
abbrev cX9_within : ByteArray := prog_1_method_45_code
def yX9_within : MethodName := ⟨RX9, "within", "(III)Z"⟩
abbrev cX9_isText : ByteArray := prog_1_method_46_code
def yX9_isText : MethodName := ⟨RX9, "isText", "(I)Z"⟩
abbrev cX9_ruling : ByteArray := prog_1_method_47_code
def yX9_ruling : MethodName := ⟨RX9, "ruling", "()LVaneCourt$Text;"⟩
abbrev cX9_passHours : ByteArray := prog_1_method_48_code
def yX9_passHours : MethodName := ⟨RX9, "passHours", "(I)I"⟩
abbrev cX9_isDone : ByteArray := prog_1_method_49_code
def yX9_isDone : MethodName := ⟨RX9, "isDone", "(LVaneCourt$Text;I)Z"⟩
abbrev cX9_lookAtCalls : ByteArray := prog_1_method_50_code
def yX9_lookAtCalls : MethodName := ⟨RX9, "lookAtCalls", "(I)V"⟩
abbrev cX9_commonDivisor : ByteArray := prog_1_method_51_code
def yX9_commonDivisor : MethodName := ⟨RX9, "commonDivisor", "(JJ)J"⟩
abbrev cX9_guiltyCodes : ByteArray := prog_1_method_52_code
def yX9_guiltyCodes : MethodName := ⟨RX9, "guiltyCodes", "(II)I"⟩
abbrev cX9_allAlike : ByteArray := prog_1_method_53_code
def yX9_allAlike : MethodName := ⟨RX9, "allAlike", "(II)Z"⟩
abbrev cX9_wrongRecords : ByteArray := prog_1_method_54_code
def yX9_wrongRecords : MethodName := ⟨RX9, "wrongRecords", "(LVaneCourt$Text;I)I"⟩
abbrev cX9_gatherCodes : ByteArray := prog_1_method_55_code
def yX9_gatherCodes : MethodName := ⟨RX9, "gatherCodes", "()I"⟩
abbrev cX9_fitsLearned : ByteArray := prog_1_method_56_code
def yX9_fitsLearned : MethodName := ⟨RX9, "fitsLearned", "(I)Z"⟩
abbrev cX9_guiltyByGathered : ByteArray := prog_1_method_57_code
def yX9_guiltyByGathered : MethodName := ⟨RX9, "guiltyByGathered", "(II)I"⟩
def RX10 : String := "VaneCourtModel"
def TX10 : u_T := fun k => match k with
  | 0 => ("VaneCourtModel", "a", "[I", true)
  | 1 => ("VaneCourtModel", "image", "[I", true)
  | 2 => ("VaneCourtModel", "texts", "[I", true)
  | 3 => ("VaneCourtModel", "tape", "[I", true)
  | 4 => ("VaneCourtModel", "taped", "I", false)
  | 5 => ("VaneCourtModel", "fault", "I", false)
  | 6 => ("VaneCourtModel", "faultPlace", "I", false)
  | 7 => ("VaneCourtModel", "at", "I", false)
  | 8 => ("VaneCourtModel", "place", "I", false)
  | 9 => ("VaneCourtModel", "token", "I", false)
  | 10 => ("VaneCourtModel", "number", "I", false)
  | 11 => ("VaneCourtModel", "word", "J", false)
  | 12 => ("VaneCourtModel", "text0", "I", false)
  | 13 => ("VaneCourtModel", "written", "I", false)
  | 14 => ("VaneCourtModel", "sort0", "I", false)
  | 15 => ("VaneCourtModel", "pile", "[I", true)
  | 16 => ("VaneCourtModel", "counts", "[I", true)
  | 17 => ("VaneCourtModel", "piled", "I", false)
  | 18 => ("VaneCourtModel", "opens", "I", false)
  | 19 => ("VaneCourtModel", "counting", "I", false)
  | 20 => ("VaneCourtModel", "isWhole", "Z", false)
  | 21 => ("VaneCourtModel", "isTruth", "Z", false)
  | 22 => ("VaneCourtModel", "hasUnless", "Z", false)
  | 23 => ("VaneCourtModel", "coded", "I", false)
  | 24 => ("VaneCourtModel", "once", "I", false)
  | 25 => ("VaneCourtModel", "named", "[I", true)
  | 26 => ("VaneCourtModel", "factsNow", "I", false)
  | 27 => ("VaneCourtModel", "values", "[J", true)
  | 28 => ("VaneCourtModel", "truth", "[Z", true)
  | 29 => ("VaneCourtModel", "ended", "I", false)
  | 30 => ("VaneCourtModel", "quarters", "[I", true)
  | 31 => ("VaneCourtModel", "forces", "[I", true)
  | 32 => ("VaneCourtModel", "fogs", "[I", true)
  | 33 => ("VaneCourtModel", "aside", "[I", true)
  | 34 => ("VaneCourtModel", "isGuiltyEnd", "Z", false)
  | 35 => ("VaneCourtModel", "sentenceEnd", "I", false)
  | 36 => ("VaneCourtModel", "comes", "[I", true)
  | 37 => ("VaneCourtModel", "member", "[I", true)
  | 38 => ("VaneCourtModel", "row", "[I", true)
  | _ => ("VaneCourtModel", "bestRow", "[I", true)
def tyX10 : Nat → FieldType := fun k => match k with
  | 0 => .array .int
  | 1 => .array .int
  | 2 => .array .int
  | 3 => .array .int
  | 4 => .int
  | 5 => .int
  | 6 => .int
  | 7 => .int
  | 8 => .int
  | 9 => .int
  | 10 => .int
  | 11 => .long
  | 12 => .int
  | 13 => .int
  | 14 => .int
  | 15 => .array .int
  | 16 => .array .int
  | 17 => .int
  | 18 => .int
  | 19 => .int
  | 20 => .boolean
  | 21 => .boolean
  | 22 => .boolean
  | 23 => .int
  | 24 => .int
  | 25 => .array .int
  | 26 => .int
  | 27 => .array .long
  | 28 => .array .boolean
  | 29 => .int
  | 30 => .array .int
  | 31 => .array .int
  | 32 => .array .int
  | 33 => .array .int
  | 34 => .boolean
  | 35 => .int
  | 36 => .array .int
  | 37 => .array .int
  | 38 => .array .int
  | _ => .array .int
abbrev wsX100 : List Cond := u_ws RX10 TX10 40
theorem nmX10 : ∀ a, a < 40 → ∀ b, b < 40 → a ≠ b → (TX10 a).2.1 ≠ (TX10 b).2.1 := by decide +kernel
theorem tyX10_ok : ∀ k, k < 40 → parseFieldDescriptor (TX10 k).2.2.1 = some (tyX10 k) := by decide +kernel
abbrev cX10_init : ByteArray := prog_12_method_1_code
def yX10_init : MethodName := ⟨RX10, "<init>", "()V"⟩
abbrev cX10_copy : ByteArray := prog_12_method_2_code
def yX10_copy : MethodName := ⟨RX10, "copy", "([I[I)V"⟩
abbrev cX10_isIn : ByteArray := prog_12_method_3_code
def yX10_isIn : MethodName := ⟨RX10, "isIn", "(III)Z"⟩
abbrev cX10_cut : ByteArray := prog_12_method_4_code
def yX10_cut : MethodName := ⟨RX10, "cut", "(JII)I"⟩
abbrev cX10_has : ByteArray := prog_12_method_5_code
def yX10_has : MethodName := ⟨RX10, "has", "(II)Z"⟩
abbrev cX10_bits : ByteArray := prog_12_method_6_code
def yX10_bits : MethodName := ⟨RX10, "bits", "(I)I"⟩
abbrev cX10_isCase : ByteArray := prog_12_method_7_code
def yX10_isCase : MethodName := ⟨RX10, "isCase", "(I)Z"⟩
abbrev cX10_get : ByteArray := prog_12_method_8_code
def yX10_get : MethodName := ⟨RX10, "get", "(II)I"⟩
abbrev cX10_put : ByteArray := prog_12_method_9_code
def yX10_put : MethodName := ⟨RX10, "put", "(III)V"⟩
abbrev cX10_isWaiting : ByteArray := prog_12_method_10_code
def yX10_isWaiting : MethodName := ⟨RX10, "isWaiting", "(I)Z"⟩
abbrev cX10_newCase : ByteArray := prog_12_method_11_code
def yX10_newCase : MethodName := ⟨RX10, "newCase", "(IIII)I"⟩
abbrev cX10_four : ByteArray := prog_12_method_12_code
def yX10_four : MethodName := ⟨RX10, "four", "(I)V"⟩
abbrev cX10_feed : ByteArray := prog_12_method_13_code
def yX10_feed : MethodName := ⟨RX10, "feed", "(IIIII)I"⟩
abbrev cX10_end : ByteArray := prog_12_method_14_code
def yX10_end : MethodName := ⟨RX10, "end", "(I)I"⟩
abbrev cX10_byteAt : ByteArray := prog_12_method_15_code
def yX10_byteAt : MethodName := ⟨RX10, "byteAt", "(I)I"⟩
abbrev cX10_isLetterByte : ByteArray := prog_12_method_16_code
def yX10_isLetterByte : MethodName := ⟨RX10, "isLetterByte", "(I)Z"⟩
abbrev cX10_isFigure : ByteArray := prog_12_method_17_code
def yX10_isFigure : MethodName := ⟨RX10, "isFigure", "(I)Z"⟩
abbrev cX10_isSign : ByteArray := prog_12_method_18_code
def yX10_isSign : MethodName := ⟨RX10, "isSign", "(I)Z"⟩
abbrev cX10_nextToken : ByteArray := prog_12_method_19_code
def yX10_nextToken : MethodName := ⟨RX10, "nextToken", "()V"⟩
abbrev cX10_w2 : ByteArray := prog_12_method_20_code
def yX10_w2 : MethodName := ⟨RX10, "w2", "(II)J"⟩
abbrev cX10_w3 : ByteArray := prog_12_method_21_code
def yX10_w3 : MethodName := ⟨RX10, "w3", "(III)J"⟩
abbrev cX10_w4 : ByteArray := prog_12_method_22_code
def yX10_w4 : MethodName := ⟨RX10, "w4", "(IIII)J"⟩
abbrev cX10_w5 : ByteArray := prog_12_method_23_code
def yX10_w5 : MethodName := ⟨RX10, "w5", "(IIIII)J"⟩
abbrev cX10_w6 : ByteArray := prog_12_method_24_code
def yX10_w6 : MethodName := ⟨RX10, "w6", "(IIIIII)J"⟩
abbrev cX10_isWord : ByteArray := prog_12_method_25_code
def yX10_isWord : MethodName := ⟨RX10, "isWord", "(J)Z"⟩
abbrev cX10_emit : ByteArray := prog_12_method_26_code
def yX10_emit : MethodName := ⟨RX10, "emit", "(II)V"⟩
abbrev cX10_isLong : ByteArray := prog_12_method_27_code
def yX10_isLong : MethodName := ⟨RX10, "isLong", "(JJI)Z"⟩
abbrev cX10_isGravity : ByteArray := prog_12_method_28_code
def yX10_isGravity : MethodName := ⟨RX10, "isGravity", "()Z"⟩
abbrev cX10_isQuarter : ByteArray := prog_12_method_29_code
def yX10_isQuarter : MethodName := ⟨RX10, "isQuarter", "()Z"⟩
abbrev cX10_isSentence : ByteArray := prog_12_method_30_code
def yX10_isSentence : MethodName := ⟨RX10, "isSentence", "()Z"⟩
abbrev cX10_isWithdraw : ByteArray := prog_12_method_31_code
def yX10_isWithdraw : MethodName := ⟨RX10, "isWithdraw", "()Z"⟩
abbrev cX10_nameOf : ByteArray := prog_12_method_32_code
def yX10_nameOf : MethodName := ⟨RX10, "nameOf", "()I"⟩
abbrev cX10_isOf : ByteArray := prog_12_method_33_code
def yX10_isOf : MethodName := ⟨RX10, "isOf", "(I)Z"⟩
abbrev cX10_rank : ByteArray := prog_12_method_34_code
def yX10_rank : MethodName := ⟨RX10, "rank", "(I)I"⟩
abbrev cX10_settle : ByteArray := prog_12_method_35_code
def yX10_settle : MethodName := ⟨RX10, "settle", "(I)V"⟩
abbrev cX10_openNow : ByteArray := prog_12_method_36_code
def yX10_openNow : MethodName := ⟨RX10, "openNow", "()I"⟩
abbrev cX10_isCompared : ByteArray := prog_12_method_37_code
def yX10_isCompared : MethodName := ⟨RX10, "isCompared", "()Z"⟩
abbrev cX10_isAskHere : ByteArray := prog_12_method_38_code
def yX10_isAskHere : MethodName := ⟨RX10, "isAskHere", "()Z"⟩
abbrev cX10_isAskAhead : ByteArray := prog_12_method_39_code
def yX10_isAskAhead : MethodName := ⟨RX10, "isAskAhead", "()Z"⟩
abbrev cX10_opened : ByteArray := prog_12_method_40_code
def yX10_opened : MethodName := ⟨RX10, "opened", "(I)I"⟩
abbrev cX10_factAt : ByteArray := prog_12_method_41_code
def yX10_factAt : MethodName := ⟨RX10, "factAt", "()I"⟩
abbrev cX10_beginOne : ByteArray := prog_12_method_42_code
def yX10_beginOne : MethodName := ⟨RX10, "beginOne", "()I"⟩
abbrev cX10_compareOf : ByteArray := prog_12_method_43_code
def yX10_compareOf : MethodName := ⟨RX10, "compareOf", "()I"⟩
abbrev cX10_betweenOf : ByteArray := prog_12_method_44_code
def yX10_betweenOf : MethodName := ⟨RX10, "betweenOf", "()I"⟩
abbrev cX10_nextOfMost : ByteArray := prog_12_method_45_code
def yX10_nextOfMost : MethodName := ⟨RX10, "nextOfMost", "()I"⟩
abbrev cX10_shut : ByteArray := prog_12_method_46_code
def yX10_shut : MethodName := ⟨RX10, "shut", "(I)V"⟩
abbrev cX10_behindOne : ByteArray := prog_12_method_47_code
def yX10_behindOne : MethodName := ⟨RX10, "behindOne", "()I"⟩
abbrev cX10_parsed : ByteArray := prog_12_method_48_code
def yX10_parsed : MethodName := ⟨RX10, "parsed", "(Z)I"⟩
abbrev cX10_figure : ByteArray := prog_12_method_49_code
def yX10_figure : MethodName := ⟨RX10, "figure", "(III)I"⟩
abbrev cX10_lawClause : ByteArray := prog_12_method_50_code
def yX10_lawClause : MethodName := ⟨RX10, "lawClause", "(IZ)I"⟩
abbrev cX10_codeClause : ByteArray := prog_12_method_51_code
def yX10_codeClause : MethodName := ⟨RX10, "codeClause", "(I)I"⟩
abbrev cX10_caseClause : ByteArray := prog_12_method_52_code
def yX10_caseClause : MethodName := ⟨RX10, "caseClause", "(I)I"⟩
abbrev cX10_gustClause : ByteArray := prog_12_method_53_code
def yX10_gustClause : MethodName := ⟨RX10, "gustClause", "(I)I"⟩
abbrev cX10_body : ByteArray := prog_12_method_54_code
def yX10_body : MethodName := ⟨RX10, "body", "(II)I"⟩
abbrev cX10_sortOf : ByteArray := prog_12_method_55_code
def yX10_sortOf : MethodName := ⟨RX10, "sortOf", "()I"⟩
abbrev cX10_clause : ByteArray := prog_12_method_56_code
def yX10_clause : MethodName := ⟨RX10, "clause", "()I"⟩
abbrev cX10_readText : ByteArray := prog_12_method_57_code
def yX10_readText : MethodName := ⟨RX10, "readText", "()I"⟩
abbrev cX10_text : ByteArray := prog_12_method_58_code
def yX10_text : MethodName := ⟨RX10, "text", "()I"⟩
abbrev cX10_fault : ByteArray := prog_12_method_59_code
def yX10_fault : MethodName := ⟨RX10, "fault", "(I)I"⟩
abbrev cX10_by : ByteArray := prog_12_method_60_code
def yX10_by : MethodName := ⟨RX10, "by", "(I)Z"⟩
abbrev cX10_clip : ByteArray := prog_12_method_61_code
def yX10_clip : MethodName := ⟨RX10, "clip", "(J)J"⟩
abbrev cX10_two : ByteArray := prog_12_method_62_code
def yX10_two : MethodName := ⟨RX10, "two", "(IJJ)J"⟩
abbrev cX10_isAsked : ByteArray := prog_12_method_63_code
def yX10_isAsked : MethodName := ⟨RX10, "isAsked", "(IJJ)Z"⟩
abbrev cX10_areMost : ByteArray := prog_12_method_64_code
def yX10_areMost : MethodName := ⟨RX10, "areMost", "(II)Z"⟩
abbrev cX10_joined : ByteArray := prog_12_method_65_code
def yX10_joined : MethodName := ⟨RX10, "joined", "(IZZ)Z"⟩
abbrev cX10_work : ByteArray := prog_12_method_66_code
def yX10_work : MethodName := ⟨RX10, "work", "(II)V"⟩
abbrev cX10_clauseOf : ByteArray := prog_12_method_67_code
def yX10_clauseOf : MethodName := ⟨RX10, "clauseOf", "(III)I"⟩
abbrev cX10_says : ByteArray := prog_12_method_68_code
def yX10_says : MethodName := ⟨RX10, "says", "(IIII)I"⟩
abbrev cX10_name : ByteArray := prog_12_method_69_code
def yX10_name : MethodName := ⟨RX10, "name", "()V"⟩
abbrev cX10_nameCase : ByteArray := prog_12_method_70_code
def yX10_nameCase : MethodName := ⟨RX10, "nameCase", "(II)V"⟩
abbrev cX10_isGuilty : ByteArray := prog_12_method_71_code
def yX10_isGuilty : MethodName := ⟨RX10, "isGuilty", "(IIIII)Z"⟩
abbrev cX10_sentenceOf : ByteArray := prog_12_method_72_code
def yX10_sentenceOf : MethodName := ⟨RX10, "sentenceOf", "(III)I"⟩
abbrev cX10_drawn : ByteArray := prog_12_method_73_code
def yX10_drawn : MethodName := ⟨RX10, "drawn", "(I)I"⟩
abbrev cX10_anew : ByteArray := prog_12_method_74_code
def yX10_anew : MethodName := ⟨RX10, "anew", "()V"⟩
abbrev cX10_turnBy : ByteArray := prog_12_method_75_code
def yX10_turnBy : MethodName := ⟨RX10, "turnBy", "(I)V"⟩
abbrev cX10_isCalm : ByteArray := prog_12_method_76_code
def yX10_isCalm : MethodName := ⟨RX10, "isCalm", "()Z"⟩
abbrev cX10_isFound : ByteArray := prog_12_method_77_code
def yX10_isFound : MethodName := ⟨RX10, "isFound", "(III)Z"⟩
abbrev cX10_leave : ByteArray := prog_12_method_78_code
def yX10_leave : MethodName := ⟨RX10, "leave", "(II)V"⟩
abbrev cX10_hear : ByteArray := prog_12_method_79_code
def yX10_hear : MethodName := ⟨RX10, "hear", "()V"⟩
abbrev cX10_pass : ByteArray := prog_12_method_80_code
def yX10_pass : MethodName := ⟨RX10, "pass", "()V"⟩
abbrev cX10_keep : ByteArray := prog_12_method_81_code
def yX10_keep : MethodName := ⟨RX10, "keep", "()V"⟩
abbrev cX10_undo : ByteArray := prog_12_method_82_code
def yX10_undo : MethodName := ⟨RX10, "undo", "()I"⟩
abbrev cX10_canCall : ByteArray := prog_12_method_83_code
def yX10_canCall : MethodName := ⟨RX10, "canCall", "(I)Z"⟩
abbrev cX10_callNow : ByteArray := prog_12_method_84_code
def yX10_callNow : MethodName := ⟨RX10, "callNow", "(I)V"⟩
abbrev cX10_call : ByteArray := prog_12_method_85_code
def yX10_call : MethodName := ⟨RX10, "call", "(I)Z"⟩
abbrev cX10_canDelay : ByteArray := prog_12_method_86_code
def yX10_canDelay : MethodName := ⟨RX10, "canDelay", "()Z"⟩
abbrev cX10_delay : ByteArray := prog_12_method_87_code
def yX10_delay : MethodName := ⟨RX10, "delay", "()I"⟩
abbrev cX10_canAppeal : ByteArray := prog_12_method_88_code
def yX10_canAppeal : MethodName := ⟨RX10, "canAppeal", "(I)Z"⟩
abbrev cX10_appealNow : ByteArray := prog_12_method_89_code
def yX10_appealNow : MethodName := ⟨RX10, "appealNow", "(I)V"⟩
abbrev cX10_appeal : ByteArray := prog_12_method_90_code
def yX10_appeal : MethodName := ⟨RX10, "appeal", "(I)Z"⟩
abbrev cX10_gust : ByteArray := prog_12_method_91_code
def yX10_gust : MethodName := ⟨RX10, "gust", "(II)Z"⟩
abbrev cX10_withdraw : ByteArray := prog_12_method_92_code
def yX10_withdraw : MethodName := ⟨RX10, "withdraw", "()I"⟩
abbrev cX10_arePassed : ByteArray := prog_12_method_93_code
def yX10_arePassed : MethodName := ⟨RX10, "arePassed", "(I)Z"⟩
abbrev cX10_hour : ByteArray := prog_12_method_94_code
def yX10_hour : MethodName := ⟨RX10, "hour", "(I)I"⟩
abbrev cX10_isPlayed : ByteArray := prog_12_method_95_code
def yX10_isPlayed : MethodName := ⟨RX10, "isPlayed", "(I)Z"⟩
abbrev cX10_played : ByteArray := prog_12_method_96_code
def yX10_played : MethodName := ⟨RX10, "played", "(I)I"⟩
abbrev cX10_happens : ByteArray := prog_12_method_97_code
def yX10_happens : MethodName := ⟨RX10, "happens", "(I)V"⟩
abbrev cX10_decades : ByteArray := prog_12_method_98_code
def yX10_decades : MethodName := ⟨RX10, "decades", "(II)I"⟩
abbrev cX10_ofCase : ByteArray := prog_12_method_99_code
def yX10_ofCase : MethodName := ⟨RX10, "ofCase", "(II)I"⟩
abbrev cX10_is : ByteArray := prog_12_method_100_code
def yX10_is : MethodName := ⟨RX10, "is", "(I)I"⟩
abbrev cX10_shown : ByteArray := prog_12_method_101_code
def yX10_shown : MethodName := ⟨RX10, "shown", "()I"⟩
abbrev cX10_book : ByteArray := prog_12_method_102_code
def yX10_book : MethodName := ⟨RX10, "book", "(II)I"⟩
abbrev cX10_begin : ByteArray := prog_12_method_103_code
def yX10_begin : MethodName := ⟨RX10, "begin", "()V"⟩
abbrev cX10_putBack : ByteArray := prog_12_method_104_code
def yX10_putBack : MethodName := ⟨RX10, "putBack", "()V"⟩
abbrev cX10_layWinds : ByteArray := prog_12_method_105_code
def yX10_layWinds : MethodName := ⟨RX10, "layWinds", "(I)I"⟩
abbrev cX10_foretold : ByteArray := prog_12_method_106_code
def yX10_foretold : MethodName := ⟨RX10, "foretold", "(II)I"⟩
abbrev cX10_isEnding : ByteArray := prog_12_method_107_code
def yX10_isEnding : MethodName := ⟨RX10, "isEnding", "(III)Z"⟩
abbrev cX10_ends : ByteArray := prog_12_method_108_code
def yX10_ends : MethodName := ⟨RX10, "ends", "(IIII)I"⟩
abbrev cX10_best : ByteArray := prog_12_method_109_code
def yX10_best : MethodName := ⟨RX10, "best", "(IZI)I"⟩
abbrev cX10_harshest : ByteArray := prog_12_method_110_code
def yX10_harshest : MethodName := ⟨RX10, "harshest", "(I)I"⟩
abbrev cX10_common : ByteArray := prog_12_method_111_code
def yX10_common : MethodName := ⟨RX10, "common", "(JJ)J"⟩
abbrev cX10_isGuiltyBy : ByteArray := prog_12_method_112_code
def yX10_isGuiltyBy : MethodName := ⟨RX10, "isGuiltyBy", "(II)Z"⟩
abbrev cX10_odds : ByteArray := prog_12_method_113_code
def yX10_odds : MethodName := ⟨RX10, "odds", "(Z)J"⟩
abbrev cX10_clashOf : ByteArray := prog_12_method_114_code
def yX10_clashOf : MethodName := ⟨RX10, "clashOf", "(II)I"⟩
abbrev cX10_clash : ByteArray := prog_12_method_115_code
def yX10_clash : MethodName := ⟨RX10, "clash", "(I)I"⟩
abbrev cX10_leastFacts : ByteArray := prog_12_method_116_code
def yX10_leastFacts : MethodName := ⟨RX10, "leastFacts", "(I)I"⟩
abbrev cX10_game : ByteArray := prog_12_method_117_code
def yX10_game : MethodName := ⟨RX10, "game", "(IZZ)I"⟩
abbrev cX10_nextRow : ByteArray := prog_12_method_118_code
def yX10_nextRow : MethodName := ⟨RX10, "nextRow", "(I)Z"⟩
abbrev cX10_sentencesBy : ByteArray := prog_12_method_119_code
def yX10_sentencesBy : MethodName := ⟨RX10, "sentencesBy", "(I)I"⟩
abbrev cX10_session : ByteArray := prog_12_method_120_code
def yX10_session : MethodName := ⟨RX10, "session", "(II)I"⟩
abbrev cX10_record : ByteArray := prog_12_method_121_code
def yX10_record : MethodName := ⟨RX10, "record", "(IIZ)I"⟩
abbrev cX10_wrongBy : ByteArray := prog_12_method_122_code
def yX10_wrongBy : MethodName := ⟨RX10, "wrongBy", "(II)I"⟩
abbrev cX10_turned : ByteArray := prog_12_method_123_code
def yX10_turned : MethodName := ⟨RX10, "turned", "()I"⟩
abbrev cX10_fewestWrong : ByteArray := prog_12_method_124_code
def yX10_fewestWrong : MethodName := ⟨RX10, "fewestWrong", "()I"⟩
abbrev cX10_whose : ByteArray := prog_12_method_125_code
def yX10_whose : MethodName := ⟨RX10, "whose", "()I"⟩
abbrev cX10_learn : ByteArray := prog_12_method_126_code
def yX10_learn : MethodName := ⟨RX10, "learn", "(IZ)I"⟩
abbrev cX10_isBy : ByteArray := prog_12_method_127_code
def yX10_isBy : MethodName := ⟨RX10, "isBy", "(II)Z"⟩
abbrev cX10_isCode : ByteArray := prog_12_method_128_code
def yX10_isCode : MethodName := ⟨RX10, "isCode", "(I)Z"⟩
abbrev cX10_codesBy : ByteArray := prog_12_method_129_code
def yX10_codesBy : MethodName := ⟨RX10, "codesBy", "(I)I"⟩
abbrev cX10_codes : ByteArray := prog_12_method_130_code
def yX10_codes : MethodName := ⟨RX10, "codes", "(I)I"⟩
abbrev cX10_sure : ByteArray := prog_12_method_131_code
def yX10_sure : MethodName := ⟨RX10, "sure", "(I)I"⟩
abbrev cX10_toBring : ByteArray := prog_12_method_132_code
def yX10_toBring : MethodName := ⟨RX10, "toBring", "()I"⟩
abbrev cX10_counsel : ByteArray := prog_12_method_133_code
def yX10_counsel : MethodName := ⟨RX10, "counsel", "(II)I"⟩
abbrev cX10_together : ByteArray := prog_12_method_134_code
def yX10_together : MethodName := ⟨RX10, "together", "(II)I"⟩
abbrev cX10_hired : ByteArray := prog_12_method_135_code
def yX10_hired : MethodName := ⟨RX10, "hired", "(IZ)I"⟩
abbrev cX10_calm : ByteArray := prog_12_method_136_code
def yX10_calm : MethodName := ⟨RX10, "calm", "(I)I"⟩
abbrev cX10_standing : ByteArray := prog_12_method_137_code
def yX10_standing : MethodName := ⟨RX10, "standing", "(II)I"⟩
abbrev cX10_image : ByteArray := prog_12_method_138_code
def yX10_image : MethodName := ⟨RX10, "image", "()I"⟩
abbrev cX10_back : ByteArray := prog_12_method_139_code
def yX10_back : MethodName := ⟨RX10, "back", "()I"⟩
abbrev cX10_about : ByteArray := prog_12_method_140_code
def yX10_about : MethodName := ⟨RX10, "about", "(I)I"⟩
def RJ6 : String := "java/lang/Integer"
def TJ6 : u_T := fun k => match k with
  | _ => ("", "", "", false)
def tyJ6 : Nat → FieldType := fun k => match k with
  | _ => .int
abbrev wsJ60 : List Cond := u_ws RJ6 TJ6 0
theorem nmJ6 : ∀ a, a < 0 → ∀ b, b < 0 → a ≠ b → (TJ6 a).2.1 ≠ (TJ6 b).2.1 := by decide +kernel
theorem tyJ6_ok : ∀ k, k < 0 → parseFieldDescriptor (TJ6 k).2.2.1 = some (tyJ6 k) := by decide +kernel
abbrev cJ6_bitCount_0f7a4 : ByteArray := prog_13_method_49_code
def yJ6_bitCount_0f7a4 : MethodName := ⟨RJ6, "bitCount", "(I)I"⟩
def RJ9 : String := "java/lang/Math"
def TJ9 : u_T := fun k => match k with
  | _ => ("", "", "", false)
def tyJ9 : Nat → FieldType := fun k => match k with
  | _ => .int
abbrev wsJ90 : List Cond := u_ws RJ9 TJ9 0
theorem nmJ9 : ∀ a, a < 0 → ∀ b, b < 0 → a ≠ b → (TJ9 a).2.1 ≠ (TJ9 b).2.1 := by decide +kernel
theorem tyJ9_ok : ∀ k, k < 0 → parseFieldDescriptor (TJ9 k).2.2.1 = some (tyJ9 k) := by decide +kernel
abbrev cJ9_floorMod_7cf53 : ByteArray := prog_14_method_50_code
def yJ9_floorMod_7cf53 : MethodName := ⟨RJ9, "floorMod", "(II)I"⟩
abbrev cJ9_abs_0f7a4 : ByteArray := prog_14_method_59_code
def yJ9_abs_0f7a4 : MethodName := ⟨RJ9, "abs", "(I)I"⟩
abbrev cJ9_max_7cf53 : ByteArray := prog_14_method_65_code
def yJ9_max_7cf53 : MethodName := ⟨RJ9, "max", "(II)I"⟩
abbrev cJ9_min_7cf53 : ByteArray := prog_14_method_69_code
def yJ9_min_7cf53 : MethodName := ⟨RJ9, "min", "(II)I"⟩
def RJ0 : String := "java/lang/String"
def TJ0 : u_T := fun k => match k with
  | _ => ("", "", "", false)
def tyJ0 : Nat → FieldType := fun k => match k with
  | _ => .int
abbrev wsJ00 : List Cond := u_ws RJ0 TJ0 0
theorem nmJ0 : ∀ a, a < 0 → ∀ b, b < 0 → a ≠ b → (TJ0 a).2.1 ≠ (TJ0 b).2.1 := by decide +kernel
theorem tyJ0_ok : ∀ k, k < 0 → parseFieldDescriptor (TJ0 k).2.2.1 = some (tyJ0 k) := by decide +kernel
abbrev cJ0_length_8abf5 : ByteArray := prog_15_method_54_code
def yJ0_length_8abf5 : MethodName := ⟨RJ0, "length", "()I"⟩
abbrev cJ0_charAt_5068e : ByteArray := prog_15_method_56_code
def yJ0_charAt_5068e : MethodName := ⟨RJ0, "charAt", "(I)C"⟩
abbrev cJ0_coder_7d493 : ByteArray := prog_15_method_152_code
def yJ0_coder_7d493 : MethodName := ⟨RJ0, "coder", "()B"⟩
abbrev cJ0_isLatin1_aae02 : ByteArray := prog_15_method_154_code
def yJ0_isLatin1_aae02 : MethodName := ⟨RJ0, "isLatin1", "()Z"⟩
abbrev cJ0_checkIndex_df160 : ByteArray := prog_15_method_155_code
def yJ0_checkIndex_df160 : MethodName := ⟨RJ0, "checkIndex", "(II)V"⟩
def RJ1 : String := "java/lang/StringLatin1"
def TJ1 : u_T := fun k => match k with
  | _ => ("", "", "", false)
def tyJ1 : Nat → FieldType := fun k => match k with
  | _ => .int
abbrev wsJ10 : List Cond := u_ws RJ1 TJ1 0
theorem nmJ1 : ∀ a, a < 0 → ∀ b, b < 0 → a ≠ b → (TJ1 a).2.1 ≠ (TJ1 b).2.1 := by decide +kernel
theorem tyJ1_ok : ∀ k, k < 0 → parseFieldDescriptor (TJ1 k).2.2.1 = some (tyJ1 k) := by decide +kernel
abbrev cJ1_charAt_3b067 : ByteArray := prog_16_method_2_code
def yJ1_charAt_3b067 : MethodName := ⟨RJ1, "charAt", "([BI)C"⟩
def RJ2 : String := "java/lang/StringUTF16"
def TJ2 : u_T := fun k => match k with
  | _ => ("", "", "", false)
def tyJ2 : Nat → FieldType := fun k => match k with
  | _ => .int
abbrev wsJ20 : List Cond := u_ws RJ2 TJ2 0
theorem nmJ2 : ∀ a, a < 0 → ∀ b, b < 0 → a ≠ b → (TJ2 a).2.1 ≠ (TJ2 b).2.1 := by decide +kernel
theorem tyJ2_ok : ∀ k, k < 0 → parseFieldDescriptor (TJ2 k).2.2.1 = some (tyJ2 k) := by decide +kernel
abbrev cJ2_getChar_3b067 : ByteArray := prog_17_method_5_code
def yJ2_getChar_3b067 : MethodName := ⟨RJ2, "getChar", "([BI)C"⟩
abbrev cJ2_length_9d52b : ByteArray := prog_17_method_6_code
def yJ2_length_9d52b : MethodName := ⟨RJ2, "length", "([B)I"⟩
abbrev cJ2_charAt_3b067 : ByteArray := prog_17_method_83_code
def yJ2_charAt_3b067 : MethodName := ⟨RJ2, "charAt", "([BI)C"⟩
abbrev cJ2_checkIndex_2214a : ByteArray := prog_17_method_91_code
def yJ2_checkIndex_2214a : MethodName := ⟨RJ2, "checkIndex", "(I[B)V"⟩
def RJ10 : String := "java/lang/System"
def TJ10 : u_T := fun k => match k with
  | _ => ("", "", "", false)
def tyJ10 : Nat → FieldType := fun k => match k with
  | _ => .int
abbrev wsJ100 : List Cond := u_ws RJ10 TJ10 0
theorem nmJ10 : ∀ a, a < 0 → ∀ b, b < 0 → a ≠ b → (TJ10 a).2.1 ≠ (TJ10 b).2.1 := by decide +kernel
theorem tyJ10_ok : ∀ k, k < 0 → parseFieldDescriptor (TJ10 k).2.2.1 = some (tyJ10 k) := by decide +kernel
def RJ3 : String := "jdk/internal/util/Preconditions"
def TJ3 : u_T := fun k => match k with
  | _ => ("", "", "", false)
def tyJ3 : Nat → FieldType := fun k => match k with
  | _ => .int
abbrev wsJ30 : List Cond := u_ws RJ3 TJ3 0
theorem nmJ3 : ∀ a, a < 0 → ∀ b, b < 0 → a ≠ b → (TJ3 a).2.1 ≠ (TJ3 b).2.1 := by decide +kernel
theorem tyJ3_ok : ∀ k, k < 0 → parseFieldDescriptor (TJ3 k).2.2.1 = some (tyJ3 k) := by decide +kernel
abbrev cJ3_checkIndex_8e157 : ByteArray := prog_19_method_11_code
def yJ3_checkIndex_8e157 : MethodName := ⟨RJ3, "checkIndex", "(IILjava/util/function/BiFunction;)I"⟩
def RL : String := "VaneCourtLaw"
abbrev cL_law : ByteArray := code
def yL_law : MethodName := ⟨RL, "law", "([I)Z"⟩
abbrev vwCl : List vw_C := [(RX0, TX0, 10), (RX1, TX1, 12), (RX2, TX2, 3), (RX4, TX4, 8), (RX5, TX5, 2), (RX6, TX6, 6), (RX7, TX7, 7), (RX9, TX9, 9), (RX10, TX10, 40)]
