-- ===== PART A: goes FIRST, ahead of the names: the tables' words, and 'selects' of the private methods out of them =====
/-- a private method of a class that the tables say can be made, by its rows of tables_1 -/
def lw_okq (q : MethodName × Nat) : Prop := (q.1.cls ≠ "java/lang/invoke/MethodHandle" ∧ q.1.cls ≠ "java/lang/invoke/VarHandle") ∧ Cond.instantiable q.1.cls q.2 ∈ tables_1 ∧ Cond.privateMethod q.1 ∈ tables_1 ∧ Cond.instanceMethod q.1 ∈ tables_1
theorem lw_p0 : lw_okq (⟨"BarSteps$Bar", "make", "(I)V"⟩, 15) := ⟨⟨by decide +kernel, by decide +kernel⟩, List.mem_of_getElem? (i := 24) (by decide +kernel), List.mem_of_getElem? (i := 236) (by decide +kernel), List.mem_of_getElem? (i := 237) (by decide +kernel)⟩
theorem lw_p1 : lw_okq (⟨"BarSteps$Bar", "reduce", "([JJ)J"⟩, 15) := ⟨⟨by decide +kernel, by decide +kernel⟩, List.mem_of_getElem? (i := 24) (by decide +kernel), List.mem_of_getElem? (i := 268) (by decide +kernel), List.mem_of_getElem? (i := 269) (by decide +kernel)⟩
theorem lw_p2 : lw_okq (⟨"BarSteps$Steady", "sweepRight", "(LBarSteps$Bar;I)V"⟩, 6) := ⟨⟨by decide +kernel, by decide +kernel⟩, List.mem_of_getElem? (i := 116) (by decide +kernel), List.mem_of_getElem? (i := 524) (by decide +kernel), List.mem_of_getElem? (i := 525) (by decide +kernel)⟩
theorem lw_p3 : lw_okq (⟨"BarSteps$Steady", "sweepLeft", "(LBarSteps$Bar;I)V"⟩, 6) := ⟨⟨by decide +kernel, by decide +kernel⟩, List.mem_of_getElem? (i := 116) (by decide +kernel), List.mem_of_getElem? (i := 534) (by decide +kernel), List.mem_of_getElem? (i := 535) (by decide +kernel)⟩
theorem lw_p4 : lw_okq (⟨"BarSteps", "firstBuried", "(I)I"⟩, 8) := ⟨⟨by decide +kernel, by decide +kernel⟩, List.mem_of_getElem? (i := 16) (by decide +kernel), List.mem_of_getElem? (i := 568) (by decide +kernel), List.mem_of_getElem? (i := 569) (by decide +kernel)⟩
theorem lw_p5 : lw_okq (⟨"BarSteps", "mayBeBuried", "(III)Z"⟩, 8) := ⟨⟨by decide +kernel, by decide +kernel⟩, List.mem_of_getElem? (i := 16) (by decide +kernel), List.mem_of_getElem? (i := 572) (by decide +kernel), List.mem_of_getElem? (i := 573) (by decide +kernel)⟩
theorem lw_p6 : lw_okq (⟨"BarSteps", "howManyBuried", "(I)I"⟩, 8) := ⟨⟨by decide +kernel, by decide +kernel⟩, List.mem_of_getElem? (i := 16) (by decide +kernel), List.mem_of_getElem? (i := 582) (by decide +kernel), List.mem_of_getElem? (i := 583) (by decide +kernel)⟩
theorem lw_p7 : lw_okq (⟨"BarSteps", "firstOtherwise", "(III)I"⟩, 8) := ⟨⟨by decide +kernel, by decide +kernel⟩, List.mem_of_getElem? (i := 16) (by decide +kernel), List.mem_of_getElem? (i := 590) (by decide +kernel), List.mem_of_getElem? (i := 591) (by decide +kernel)⟩
theorem lw_p8 : lw_okq (⟨"BarSteps$Tape", "readClause", "()Z"⟩, 5) := ⟨⟨by decide +kernel, by decide +kernel⟩, List.mem_of_getElem? (i := 164) (by decide +kernel), List.mem_of_getElem? (i := 642) (by decide +kernel), List.mem_of_getElem? (i := 643) (by decide +kernel)⟩
theorem lw_p9 : lw_okq (⟨"BarSteps$Tape", "skipBlanks", "()V"⟩, 5) := ⟨⟨by decide +kernel, by decide +kernel⟩, List.mem_of_getElem? (i := 164) (by decide +kernel), List.mem_of_getElem? (i := 646) (by decide +kernel), List.mem_of_getElem? (i := 647) (by decide +kernel)⟩
theorem lw_p10 : lw_okq (⟨"BarSteps$Tape", "lettersHere", "()I"⟩, 5) := ⟨⟨by decide +kernel, by decide +kernel⟩, List.mem_of_getElem? (i := 164) (by decide +kernel), List.mem_of_getElem? (i := 650) (by decide +kernel), List.mem_of_getElem? (i := 651) (by decide +kernel)⟩
theorem lw_p11 : lw_okq (⟨"BarSteps$Tape", "wordHere", "(I)I"⟩, 5) := ⟨⟨by decide +kernel, by decide +kernel⟩, List.mem_of_getElem? (i := 164) (by decide +kernel), List.mem_of_getElem? (i := 654) (by decide +kernel), List.mem_of_getElem? (i := 655) (by decide +kernel)⟩
theorem lw_p12 : lw_okq (⟨"BarSteps$Tape", "isHere", "(Ljava/lang/String;I)Z"⟩, 5) := ⟨⟨by decide +kernel, by decide +kernel⟩, List.mem_of_getElem? (i := 164) (by decide +kernel), List.mem_of_getElem? (i := 669) (by decide +kernel), List.mem_of_getElem? (i := 670) (by decide +kernel)⟩
theorem lw_p13 : lw_okq (⟨"BarSteps$Tape", "planNext", "(I)V"⟩, 5) := ⟨⟨by decide +kernel, by decide +kernel⟩, List.mem_of_getElem? (i := 164) (by decide +kernel), List.mem_of_getElem? (i := 721) (by decide +kernel), List.mem_of_getElem? (i := 722) (by decide +kernel)⟩
theorem lw_p14 : lw_okq (⟨"BarSteps$Tape", "readNumber", "()Z"⟩, 5) := ⟨⟨by decide +kernel, by decide +kernel⟩, List.mem_of_getElem? (i := 164) (by decide +kernel), List.mem_of_getElem? (i := 728) (by decide +kernel), List.mem_of_getElem? (i := 729) (by decide +kernel)⟩
theorem lw_p15 : lw_okq (⟨"BarSteps", "clausesDone", "()I"⟩, 8) := ⟨⟨by decide +kernel, by decide +kernel⟩, List.mem_of_getElem? (i := 16) (by decide +kernel), List.mem_of_getElem? (i := 732) (by decide +kernel), List.mem_of_getElem? (i := 733) (by decide +kernel)⟩
def lw_privs_1 : List (MethodName × Nat) := [(⟨"BarSteps$Bar", "make", "(I)V"⟩, 15), (⟨"BarSteps$Bar", "reduce", "([JJ)J"⟩, 15), (⟨"BarSteps$Steady", "sweepRight", "(LBarSteps$Bar;I)V"⟩, 6), (⟨"BarSteps$Steady", "sweepLeft", "(LBarSteps$Bar;I)V"⟩, 6), (⟨"BarSteps", "firstBuried", "(I)I"⟩, 8), (⟨"BarSteps", "mayBeBuried", "(III)Z"⟩, 8), (⟨"BarSteps", "howManyBuried", "(I)I"⟩, 8), (⟨"BarSteps", "firstOtherwise", "(III)I"⟩, 8), (⟨"BarSteps$Tape", "readClause", "()Z"⟩, 5), (⟨"BarSteps$Tape", "skipBlanks", "()V"⟩, 5), (⟨"BarSteps$Tape", "lettersHere", "()I"⟩, 5), (⟨"BarSteps$Tape", "wordHere", "(I)I"⟩, 5), (⟨"BarSteps$Tape", "isHere", "(Ljava/lang/String;I)Z"⟩, 5), (⟨"BarSteps$Tape", "planNext", "(I)V"⟩, 5), (⟨"BarSteps$Tape", "readNumber", "()Z"⟩, 5), (⟨"BarSteps", "clausesDone", "()I"⟩, 8)]
theorem lw_r1 : ∀ q ∈ lw_privs_1, lw_okq q := List.forall_mem_cons.mpr ⟨lw_p0, List.forall_mem_cons.mpr ⟨lw_p1, List.forall_mem_cons.mpr ⟨lw_p2, List.forall_mem_cons.mpr ⟨lw_p3, List.forall_mem_cons.mpr ⟨lw_p4, List.forall_mem_cons.mpr ⟨lw_p5, List.forall_mem_cons.mpr ⟨lw_p6, List.forall_mem_cons.mpr ⟨lw_p7, List.forall_mem_cons.mpr ⟨lw_p8, List.forall_mem_cons.mpr ⟨lw_p9, List.forall_mem_cons.mpr ⟨lw_p10, List.forall_mem_cons.mpr ⟨lw_p11, List.forall_mem_cons.mpr ⟨lw_p12, List.forall_mem_cons.mpr ⟨lw_p13, List.forall_mem_cons.mpr ⟨lw_p14, List.forall_mem_cons.mpr ⟨lw_p15, fun _ h => absurd h List.not_mem_nil⟩⟩⟩⟩⟩⟩⟩⟩⟩⟩⟩⟩⟩⟩⟩⟩
theorem lw_p16 : lw_okq (⟨"BarSteps", "isClauseDone", "(I)Z"⟩, 8) := ⟨⟨by decide +kernel, by decide +kernel⟩, List.mem_of_getElem? (i := 16) (by decide +kernel), List.mem_of_getElem? (i := 736) (by decide +kernel), List.mem_of_getElem? (i := 737) (by decide +kernel)⟩
theorem lw_p17 : lw_okq (⟨"BarStepsModel", "hushed", "(I)I"⟩, 55) := ⟨⟨by decide +kernel, by decide +kernel⟩, List.mem_of_getElem? (i := 790) (by decide +kernel), List.mem_of_getElem? (i := 981) (by decide +kernel), List.mem_of_getElem? (i := 982) (by decide +kernel)⟩
theorem lw_p18 : lw_okq (⟨"BarStepsModel", "shorten", "()V"⟩, 55) := ⟨⟨by decide +kernel, by decide +kernel⟩, List.mem_of_getElem? (i := 790) (by decide +kernel), List.mem_of_getElem? (i := 985) (by decide +kernel), List.mem_of_getElem? (i := 986) (by decide +kernel)⟩
theorem lw_p19 : lw_okq (⟨"BarStepsModel", "isCell", "(I)Z"⟩, 55) := ⟨⟨by decide +kernel, by decide +kernel⟩, List.mem_of_getElem? (i := 790) (by decide +kernel), List.mem_of_getElem? (i := 997) (by decide +kernel), List.mem_of_getElem? (i := 998) (by decide +kernel)⟩
theorem lw_p20 : lw_okq (⟨"BarStepsModel", "side", "(I)I"⟩, 55) := ⟨⟨by decide +kernel, by decide +kernel⟩, List.mem_of_getElem? (i := 790) (by decide +kernel), List.mem_of_getElem? (i := 1011) (by decide +kernel), List.mem_of_getElem? (i := 1012) (by decide +kernel)⟩
theorem lw_p21 : lw_okq (⟨"BarStepsModel", "holds", "(I)I"⟩, 55) := ⟨⟨by decide +kernel, by decide +kernel⟩, List.mem_of_getElem? (i := 790) (by decide +kernel), List.mem_of_getElem? (i := 1016) (by decide +kernel), List.mem_of_getElem? (i := 1017) (by decide +kernel)⟩
theorem lw_p22 : lw_okq (⟨"BarStepsModel", "fin", "(I)I"⟩, 55) := ⟨⟨by decide +kernel, by decide +kernel⟩, List.mem_of_getElem? (i := 790) (by decide +kernel), List.mem_of_getElem? (i := 1026) (by decide +kernel), List.mem_of_getElem? (i := 1027) (by decide +kernel)⟩
theorem lw_p23 : lw_okq (⟨"BarStepsModel", "made", "(I)I"⟩, 55) := ⟨⟨by decide +kernel, by decide +kernel⟩, List.mem_of_getElem? (i := 790) (by decide +kernel), List.mem_of_getElem? (i := 1030) (by decide +kernel), List.mem_of_getElem? (i := 1031) (by decide +kernel)⟩
theorem lw_p24 : lw_okq (⟨"BarStepsModel", "isJoint", "(I)Z"⟩, 55) := ⟨⟨by decide +kernel, by decide +kernel⟩, List.mem_of_getElem? (i := 790) (by decide +kernel), List.mem_of_getElem? (i := 1056) (by decide +kernel), List.mem_of_getElem? (i := 1057) (by decide +kernel)⟩
theorem lw_p25 : lw_okq (⟨"BarStepsModel", "leads", "(I)I"⟩, 55) := ⟨⟨by decide +kernel, by decide +kernel⟩, List.mem_of_getElem? (i := 790) (by decide +kernel), List.mem_of_getElem? (i := 1060) (by decide +kernel), List.mem_of_getElem? (i := 1061) (by decide +kernel)⟩
theorem lw_p26 : lw_okq (⟨"BarStepsModel", "think", "()V"⟩, 55) := ⟨⟨by decide +kernel, by decide +kernel⟩, List.mem_of_getElem? (i := 790) (by decide +kernel), List.mem_of_getElem? (i := 1080) (by decide +kernel), List.mem_of_getElem? (i := 1081) (by decide +kernel)⟩
theorem lw_p27 : lw_okq (⟨"BarStepsModel", "flows", "(I)J"⟩, 55) := ⟨⟨by decide +kernel, by decide +kernel⟩, List.mem_of_getElem? (i := 790) (by decide +kernel), List.mem_of_getElem? (i := 1084) (by decide +kernel), List.mem_of_getElem? (i := 1085) (by decide +kernel)⟩
theorem lw_p28 : lw_okq (⟨"BarStepsModel", "together", "(I)I"⟩, 55) := ⟨⟨by decide +kernel, by decide +kernel⟩, List.mem_of_getElem? (i := 790) (by decide +kernel), List.mem_of_getElem? (i := 1092) (by decide +kernel), List.mem_of_getElem? (i := 1093) (by decide +kernel)⟩
theorem lw_p29 : lw_okq (⟨"BarStepsModel", "goes", "()Z"⟩, 55) := ⟨⟨by decide +kernel, by decide +kernel⟩, List.mem_of_getElem? (i := 790) (by decide +kernel), List.mem_of_getElem? (i := 1114) (by decide +kernel), List.mem_of_getElem? (i := 1115) (by decide +kernel)⟩
theorem lw_p30 : lw_okq (⟨"BarStepsModel", "reckons", "()J"⟩, 55) := ⟨⟨by decide +kernel, by decide +kernel⟩, List.mem_of_getElem? (i := 790) (by decide +kernel), List.mem_of_getElem? (i := 1118) (by decide +kernel), List.mem_of_getElem? (i := 1119) (by decide +kernel)⟩
theorem lw_p31 : lw_okq (⟨"BarStepsModel", "change", "(I)J"⟩, 55) := ⟨⟨by decide +kernel, by decide +kernel⟩, List.mem_of_getElem? (i := 790) (by decide +kernel), List.mem_of_getElem? (i := 1122) (by decide +kernel), List.mem_of_getElem? (i := 1123) (by decide +kernel)⟩
def lw_privs_2 : List (MethodName × Nat) := [(⟨"BarSteps", "isClauseDone", "(I)Z"⟩, 8), (⟨"BarStepsModel", "hushed", "(I)I"⟩, 55), (⟨"BarStepsModel", "shorten", "()V"⟩, 55), (⟨"BarStepsModel", "isCell", "(I)Z"⟩, 55), (⟨"BarStepsModel", "side", "(I)I"⟩, 55), (⟨"BarStepsModel", "holds", "(I)I"⟩, 55), (⟨"BarStepsModel", "fin", "(I)I"⟩, 55), (⟨"BarStepsModel", "made", "(I)I"⟩, 55), (⟨"BarStepsModel", "isJoint", "(I)Z"⟩, 55), (⟨"BarStepsModel", "leads", "(I)I"⟩, 55), (⟨"BarStepsModel", "think", "()V"⟩, 55), (⟨"BarStepsModel", "flows", "(I)J"⟩, 55), (⟨"BarStepsModel", "together", "(I)I"⟩, 55), (⟨"BarStepsModel", "goes", "()Z"⟩, 55), (⟨"BarStepsModel", "reckons", "()J"⟩, 55), (⟨"BarStepsModel", "change", "(I)J"⟩, 55)]
theorem lw_r2 : ∀ q ∈ lw_privs_2, lw_okq q := List.forall_mem_cons.mpr ⟨lw_p16, List.forall_mem_cons.mpr ⟨lw_p17, List.forall_mem_cons.mpr ⟨lw_p18, List.forall_mem_cons.mpr ⟨lw_p19, List.forall_mem_cons.mpr ⟨lw_p20, List.forall_mem_cons.mpr ⟨lw_p21, List.forall_mem_cons.mpr ⟨lw_p22, List.forall_mem_cons.mpr ⟨lw_p23, List.forall_mem_cons.mpr ⟨lw_p24, List.forall_mem_cons.mpr ⟨lw_p25, List.forall_mem_cons.mpr ⟨lw_p26, List.forall_mem_cons.mpr ⟨lw_p27, List.forall_mem_cons.mpr ⟨lw_p28, List.forall_mem_cons.mpr ⟨lw_p29, List.forall_mem_cons.mpr ⟨lw_p30, List.forall_mem_cons.mpr ⟨lw_p31, fun _ h => absurd h List.not_mem_nil⟩⟩⟩⟩⟩⟩⟩⟩⟩⟩⟩⟩⟩⟩⟩⟩
theorem lw_p32 : lw_okq (⟨"BarStepsModel", "keep", "()V"⟩, 55) := ⟨⟨by decide +kernel, by decide +kernel⟩, List.mem_of_getElem? (i := 790) (by decide +kernel), List.mem_of_getElem? (i := 1127) (by decide +kernel), List.mem_of_getElem? (i := 1128) (by decide +kernel)⟩
theorem lw_p33 : lw_okq (⟨"BarStepsModel", "goes", "(I)Z"⟩, 55) := ⟨⟨by decide +kernel, by decide +kernel⟩, List.mem_of_getElem? (i := 790) (by decide +kernel), List.mem_of_getElem? (i := 1135) (by decide +kernel), List.mem_of_getElem? (i := 1136) (by decide +kernel)⟩
theorem lw_p34 : lw_okq (⟨"BarStepsModel", "greatest", "()J"⟩, 55) := ⟨⟨by decide +kernel, by decide +kernel⟩, List.mem_of_getElem? (i := 790) (by decide +kernel), List.mem_of_getElem? (i := 1147) (by decide +kernel), List.mem_of_getElem? (i := 1148) (by decide +kernel)⟩
theorem lw_p35 : lw_okq (⟨"BarStepsModel", "least", "()J"⟩, 55) := ⟨⟨by decide +kernel, by decide +kernel⟩, List.mem_of_getElem? (i := 790) (by decide +kernel), List.mem_of_getElem? (i := 1160) (by decide +kernel), List.mem_of_getElem? (i := 1161) (by decide +kernel)⟩
theorem lw_p36 : lw_okq (⟨"BarStepsModel", "steadies", "(II)Z"⟩, 55) := ⟨⟨by decide +kernel, by decide +kernel⟩, List.mem_of_getElem? (i := 790) (by decide +kernel), List.mem_of_getElem? (i := 1186) (by decide +kernel), List.mem_of_getElem? (i := 1187) (by decide +kernel)⟩
theorem lw_p37 : lw_okq (⟨"BarStepsModel", "brings", "(III)J"⟩, 55) := ⟨⟨by decide +kernel, by decide +kernel⟩, List.mem_of_getElem? (i := 790) (by decide +kernel), List.mem_of_getElem? (i := 1190) (by decide +kernel), List.mem_of_getElem? (i := 1191) (by decide +kernel)⟩
theorem lw_p38 : lw_okq (⟨"BarStepsModel", "isSo", "(I)Z"⟩, 55) := ⟨⟨by decide +kernel, by decide +kernel⟩, List.mem_of_getElem? (i := 790) (by decide +kernel), List.mem_of_getElem? (i := 1217) (by decide +kernel), List.mem_of_getElem? (i := 1218) (by decide +kernel)⟩
theorem lw_p39 : lw_okq (⟨"BarStepsModel", "otherwise", "(II)I"⟩, 55) := ⟨⟨by decide +kernel, by decide +kernel⟩, List.mem_of_getElem? (i := 790) (by decide +kernel), List.mem_of_getElem? (i := 1225) (by decide +kernel), List.mem_of_getElem? (i := 1226) (by decide +kernel)⟩
theorem lw_p40 : lw_okq (⟨"BarStepsModel", "isText", "(Z)Z"⟩, 55) := ⟨⟨by decide +kernel, by decide +kernel⟩, List.mem_of_getElem? (i := 790) (by decide +kernel), List.mem_of_getElem? (i := 1249) (by decide +kernel), List.mem_of_getElem? (i := 1250) (by decide +kernel)⟩
theorem lw_p41 : lw_okq (⟨"BarStepsModel", "isClause", "(Z)Z"⟩, 55) := ⟨⟨by decide +kernel, by decide +kernel⟩, List.mem_of_getElem? (i := 790) (by decide +kernel), List.mem_of_getElem? (i := 1253) (by decide +kernel), List.mem_of_getElem? (i := 1254) (by decide +kernel)⟩
theorem lw_p42 : lw_okq (⟨"BarStepsModel", "reads", "()V"⟩, 55) := ⟨⟨by decide +kernel, by decide +kernel⟩, List.mem_of_getElem? (i := 790) (by decide +kernel), List.mem_of_getElem? (i := 1257) (by decide +kernel), List.mem_of_getElem? (i := 1258) (by decide +kernel)⟩
theorem lw_p43 : lw_okq (⟨"BarStepsModel", "isLetter", "(I)Z"⟩, 55) := ⟨⟨by decide +kernel, by decide +kernel⟩, List.mem_of_getElem? (i := 790) (by decide +kernel), List.mem_of_getElem? (i := 1261) (by decide +kernel), List.mem_of_getElem? (i := 1262) (by decide +kernel)⟩
theorem lw_p44 : lw_okq (⟨"BarStepsModel", "readsWord", "()V"⟩, 55) := ⟨⟨by decide +kernel, by decide +kernel⟩, List.mem_of_getElem? (i := 790) (by decide +kernel), List.mem_of_getElem? (i := 1267) (by decide +kernel), List.mem_of_getElem? (i := 1268) (by decide +kernel)⟩
theorem lw_p45 : lw_okq (⟨"BarStepsModel", "isDigit", "(I)Z"⟩, 55) := ⟨⟨by decide +kernel, by decide +kernel⟩, List.mem_of_getElem? (i := 790) (by decide +kernel), List.mem_of_getElem? (i := 1271) (by decide +kernel), List.mem_of_getElem? (i := 1272) (by decide +kernel)⟩
theorem lw_p46 : lw_okq (⟨"BarStepsModel", "readsNumber", "()V"⟩, 55) := ⟨⟨by decide +kernel, by decide +kernel⟩, List.mem_of_getElem? (i := 790) (by decide +kernel), List.mem_of_getElem? (i := 1277) (by decide +kernel), List.mem_of_getElem? (i := 1278) (by decide +kernel)⟩
theorem lw_p47 : lw_okq (⟨"BarStepsModel", "isDone", "(I)Z"⟩, 55) := ⟨⟨by decide +kernel, by decide +kernel⟩, List.mem_of_getElem? (i := 790) (by decide +kernel), List.mem_of_getElem? (i := 1281) (by decide +kernel), List.mem_of_getElem? (i := 1282) (by decide +kernel)⟩
def lw_privs_3 : List (MethodName × Nat) := [(⟨"BarStepsModel", "keep", "()V"⟩, 55), (⟨"BarStepsModel", "goes", "(I)Z"⟩, 55), (⟨"BarStepsModel", "greatest", "()J"⟩, 55), (⟨"BarStepsModel", "least", "()J"⟩, 55), (⟨"BarStepsModel", "steadies", "(II)Z"⟩, 55), (⟨"BarStepsModel", "brings", "(III)J"⟩, 55), (⟨"BarStepsModel", "isSo", "(I)Z"⟩, 55), (⟨"BarStepsModel", "otherwise", "(II)I"⟩, 55), (⟨"BarStepsModel", "isText", "(Z)Z"⟩, 55), (⟨"BarStepsModel", "isClause", "(Z)Z"⟩, 55), (⟨"BarStepsModel", "reads", "()V"⟩, 55), (⟨"BarStepsModel", "isLetter", "(I)Z"⟩, 55), (⟨"BarStepsModel", "readsWord", "()V"⟩, 55), (⟨"BarStepsModel", "isDigit", "(I)Z"⟩, 55), (⟨"BarStepsModel", "readsNumber", "()V"⟩, 55), (⟨"BarStepsModel", "isDone", "(I)Z"⟩, 55)]
theorem lw_r3 : ∀ q ∈ lw_privs_3, lw_okq q := List.forall_mem_cons.mpr ⟨lw_p32, List.forall_mem_cons.mpr ⟨lw_p33, List.forall_mem_cons.mpr ⟨lw_p34, List.forall_mem_cons.mpr ⟨lw_p35, List.forall_mem_cons.mpr ⟨lw_p36, List.forall_mem_cons.mpr ⟨lw_p37, List.forall_mem_cons.mpr ⟨lw_p38, List.forall_mem_cons.mpr ⟨lw_p39, List.forall_mem_cons.mpr ⟨lw_p40, List.forall_mem_cons.mpr ⟨lw_p41, List.forall_mem_cons.mpr ⟨lw_p42, List.forall_mem_cons.mpr ⟨lw_p43, List.forall_mem_cons.mpr ⟨lw_p44, List.forall_mem_cons.mpr ⟨lw_p45, List.forall_mem_cons.mpr ⟨lw_p46, List.forall_mem_cons.mpr ⟨lw_p47, fun _ h => absurd h List.not_mem_nil⟩⟩⟩⟩⟩⟩⟩⟩⟩⟩⟩⟩⟩⟩⟩⟩
def lw_privs : List (MethodName × Nat) := lw_privs_1 ++ (lw_privs_2 ++ (lw_privs_3))
def lw_tbl : List Cond := k2_sels lw_privs ++ tables_1
theorem lw_privs_ok : ∀ q ∈ lw_privs, lw_okq q := by
  show ∀ q ∈ lw_privs_1 ++ (lw_privs_2 ++ (lw_privs_3)), lw_okq q
  exact List.forall_mem_append.mpr ⟨lw_r1, List.forall_mem_append.mpr ⟨lw_r2, lw_r3⟩⟩
def RX0 : String := "BarSteps$Bar"
def TX0 : u_T := fun k => match k with
  | 0 => ("BarSteps$Bar", "cells", "I", false)
  | 1 => ("BarSteps$Bar", "kind", "[I", true)
  | 2 => ("BarSteps$Bar", "k", "[I", true)
  | 3 => ("BarSteps$Bar", "c", "[I", true)
  | 4 => ("BarSteps$Bar", "source", "[I", true)
  | 5 => ("BarSteps$Bar", "side", "[I", true)
  | 6 => ("BarSteps$Bar", "holds", "[I", true)
  | 7 => ("BarSteps$Bar", "fin", "[I", true)
  | 8 => ("BarSteps$Bar", "above", "[J", true)
  | 9 => ("BarSteps$Bar", "below", "J", false)
  | 10 => ("BarSteps$Bar", "ends", "[I", true)
  | 11 => ("BarSteps$Bar", "fine", "I", false)
  | 12 => ("BarSteps$Bar", "air", "I", false)
  | 13 => ("BarSteps$Bar", "pulses", "LBarSteps$Pulses;", true)
  | _ => ("BarSteps$Bar", "next", "[J", true)
def tyX0 : Nat → FieldType := fun k => match k with
  | 0 => .int
  | 1 => .array .int
  | 2 => .array .int
  | 3 => .array .int
  | 4 => .array .int
  | 5 => .array .int
  | 6 => .array .int
  | 7 => .array .int
  | 8 => .array .long
  | 9 => .long
  | 10 => .array .int
  | 11 => .int
  | 12 => .int
  | 13 => .object "BarSteps$Pulses"
  | _ => .array .long
abbrev wsX00 : List Cond := u_ws RX0 TX0 15
theorem nmX0 : ∀ a, a < 15 → ∀ b, b < 15 → a ≠ b → (TX0 a).2.1 ≠ (TX0 b).2.1 := by decide +kernel
theorem tyX0_ok : ∀ k, k < 15 → parseFieldDescriptor (TX0 k).2.2.1 = some (tyX0 k) := by decide +kernel
abbrev cX0_init : ByteArray := prog_2_method_1_code
def yX0_init : MethodName := ⟨RX0, "<init>", "()V"⟩
abbrev cX0_become : ByteArray := prog_2_method_2_code
def yX0_become : MethodName := ⟨RX0, "become", "(LBarSteps$Bar;)V"⟩
abbrev cX0_has : ByteArray := prog_2_method_3_code
def yX0_has : MethodName := ⟨RX0, "has", "(I)Z"⟩
abbrev cX0_append : ByteArray := prog_2_method_4_code
def yX0_append : MethodName := ⟨RX0, "append", "(IIII)I"⟩
abbrev cX0_make : ByteArray := prog_2_method_5_code
def yX0_make : MethodName := ⟨RX0, "make", "(I)V"⟩
abbrev cX0_removeLatest : ByteArray := prog_2_method_6_code
def yX0_removeLatest : MethodName := ⟨RX0, "removeLatest", "()V"⟩
abbrev cX0_changeKind : ByteArray := prog_2_method_7_code
def yX0_changeKind : MethodName := ⟨RX0, "changeKind", "(II)I"⟩
abbrev cX0_changeK : ByteArray := prog_2_method_8_code
def yX0_changeK : MethodName := ⟨RX0, "changeK", "(II)I"⟩
abbrev cX0_changeC : ByteArray := prog_2_method_9_code
def yX0_changeC : MethodName := ⟨RX0, "changeC", "(II)I"⟩
abbrev cX0_changeSource : ByteArray := prog_2_method_10_code
def yX0_changeSource : MethodName := ⟨RX0, "changeSource", "(II)I"⟩
abbrev cX0_changeHeat : ByteArray := prog_2_method_11_code
def yX0_changeHeat : MethodName := ⟨RX0, "changeHeat", "(II)V"⟩
abbrev cX0_warm : ByteArray := prog_2_method_12_code
def yX0_warm : MethodName := ⟨RX0, "warm", "(II)V"⟩
abbrev cX0_hottestCell : ByteArray := prog_2_method_13_code
def yX0_hottestCell : MethodName := ⟨RX0, "hottestCell", "()I"⟩
abbrev cX0_coldestCell : ByteArray := prog_2_method_14_code
def yX0_coldestCell : MethodName := ⟨RX0, "coldestCell", "()I"⟩
abbrev cX0_greatest : ByteArray := prog_2_method_15_code
def yX0_greatest : MethodName := ⟨RX0, "greatest", "()J"⟩
abbrev cX0_least : ByteArray := prog_2_method_16_code
def yX0_least : MethodName := ⟨RX0, "least", "()J"⟩
abbrev cX0_hasJoint : ByteArray := prog_2_method_17_code
def yX0_hasJoint : MethodName := ⟨RX0, "hasJoint", "(I)Z"⟩
abbrev cX0_leads : ByteArray := prog_2_method_18_code
def yX0_leads : MethodName := ⟨RX0, "leads", "(I)I"⟩
abbrev cX0_flowAbove : ByteArray := prog_2_method_19_code
def yX0_flowAbove : MethodName := ⟨RX0, "flowAbove", "(I[JJ)J"⟩
abbrev cX0_loss : ByteArray := prog_2_method_20_code
def yX0_loss : MethodName := ⟨RX0, "loss", "(I)I"⟩
abbrev cX0_supply : ByteArray := prog_2_method_21_code
def yX0_supply : MethodName := ⟨RX0, "supply", "(I)I"⟩
abbrev cX0_gain : ByteArray := prog_2_method_22_code
def yX0_gain : MethodName := ⟨RX0, "gain", "(I)J"⟩
abbrev cX0_advance : ByteArray := prog_2_method_23_code
def yX0_advance : MethodName := ⟨RX0, "advance", "()I"⟩
abbrev cX0_takeHeats : ByteArray := prog_2_method_24_code
def yX0_takeHeats : MethodName := ⟨RX0, "takeHeats", "([JJ)I"⟩
abbrev cX0_reduce : ByteArray := prog_2_method_25_code
def yX0_reduce : MethodName := ⟨RX0, "reduce", "([JJ)J"⟩
abbrev cX0_isRisenFrom : ByteArray := prog_2_method_26_code
def yX0_isRisenFrom : MethodName := ⟨RX0, "isRisenFrom", "(JJ)Z"⟩
abbrev cX0_canRest : ByteArray := prog_2_method_27_code
def yX0_canRest : MethodName := ⟨RX0, "canRest", "()Z"⟩
def RX1 : String := "BarSteps$Kinds"
def TX1 : u_T := fun k => match k with
  | _ => ("", "", "", false)
def tyX1 : Nat → FieldType := fun k => match k with
  | _ => .int
abbrev wsX10 : List Cond := u_ws RX1 TX1 0
theorem nmX1 : ∀ a, a < 0 → ∀ b, b < 0 → a ≠ b → (TX1 a).2.1 ≠ (TX1 b).2.1 := by decide +kernel
theorem tyX1_ok : ∀ k, k < 0 → parseFieldDescriptor (TX1 k).2.2.1 = some (tyX1 k) := by decide +kernel
abbrev cX1_lineOf : ByteArray := prog_3_method_2_code
def yX1_lineOf : MethodName := ⟨RX1, "lineOf", "(I)I"⟩
abbrev cX1_isUnder : ByteArray := prog_3_method_3_code
def yX1_isUnder : MethodName := ⟨RX1, "isUnder", "(II)Z"⟩
abbrev cX1_sideOf : ByteArray := prog_3_method_4_code
def yX1_sideOf : MethodName := ⟨RX1, "sideOf", "(II)I"⟩
abbrev cX1_holdsOf : ByteArray := prog_3_method_5_code
def yX1_holdsOf : MethodName := ⟨RX1, "holdsOf", "(II)I"⟩
abbrev cX1_finOf : ByteArray := prog_3_method_6_code
def yX1_finOf : MethodName := ⟨RX1, "finOf", "(I)I"⟩
abbrev cX1_madeOf : ByteArray := prog_3_method_7_code
def yX1_madeOf : MethodName := ⟨RX1, "madeOf", "(II)I"⟩
def RX2 : String := "BarSteps$Pulses"
def TX2 : u_T := fun k => match k with
  | 0 => ("BarSteps$Pulses", "cell", "[I", true)
  | 1 => ("BarSteps$Pulses", "due", "[I", true)
  | 2 => ("BarSteps$Pulses", "heat", "[I", true)
  | _ => ("BarSteps$Pulses", "size", "I", false)
def tyX2 : Nat → FieldType := fun k => match k with
  | 0 => .array .int
  | 1 => .array .int
  | 2 => .array .int
  | _ => .int
abbrev wsX20 : List Cond := u_ws RX2 TX2 4
theorem nmX2 : ∀ a, a < 4 → ∀ b, b < 4 → a ≠ b → (TX2 a).2.1 ≠ (TX2 b).2.1 := by decide +kernel
theorem tyX2_ok : ∀ k, k < 4 → parseFieldDescriptor (TX2 k).2.2.1 = some (tyX2 k) := by decide +kernel
abbrev cX2_init : ByteArray := prog_4_method_1_code
def yX2_init : MethodName := ⟨RX2, "<init>", "()V"⟩
abbrev cX2_become : ByteArray := prog_4_method_2_code
def yX2_become : MethodName := ⟨RX2, "become", "(LBarSteps$Pulses;)V"⟩
abbrev cX2_append : ByteArray := prog_4_method_3_code
def yX2_append : MethodName := ⟨RX2, "append", "(III)I"⟩
abbrev cX2_removeOf : ByteArray := prog_4_method_4_code
def yX2_removeOf : MethodName := ⟨RX2, "removeOf", "(I)I"⟩
abbrev cX2_warmNext : ByteArray := prog_4_method_5_code
def yX2_warmNext : MethodName := ⟨RX2, "warmNext", "([JJ)V"⟩
abbrev cX2_passOne : ByteArray := prog_4_method_6_code
def yX2_passOne : MethodName := ⟨RX2, "passOne", "()V"⟩
def RX3 : String := "BarSteps$Sheets"
def TX3 : u_T := fun k => match k with
  | 0 => ("BarSteps$Sheets", "sort", "[I", true)
  | 1 => ("BarSteps$Sheets", "size", "[I", true)
  | _ => ("BarSteps$Sheets", "items", "[[I", true)
def tyX3 : Nat → FieldType := fun k => match k with
  | 0 => .array .int
  | 1 => .array .int
  | _ => .array (.array .int)
abbrev wsX30 : List Cond := u_ws RX3 TX3 3
theorem nmX3 : ∀ a, a < 3 → ∀ b, b < 3 → a ≠ b → (TX3 a).2.1 ≠ (TX3 b).2.1 := by decide +kernel
theorem tyX3_ok : ∀ k, k < 3 → parseFieldDescriptor (TX3 k).2.2.1 = some (tyX3 k) := by decide +kernel
abbrev cX3_init : ByteArray := prog_5_method_1_code
def yX3_init : MethodName := ⟨RX3, "<init>", "()V"⟩
abbrev cX3_isMissing : ByteArray := prog_5_method_2_code
def yX3_isMissing : MethodName := ⟨RX3, "isMissing", "(I)Z"⟩
abbrev cX3_has : ByteArray := prog_5_method_3_code
def yX3_has : MethodName := ⟨RX3, "has", "(II)Z"⟩
abbrev cX3_hasRun : ByteArray := prog_5_method_4_code
def yX3_hasRun : MethodName := ⟨RX3, "hasRun", "(III)Z"⟩
abbrev cX3_renew : ByteArray := prog_5_method_5_code
def yX3_renew : MethodName := ⟨RX3, "renew", "(III)V"⟩
def RX4 : String := "BarSteps$Steady"
def TX4 : u_T := fun k => match k with
  | 0 => ("BarSteps$Steady", "above", "[J", true)
  | 1 => ("BarSteps$Steady", "below", "J", false)
  | 2 => ("BarSteps$Steady", "ahead", "[J", true)
  | 3 => ("BarSteps$Steady", "onward", "[J", true)
  | 4 => ("BarSteps$Steady", "fromLeft", "[J", true)
  | _ => ("BarSteps$Steady", "fromRight", "[J", true)
def tyX4 : Nat → FieldType := fun k => match k with
  | 0 => .array .long
  | 1 => .long
  | 2 => .array .long
  | 3 => .array .long
  | 4 => .array .long
  | _ => .array .long
abbrev wsX40 : List Cond := u_ws RX4 TX4 6
theorem nmX4 : ∀ a, a < 6 → ∀ b, b < 6 → a ≠ b → (TX4 a).2.1 ≠ (TX4 b).2.1 := by decide +kernel
theorem tyX4_ok : ∀ k, k < 6 → parseFieldDescriptor (TX4 k).2.2.1 = some (tyX4 k) := by decide +kernel
abbrev cX4_init : ByteArray := prog_6_method_1_code
def yX4_init : MethodName := ⟨RX4, "<init>", "()V"⟩
abbrev cX4_solve : ByteArray := prog_6_method_2_code
def yX4_solve : MethodName := ⟨RX4, "solve", "(LBarSteps$Bar;)V"⟩
abbrev cX4_sweepRight : ByteArray := prog_6_method_3_code
def yX4_sweepRight : MethodName := ⟨RX4, "sweepRight", "(LBarSteps$Bar;I)V"⟩
abbrev cX4_sweepLeft : ByteArray := prog_6_method_4_code
def yX4_sweepLeft : MethodName := ⟨RX4, "sweepLeft", "(LBarSteps$Bar;I)V"⟩
def RX5 : String := "BarSteps$Tape"
def TX5 : u_T := fun k => match k with
  | 0 => ("BarSteps$Tape", "bytes", "[I", true)
  | 1 => ("BarSteps$Tape", "size", "I", false)
  | 2 => ("BarSteps$Tape", "plan", "[I", true)
  | 3 => ("BarSteps$Tape", "planned", "I", false)
  | _ => ("BarSteps$Tape", "at", "I", false)
def tyX5 : Nat → FieldType := fun k => match k with
  | 0 => .array .int
  | 1 => .int
  | 2 => .array .int
  | 3 => .int
  | _ => .int
abbrev wsX50 : List Cond := u_ws RX5 TX5 5
theorem nmX5 : ∀ a, a < 5 → ∀ b, b < 5 → a ≠ b → (TX5 a).2.1 ≠ (TX5 b).2.1 := by decide +kernel
theorem tyX5_ok : ∀ k, k < 5 → parseFieldDescriptor (TX5 k).2.2.1 = some (tyX5 k) := by decide +kernel
abbrev cX5_init : ByteArray := prog_7_method_1_code
def yX5_init : MethodName := ⟨RX5, "<init>", "()V"⟩
abbrev cX5_append : ByteArray := prog_7_method_2_code
def yX5_append : MethodName := ⟨RX5, "append", "(II)V"⟩
abbrev cX5_planAt : ByteArray := prog_7_method_3_code
def yX5_planAt : MethodName := ⟨RX5, "planAt", "(I)I"⟩
abbrev cX5_numbersOf : ByteArray := prog_7_method_4_code
def yX5_numbersOf : MethodName := ⟨RX5, "numbersOf", "(I)I"⟩
abbrev cX5_nameOf : ByteArray := prog_7_method_5_code
def yX5_nameOf : MethodName := ⟨RX5, "nameOf", "(I)Ljava/lang/String;"⟩
abbrev cX5_read : ByteArray := prog_7_method_6_code
def yX5_read : MethodName := ⟨RX5, "read", "()I"⟩
abbrev cX5_readClause : ByteArray := prog_7_method_7_code
def yX5_readClause : MethodName := ⟨RX5, "readClause", "()Z"⟩
abbrev cX5_readNumber : ByteArray := prog_7_method_8_code
def yX5_readNumber : MethodName := ⟨RX5, "readNumber", "()Z"⟩
abbrev cX5_skipBlanks : ByteArray := prog_7_method_9_code
def yX5_skipBlanks : MethodName := ⟨RX5, "skipBlanks", "()V"⟩
abbrev cX5_lettersHere : ByteArray := prog_7_method_10_code
def yX5_lettersHere : MethodName := ⟨RX5, "lettersHere", "()I"⟩
abbrev cX5_wordHere : ByteArray := prog_7_method_11_code
def yX5_wordHere : MethodName := ⟨RX5, "wordHere", "(I)I"⟩
abbrev cX5_isHere : ByteArray := prog_7_method_12_code
def yX5_isHere : MethodName := ⟨RX5, "isHere", "(Ljava/lang/String;I)Z"⟩
abbrev cX5_planNext : ByteArray := prog_7_method_13_code
def yX5_planNext : MethodName := ⟨RX5, "planNext", "(I)V"⟩
def RX6 : String := "BarSteps"
def TX6 : u_T := fun k => match k with
  | 0 => ("BarSteps", "bar", "LBarSteps$Bar;", true)
  | 1 => ("BarSteps", "thought", "LBarSteps$Bar;", true)
  | 2 => ("BarSteps", "kept", "LBarSteps$Bar;", true)
  | 3 => ("BarSteps", "rest", "LBarSteps$Steady;", true)
  | 4 => ("BarSteps", "sheets", "LBarSteps$Sheets;", true)
  | 5 => ("BarSteps", "tape", "LBarSteps$Tape;", true)
  | 6 => ("BarSteps", "filmed", "[I", true)
  | _ => ("BarSteps", "hasImage", "Z", false)
def tyX6 : Nat → FieldType := fun k => match k with
  | 0 => .object "BarSteps$Bar"
  | 1 => .object "BarSteps$Bar"
  | 2 => .object "BarSteps$Bar"
  | 3 => .object "BarSteps$Steady"
  | 4 => .object "BarSteps$Sheets"
  | 5 => .object "BarSteps$Tape"
  | 6 => .array .int
  | _ => .boolean
abbrev wsX60 : List Cond := u_ws RX6 TX6 8
theorem nmX6 : ∀ a, a < 8 → ∀ b, b < 8 → a ≠ b → (TX6 a).2.1 ≠ (TX6 b).2.1 := by decide +kernel
theorem tyX6_ok : ∀ k, k < 8 → parseFieldDescriptor (TX6 k).2.2.1 = some (tyX6 k) := by decide +kernel
abbrev cX6_init : ByteArray := prog_1_method_1_code
def yX6_init : MethodName := ⟨RX6, "<init>", "()V"⟩
abbrev cX6_cell : ByteArray := prog_1_method_2_code
def yX6_cell : MethodName := ⟨RX6, "cell", "(IIII)I"⟩
abbrev cX6_drop : ByteArray := prog_1_method_3_code
def yX6_drop : MethodName := ⟨RX6, "drop", "()I"⟩
abbrev cX6_set : ByteArray := prog_1_method_4_code
def yX6_set : MethodName := ⟨RX6, "set", "(III)I"⟩
abbrev cX6_heat : ByteArray := prog_1_method_5_code
def yX6_heat : MethodName := ⟨RX6, "heat", "(II)I"⟩
abbrev cX6_of : ByteArray := prog_1_method_6_code
def yX6_of : MethodName := ⟨RX6, "of", "(II)I"⟩
abbrev cX6_taken : ByteArray := prog_1_method_7_code
def yX6_taken : MethodName := ⟨RX6, "taken", "(II)I"⟩
abbrev cX6_kin : ByteArray := prog_1_method_8_code
def yX6_kin : MethodName := ⟨RX6, "kin", "(I)I"⟩
abbrev cX6_end : ByteArray := prog_1_method_9_code
def yX6_end : MethodName := ⟨RX6, "end", "(II)I"⟩
abbrev cX6_rule : ByteArray := prog_1_method_10_code
def yX6_rule : MethodName := ⟨RX6, "rule", "(II)I"⟩
abbrev cX6_t : ByteArray := prog_1_method_11_code
def yX6_t : MethodName := ⟨RX6, "t", "(II)J"⟩
abbrev cX6_line : ByteArray := prog_1_method_12_code
def yX6_line : MethodName := ⟨RX6, "line", "()J"⟩
abbrev cX6_joint : ByteArray := prog_1_method_13_code
def yX6_joint : MethodName := ⟨RX6, "joint", "(I)I"⟩
abbrev cX6_flow : ByteArray := prog_1_method_14_code
def yX6_flow : MethodName := ⟨RX6, "flow", "(II)J"⟩
abbrev cX6_stable : ByteArray := prog_1_method_15_code
def yX6_stable : MethodName := ⟨RX6, "stable", "(I)I"⟩
abbrev cX6_need : ByteArray := prog_1_method_16_code
def yX6_need : MethodName := ⟨RX6, "need", "()I"⟩
abbrev cX6_sum : ByteArray := prog_1_method_17_code
def yX6_sum : MethodName := ⟨RX6, "sum", "(I)J"⟩
abbrev cX6_most : ByteArray := prog_1_method_18_code
def yX6_most : MethodName := ⟨RX6, "most", "(I)I"⟩
abbrev cX6_step : ByteArray := prog_1_method_19_code
def yX6_step : MethodName := ⟨RX6, "step", "(I)I"⟩
abbrev cX6_then : ByteArray := prog_1_method_20_code
def yX6_then : MethodName := ⟨RX6, "then", "(III)J"⟩
abbrev cX6_spent : ByteArray := prog_1_method_21_code
def yX6_spent : MethodName := ⟨RX6, "spent", "(I)I"⟩
abbrev cX6_rises : ByteArray := prog_1_method_22_code
def yX6_rises : MethodName := ⟨RX6, "rises", "(I)I"⟩
abbrev cX6_calm : ByteArray := prog_1_method_23_code
def yX6_calm : MethodName := ⟨RX6, "calm", "(I)I"⟩
abbrev cX6_pulse : ByteArray := prog_1_method_24_code
def yX6_pulse : MethodName := ⟨RX6, "pulse", "(III)I"⟩
abbrev cX6_pulseOf : ByteArray := prog_1_method_25_code
def yX6_pulseOf : MethodName := ⟨RX6, "pulseOf", "(II)I"⟩
abbrev cX6_hush : ByteArray := prog_1_method_26_code
def yX6_hush : MethodName := ⟨RX6, "hush", "(I)I"⟩
abbrev cX6_steady : ByteArray := prog_1_method_27_code
def yX6_steady : MethodName := ⟨RX6, "steady", "(II)J"⟩
abbrev cX6_steadyFlow : ByteArray := prog_1_method_28_code
def yX6_steadyFlow : MethodName := ⟨RX6, "steadyFlow", "(II)J"⟩
abbrev cX6_hottest : ByteArray := prog_1_method_29_code
def yX6_hottest : MethodName := ⟨RX6, "hottest", "()I"⟩
abbrev cX6_lay : ByteArray := prog_1_method_30_code
def yX6_lay : MethodName := ⟨RX6, "lay", "()I"⟩
abbrev cX6_isSteady : ByteArray := prog_1_method_31_code
def yX6_isSteady : MethodName := ⟨RX6, "isSteady", "()I"⟩
abbrev cX6_buried : ByteArray := prog_1_method_32_code
def yX6_buried : MethodName := ⟨RX6, "buried", "(II)I"⟩
abbrev cX6_firstBuried : ByteArray := prog_1_method_33_code
def yX6_firstBuried : MethodName := ⟨RX6, "firstBuried", "(I)I"⟩
abbrev cX6_howManyBuried : ByteArray := prog_1_method_34_code
def yX6_howManyBuried : MethodName := ⟨RX6, "howManyBuried", "(I)I"⟩
abbrev cX6_mayBeBuried : ByteArray := prog_1_method_35_code
def yX6_mayBeBuried : MethodName := ⟨RX6, "mayBeBuried", "(III)Z"⟩
abbrev cX6_tells : ByteArray := prog_1_method_36_code
def yX6_tells : MethodName := ⟨RX6, "tells", "(III)I"⟩
abbrev cX6_firstOtherwise : ByteArray := prog_1_method_37_code
def yX6_firstOtherwise : MethodName := ⟨RX6, "firstOtherwise", "(III)I"⟩
abbrev cX6_film : ByteArray := prog_1_method_38_code
def yX6_film : MethodName := ⟨RX6, "film", "(III)I"⟩
abbrev cX6_drawn : ByteArray := prog_1_method_39_code
def yX6_drawn : MethodName := ⟨RX6, "drawn", "(II)J"⟩
abbrev cX6_feed : ByteArray := prog_1_method_40_code
def yX6_feed : MethodName := ⟨RX6, "feed", "(IIIIII)I"⟩
abbrev cX6_text : ByteArray := prog_1_method_41_code
def yX6_text : MethodName := ⟨RX6, "text", "()I"⟩
abbrev cX6_clausesDone : ByteArray := prog_1_method_42_code
def yX6_clausesDone : MethodName := ⟨RX6, "clausesDone", "()I"⟩
abbrev cX6_isClauseDone : ByteArray := prog_1_method_43_code
def yX6_isClauseDone : MethodName := ⟨RX6, "isClauseDone", "(I)Z"⟩
abbrev cX6_image : ByteArray := prog_1_method_44_code
def yX6_image : MethodName := ⟨RX6, "image", "()I"⟩
abbrev cX6_back : ByteArray := prog_1_method_45_code
def yX6_back : MethodName := ⟨RX6, "back", "()I"⟩
abbrev cX6_load : ByteArray := prog_1_method_46_code
def yX6_load : MethodName := ⟨RX6, "load", "(IIII)I"⟩
abbrev cX6_count : ByteArray := prog_1_method_47_code
def yX6_count : MethodName := ⟨RX6, "count", "(I)I"⟩
abbrev cX6_sheet : ByteArray := prog_1_method_48_code
def yX6_sheet : MethodName := ⟨RX6, "sheet", "(III)I"⟩
abbrev cX6_put : ByteArray := prog_1_method_49_code
def yX6_put : MethodName := ⟨RX6, "put", "(III)I"⟩
abbrev cX6_copy : ByteArray := prog_1_method_50_code
def yX6_copy : MethodName := ⟨RX6, "copy", "(IIIII)I"⟩
abbrev cX6_between : ByteArray := prog_1_method_51_code
def yX6_between : MethodName := ⟨RX6, "between", "(III)Z"⟩
abbrev cX6_isKind : ByteArray := prog_1_method_52_code
def yX6_isKind : MethodName := ⟨RX6, "isKind", "(I)Z"⟩
abbrev cX6_isK : ByteArray := prog_1_method_53_code
def yX6_isK : MethodName := ⟨RX6, "isK", "(I)Z"⟩
abbrev cX6_isC : ByteArray := prog_1_method_54_code
def yX6_isC : MethodName := ⟨RX6, "isC", "(I)Z"⟩
abbrev cX6_isSource : ByteArray := prog_1_method_55_code
def yX6_isSource : MethodName := ⟨RX6, "isSource", "(I)Z"⟩
abbrev cX6_isHeat : ByteArray := prog_1_method_56_code
def yX6_isHeat : MethodName := ⟨RX6, "isHeat", "(I)Z"⟩
abbrev cX6_isBit : ByteArray := prog_1_method_57_code
def yX6_isBit : MethodName := ⟨RX6, "isBit", "(I)Z"⟩
abbrev cX6_isByte : ByteArray := prog_1_method_58_code
def yX6_isByte : MethodName := ⟨RX6, "isByte", "(I)Z"⟩
abbrev cX6_isSheet : ByteArray := prog_1_method_59_code
def yX6_isSheet : MethodName := ⟨RX6, "isSheet", "(I)Z"⟩
abbrev cX6_quotient : ByteArray := prog_1_method_60_code
def yX6_quotient : MethodName := ⟨RX6, "quotient", "(JJ)J"⟩
abbrev cX6_remainder : ByteArray := prog_1_method_61_code
def yX6_remainder : MethodName := ⟨RX6, "remainder", "(JJ)J"⟩
abbrev cX6_wholePart : ByteArray := prog_1_method_62_code
def yX6_wholePart : MethodName := ⟨RX6, "wholePart", "(JJ)J"⟩
abbrev cX6_commonDivisor : ByteArray := prog_1_method_63_code
def yX6_commonDivisor : MethodName := ⟨RX6, "commonDivisor", "(JJ)J"⟩
abbrev cX6_partOf : ByteArray := prog_1_method_64_code
def yX6_partOf : MethodName := ⟨RX6, "partOf", "(JJI)J"⟩
abbrev cX6_firstGreatest : ByteArray := prog_1_method_65_code
def yX6_firstGreatest : MethodName := ⟨RX6, "firstGreatest", "([JI)I"⟩
abbrev cX6_total : ByteArray := prog_1_method_66_code
def yX6_total : MethodName := ⟨RX6, "total", "([II)I"⟩
abbrev cX6_stepsDone : ByteArray := prog_1_method_67_code
def yX6_stepsDone : MethodName := ⟨RX6, "stepsDone", "(LBarSteps$Bar;I)I"⟩
def RX7 : String := "BarStepsModel"
def TX7 : u_T := fun k => match k with
  | 0 => ("BarStepsModel", "many", "I", false)
  | 1 => ("BarStepsModel", "kinds", "[I", true)
  | 2 => ("BarStepsModel", "ks", "[I", true)
  | 3 => ("BarStepsModel", "cs", "[I", true)
  | 4 => ("BarStepsModel", "sources", "[I", true)
  | 5 => ("BarStepsModel", "tops", "[J", true)
  | 6 => ("BarStepsModel", "line", "J", false)
  | 7 => ("BarStepsModel", "ends", "[I", true)
  | 8 => ("BarStepsModel", "rules", "[I", true)
  | 9 => ("BarStepsModel", "waiting", "I", false)
  | 10 => ("BarStepsModel", "whose", "[I", true)
  | 11 => ("BarStepsModel", "dues", "[I", true)
  | 12 => ("BarStepsModel", "heats", "[I", true)
  | 13 => ("BarStepsModel", "mind", "[J", true)
  | 14 => ("BarStepsModel", "mindLine", "J", false)
  | 15 => ("BarStepsModel", "minded", "I", false)
  | 16 => ("BarStepsModel", "mindWhose", "[I", true)
  | 17 => ("BarStepsModel", "mindDues", "[I", true)
  | 18 => ("BarStepsModel", "mindHeats", "[I", true)
  | 19 => ("BarStepsModel", "next", "[J", true)
  | 20 => ("BarStepsModel", "large", "I", false)
  | 21 => ("BarStepsModel", "ahead", "[J", true)
  | 22 => ("BarStepsModel", "behind", "[J", true)
  | 23 => ("BarStepsModel", "steady", "[J", true)
  | 24 => ("BarStepsModel", "whole", "J", false)
  | 25 => ("BarStepsModel", "films", "[I", true)
  | 26 => ("BarStepsModel", "words", "[C", true)
  | 27 => ("BarStepsModel", "numbers", "[I", true)
  | 28 => ("BarStepsModel", "tape", "[I", true)
  | 29 => ("BarStepsModel", "taped", "I", false)
  | 30 => ("BarStepsModel", "size", "I", false)
  | 31 => ("BarStepsModel", "at", "I", false)
  | 32 => ("BarStepsModel", "from", "I", false)
  | 33 => ("BarStepsModel", "token", "I", false)
  | 34 => ("BarStepsModel", "value", "I", false)
  | 35 => ("BarStepsModel", "told", "[I", true)
  | 36 => ("BarStepsModel", "clauses", "I", false)
  | 37 => ("BarStepsModel", "isKept", "Z", false)
  | 38 => ("BarStepsModel", "keptMany", "I", false)
  | 39 => ("BarStepsModel", "keptKinds", "[I", true)
  | 40 => ("BarStepsModel", "keptKs", "[I", true)
  | 41 => ("BarStepsModel", "keptCs", "[I", true)
  | 42 => ("BarStepsModel", "keptSources", "[I", true)
  | 43 => ("BarStepsModel", "keptTops", "[J", true)
  | 44 => ("BarStepsModel", "keptLine", "J", false)
  | 45 => ("BarStepsModel", "keptEnds", "[I", true)
  | 46 => ("BarStepsModel", "keptRules", "[I", true)
  | 47 => ("BarStepsModel", "keptWaiting", "I", false)
  | 48 => ("BarStepsModel", "keptWhose", "[I", true)
  | 49 => ("BarStepsModel", "keptDues", "[I", true)
  | 50 => ("BarStepsModel", "keptHeats", "[I", true)
  | 51 => ("BarStepsModel", "sorts", "[I", true)
  | 52 => ("BarStepsModel", "sizes", "[I", true)
  | 53 => ("BarStepsModel", "items", "[I", true)
  | _ => ("BarStepsModel", "moved", "[I", true)
def tyX7 : Nat → FieldType := fun k => match k with
  | 0 => .int
  | 1 => .array .int
  | 2 => .array .int
  | 3 => .array .int
  | 4 => .array .int
  | 5 => .array .long
  | 6 => .long
  | 7 => .array .int
  | 8 => .array .int
  | 9 => .int
  | 10 => .array .int
  | 11 => .array .int
  | 12 => .array .int
  | 13 => .array .long
  | 14 => .long
  | 15 => .int
  | 16 => .array .int
  | 17 => .array .int
  | 18 => .array .int
  | 19 => .array .long
  | 20 => .int
  | 21 => .array .long
  | 22 => .array .long
  | 23 => .array .long
  | 24 => .long
  | 25 => .array .int
  | 26 => .array .char
  | 27 => .array .int
  | 28 => .array .int
  | 29 => .int
  | 30 => .int
  | 31 => .int
  | 32 => .int
  | 33 => .int
  | 34 => .int
  | 35 => .array .int
  | 36 => .int
  | 37 => .boolean
  | 38 => .int
  | 39 => .array .int
  | 40 => .array .int
  | 41 => .array .int
  | 42 => .array .int
  | 43 => .array .long
  | 44 => .long
  | 45 => .array .int
  | 46 => .array .int
  | 47 => .int
  | 48 => .array .int
  | 49 => .array .int
  | 50 => .array .int
  | 51 => .array .int
  | 52 => .array .int
  | 53 => .array .int
  | _ => .array .int
abbrev wsX70 : List Cond := u_ws RX7 TX7 55
theorem nmX7 : ∀ a, a < 55 → ∀ b, b < 55 → a ≠ b → (TX7 a).2.1 ≠ (TX7 b).2.1 := by decide +kernel
theorem tyX7_ok : ∀ k, k < 55 → parseFieldDescriptor (TX7 k).2.2.1 = some (tyX7 k) := by decide +kernel
abbrev cX7_init : ByteArray := prog_9_method_1_code
def yX7_init : MethodName := ⟨RX7, "<init>", "()V"⟩
abbrev cX7_isIn : ByteArray := prog_9_method_2_code
def yX7_isIn : MethodName := ⟨RX7, "isIn", "(JJJ)Z"⟩
abbrev cX7_isCell : ByteArray := prog_9_method_3_code
def yX7_isCell : MethodName := ⟨RX7, "isCell", "(I)Z"⟩
abbrev cX7_divisor : ByteArray := prog_9_method_4_code
def yX7_divisor : MethodName := ⟨RX7, "divisor", "(JJ)J"⟩
abbrev cX7_part : ByteArray := prog_9_method_5_code
def yX7_part : MethodName := ⟨RX7, "part", "(JJI)J"⟩
abbrev cX7_lesser : ByteArray := prog_9_method_6_code
def yX7_lesser : MethodName := ⟨RX7, "lesser", "(JJ)J"⟩
abbrev cX7_above : ByteArray := prog_9_method_7_code
def yX7_above : MethodName := ⟨RX7, "above", "(I)I"⟩
abbrev cX7_isUnder : ByteArray := prog_9_method_8_code
def yX7_isUnder : MethodName := ⟨RX7, "isUnder", "(II)Z"⟩
abbrev cX7_side : ByteArray := prog_9_method_9_code
def yX7_side : MethodName := ⟨RX7, "side", "(I)I"⟩
abbrev cX7_holds : ByteArray := prog_9_method_10_code
def yX7_holds : MethodName := ⟨RX7, "holds", "(I)I"⟩
abbrev cX7_fin : ByteArray := prog_9_method_11_code
def yX7_fin : MethodName := ⟨RX7, "fin", "(I)I"⟩
abbrev cX7_made : ByteArray := prog_9_method_12_code
def yX7_made : MethodName := ⟨RX7, "made", "(I)I"⟩
abbrev cX7_shorten : ByteArray := prog_9_method_13_code
def yX7_shorten : MethodName := ⟨RX7, "shorten", "()V"⟩
abbrev cX7_isMade : ByteArray := prog_9_method_14_code
def yX7_isMade : MethodName := ⟨RX7, "isMade", "(III)Z"⟩
abbrev cX7_cell : ByteArray := prog_9_method_15_code
def yX7_cell : MethodName := ⟨RX7, "cell", "(IIII)I"⟩
abbrev cX7_drop : ByteArray := prog_9_method_16_code
def yX7_drop : MethodName := ⟨RX7, "drop", "()I"⟩
abbrev cX7_set : ByteArray := prog_9_method_17_code
def yX7_set : MethodName := ⟨RX7, "set", "(III)I"⟩
abbrev cX7_heat : ByteArray := prog_9_method_18_code
def yX7_heat : MethodName := ⟨RX7, "heat", "(II)I"⟩
abbrev cX7_of : ByteArray := prog_9_method_19_code
def yX7_of : MethodName := ⟨RX7, "of", "(II)I"⟩
abbrev cX7_taken : ByteArray := prog_9_method_20_code
def yX7_taken : MethodName := ⟨RX7, "taken", "(II)I"⟩
abbrev cX7_kin : ByteArray := prog_9_method_21_code
def yX7_kin : MethodName := ⟨RX7, "kin", "(I)I"⟩
abbrev cX7_end : ByteArray := prog_9_method_22_code
def yX7_end : MethodName := ⟨RX7, "end", "(II)I"⟩
abbrev cX7_rule : ByteArray := prog_9_method_23_code
def yX7_rule : MethodName := ⟨RX7, "rule", "(II)I"⟩
abbrev cX7_isJoint : ByteArray := prog_9_method_24_code
def yX7_isJoint : MethodName := ⟨RX7, "isJoint", "(I)Z"⟩
abbrev cX7_leads : ByteArray := prog_9_method_25_code
def yX7_leads : MethodName := ⟨RX7, "leads", "(I)I"⟩
abbrev cX7_joint : ByteArray := prog_9_method_26_code
def yX7_joint : MethodName := ⟨RX7, "joint", "(I)I"⟩
abbrev cX7_think : ByteArray := prog_9_method_27_code
def yX7_think : MethodName := ⟨RX7, "think", "()V"⟩
abbrev cX7_keep : ByteArray := prog_9_method_28_code
def yX7_keep : MethodName := ⟨RX7, "keep", "()V"⟩
abbrev cX7_flows : ByteArray := prog_9_method_29_code
def yX7_flows : MethodName := ⟨RX7, "flows", "(I)J"⟩
abbrev cX7_change : ByteArray := prog_9_method_30_code
def yX7_change : MethodName := ⟨RX7, "change", "(I)J"⟩
abbrev cX7_reckons : ByteArray := prog_9_method_31_code
def yX7_reckons : MethodName := ⟨RX7, "reckons", "()J"⟩
abbrev cX7_goes : ByteArray := prog_9_method_32_code
def yX7_goes : MethodName := ⟨RX7, "goes", "()Z"⟩
abbrev cX7_goes_ : ByteArray := prog_9_method_33_code
def yX7_goes_ : MethodName := ⟨RX7, "goes", "(I)Z"⟩
abbrev cX7_greatest : ByteArray := prog_9_method_34_code
def yX7_greatest : MethodName := ⟨RX7, "greatest", "()J"⟩
abbrev cX7_least : ByteArray := prog_9_method_35_code
def yX7_least : MethodName := ⟨RX7, "least", "()J"⟩
abbrev cX7_isMore : ByteArray := prog_9_method_36_code
def yX7_isMore : MethodName := ⟨RX7, "isMore", "(JJJJ)Z"⟩
abbrev cX7_t : ByteArray := prog_9_method_37_code
def yX7_t : MethodName := ⟨RX7, "t", "(II)J"⟩
abbrev cX7_line : ByteArray := prog_9_method_38_code
def yX7_line : MethodName := ⟨RX7, "line", "()J"⟩
abbrev cX7_flow : ByteArray := prog_9_method_39_code
def yX7_flow : MethodName := ⟨RX7, "flow", "(II)J"⟩
abbrev cX7_together : ByteArray := prog_9_method_40_code
def yX7_together : MethodName := ⟨RX7, "together", "(I)I"⟩
abbrev cX7_stable : ByteArray := prog_9_method_41_code
def yX7_stable : MethodName := ⟨RX7, "stable", "(I)I"⟩
abbrev cX7_need : ByteArray := prog_9_method_42_code
def yX7_need : MethodName := ⟨RX7, "need", "()I"⟩
abbrev cX7_sum : ByteArray := prog_9_method_43_code
def yX7_sum : MethodName := ⟨RX7, "sum", "(I)J"⟩
abbrev cX7_most : ByteArray := prog_9_method_44_code
def yX7_most : MethodName := ⟨RX7, "most", "(I)I"⟩
abbrev cX7_step : ByteArray := prog_9_method_45_code
def yX7_step : MethodName := ⟨RX7, "step", "(I)I"⟩
abbrev cX7_then : ByteArray := prog_9_method_46_code
def yX7_then : MethodName := ⟨RX7, "then", "(III)J"⟩
abbrev cX7_spent : ByteArray := prog_9_method_47_code
def yX7_spent : MethodName := ⟨RX7, "spent", "(I)I"⟩
abbrev cX7_rises : ByteArray := prog_9_method_48_code
def yX7_rises : MethodName := ⟨RX7, "rises", "(I)I"⟩
abbrev cX7_calm : ByteArray := prog_9_method_49_code
def yX7_calm : MethodName := ⟨RX7, "calm", "(I)I"⟩
abbrev cX7_pulse : ByteArray := prog_9_method_50_code
def yX7_pulse : MethodName := ⟨RX7, "pulse", "(III)I"⟩
abbrev cX7_pulseOf : ByteArray := prog_9_method_51_code
def yX7_pulseOf : MethodName := ⟨RX7, "pulseOf", "(II)I"⟩
abbrev cX7_hushed : ByteArray := prog_9_method_52_code
def yX7_hushed : MethodName := ⟨RX7, "hushed", "(I)I"⟩
abbrev cX7_hush : ByteArray := prog_9_method_53_code
def yX7_hush : MethodName := ⟨RX7, "hush", "(I)I"⟩
abbrev cX7_brings : ByteArray := prog_9_method_54_code
def yX7_brings : MethodName := ⟨RX7, "brings", "(III)J"⟩
abbrev cX7_steadies : ByteArray := prog_9_method_55_code
def yX7_steadies : MethodName := ⟨RX7, "steadies", "(II)Z"⟩
abbrev cX7_steady : ByteArray := prog_9_method_56_code
def yX7_steady : MethodName := ⟨RX7, "steady", "(II)J"⟩
abbrev cX7_steadyFlow : ByteArray := prog_9_method_57_code
def yX7_steadyFlow : MethodName := ⟨RX7, "steadyFlow", "(II)J"⟩
abbrev cX7_hottest : ByteArray := prog_9_method_58_code
def yX7_hottest : MethodName := ⟨RX7, "hottest", "()I"⟩
abbrev cX7_lay : ByteArray := prog_9_method_59_code
def yX7_lay : MethodName := ⟨RX7, "lay", "()I"⟩
abbrev cX7_isSteady : ByteArray := prog_9_method_60_code
def yX7_isSteady : MethodName := ⟨RX7, "isSteady", "()I"⟩
abbrev cX7_isSo : ByteArray := prog_9_method_61_code
def yX7_isSo : MethodName := ⟨RX7, "isSo", "(I)Z"⟩
abbrev cX7_buried : ByteArray := prog_9_method_62_code
def yX7_buried : MethodName := ⟨RX7, "buried", "(II)I"⟩
abbrev cX7_otherwise : ByteArray := prog_9_method_63_code
def yX7_otherwise : MethodName := ⟨RX7, "otherwise", "(II)I"⟩
abbrev cX7_tells : ByteArray := prog_9_method_64_code
def yX7_tells : MethodName := ⟨RX7, "tells", "(III)I"⟩
abbrev cX7_film : ByteArray := prog_9_method_65_code
def yX7_film : MethodName := ⟨RX7, "film", "(III)I"⟩
abbrev cX7_drawn : ByteArray := prog_9_method_66_code
def yX7_drawn : MethodName := ⟨RX7, "drawn", "(II)J"⟩
abbrev cX7_feed : ByteArray := prog_9_method_67_code
def yX7_feed : MethodName := ⟨RX7, "feed", "(IIIIII)I"⟩
abbrev cX7_isDigit : ByteArray := prog_9_method_68_code
def yX7_isDigit : MethodName := ⟨RX7, "isDigit", "(I)Z"⟩
abbrev cX7_isLetter : ByteArray := prog_9_method_69_code
def yX7_isLetter : MethodName := ⟨RX7, "isLetter", "(I)Z"⟩
abbrev cX7_readsWord : ByteArray := prog_9_method_70_code
def yX7_readsWord : MethodName := ⟨RX7, "readsWord", "()V"⟩
abbrev cX7_readsNumber : ByteArray := prog_9_method_71_code
def yX7_readsNumber : MethodName := ⟨RX7, "readsNumber", "()V"⟩
abbrev cX7_reads : ByteArray := prog_9_method_72_code
def yX7_reads : MethodName := ⟨RX7, "reads", "()V"⟩
abbrev cX7_isClause : ByteArray := prog_9_method_73_code
def yX7_isClause : MethodName := ⟨RX7, "isClause", "(Z)Z"⟩
abbrev cX7_isDone : ByteArray := prog_9_method_74_code
def yX7_isDone : MethodName := ⟨RX7, "isDone", "(I)Z"⟩
abbrev cX7_isText : ByteArray := prog_9_method_75_code
def yX7_isText : MethodName := ⟨RX7, "isText", "(Z)Z"⟩
abbrev cX7_text : ByteArray := prog_9_method_76_code
def yX7_text : MethodName := ⟨RX7, "text", "()I"⟩
abbrev cX7_image : ByteArray := prog_9_method_77_code
def yX7_image : MethodName := ⟨RX7, "image", "()I"⟩
abbrev cX7_back : ByteArray := prog_9_method_78_code
def yX7_back : MethodName := ⟨RX7, "back", "()I"⟩
abbrev cX7_isSheet : ByteArray := prog_9_method_79_code
def yX7_isSheet : MethodName := ⟨RX7, "isSheet", "(I)Z"⟩
abbrev cX7_load : ByteArray := prog_9_method_80_code
def yX7_load : MethodName := ⟨RX7, "load", "(IIII)I"⟩
abbrev cX7_count : ByteArray := prog_9_method_81_code
def yX7_count : MethodName := ⟨RX7, "count", "(I)I"⟩
abbrev cX7_sheet : ByteArray := prog_9_method_82_code
def yX7_sheet : MethodName := ⟨RX7, "sheet", "(III)I"⟩
abbrev cX7_put : ByteArray := prog_9_method_83_code
def yX7_put : MethodName := ⟨RX7, "put", "(III)I"⟩
abbrev cX7_copy : ByteArray := prog_9_method_84_code
def yX7_copy : MethodName := ⟨RX7, "copy", "(IIIII)I"⟩
def RJ9 : String := "java/lang/Math"
def TJ9 : u_T := fun k => match k with
  | _ => ("", "", "", false)
def tyJ9 : Nat → FieldType := fun k => match k with
  | _ => .int
abbrev wsJ90 : List Cond := u_ws RJ9 TJ9 0
theorem nmJ9 : ∀ a, a < 0 → ∀ b, b < 0 → a ≠ b → (TJ9 a).2.1 ≠ (TJ9 b).2.1 := by decide +kernel
theorem tyJ9_ok : ∀ k, k < 0 → parseFieldDescriptor (TJ9 k).2.2.1 = some (tyJ9 k) := by decide +kernel
abbrev cJ9_floorDiv_f86c9 : ByteArray := prog_10_method_49_code
def yJ9_floorDiv_f86c9 : MethodName := ⟨RJ9, "floorDiv", "(JJ)J"⟩
abbrev cJ9_abs_067f4 : ByteArray := prog_10_method_61_code
def yJ9_abs_067f4 : MethodName := ⟨RJ9, "abs", "(J)J"⟩
abbrev cJ9_max_7cf53 : ByteArray := prog_10_method_65_code
def yJ9_max_7cf53 : MethodName := ⟨RJ9, "max", "(II)I"⟩
abbrev cJ9_max_f86c9 : ByteArray := prog_10_method_66_code
def yJ9_max_f86c9 : MethodName := ⟨RJ9, "max", "(JJ)J"⟩
abbrev cJ9_min_7cf53 : ByteArray := prog_10_method_69_code
def yJ9_min_7cf53 : MethodName := ⟨RJ9, "min", "(II)I"⟩
abbrev cJ9_min_f86c9 : ByteArray := prog_10_method_70_code
def yJ9_min_f86c9 : MethodName := ⟨RJ9, "min", "(JJ)J"⟩
def RJ0 : String := "java/lang/String"
def TJ0 : u_T := fun k => match k with
  | _ => ("", "", "", false)
def tyJ0 : Nat → FieldType := fun k => match k with
  | _ => .int
abbrev wsJ00 : List Cond := u_ws RJ0 TJ0 0
theorem nmJ0 : ∀ a, a < 0 → ∀ b, b < 0 → a ≠ b → (TJ0 a).2.1 ≠ (TJ0 b).2.1 := by decide +kernel
theorem tyJ0_ok : ∀ k, k < 0 → parseFieldDescriptor (TJ0 k).2.2.1 = some (tyJ0 k) := by decide +kernel
abbrev cJ0_length_8abf5 : ByteArray := prog_11_method_54_code
def yJ0_length_8abf5 : MethodName := ⟨RJ0, "length", "()I"⟩
abbrev cJ0_charAt_5068e : ByteArray := prog_11_method_56_code
def yJ0_charAt_5068e : MethodName := ⟨RJ0, "charAt", "(I)C"⟩
abbrev cJ0_coder_7d493 : ByteArray := prog_11_method_152_code
def yJ0_coder_7d493 : MethodName := ⟨RJ0, "coder", "()B"⟩
abbrev cJ0_isLatin1_aae02 : ByteArray := prog_11_method_154_code
def yJ0_isLatin1_aae02 : MethodName := ⟨RJ0, "isLatin1", "()Z"⟩
abbrev cJ0_checkIndex_df160 : ByteArray := prog_11_method_155_code
def yJ0_checkIndex_df160 : MethodName := ⟨RJ0, "checkIndex", "(II)V"⟩
def RJ1 : String := "java/lang/StringLatin1"
def TJ1 : u_T := fun k => match k with
  | _ => ("", "", "", false)
def tyJ1 : Nat → FieldType := fun k => match k with
  | _ => .int
abbrev wsJ10 : List Cond := u_ws RJ1 TJ1 0
theorem nmJ1 : ∀ a, a < 0 → ∀ b, b < 0 → a ≠ b → (TJ1 a).2.1 ≠ (TJ1 b).2.1 := by decide +kernel
theorem tyJ1_ok : ∀ k, k < 0 → parseFieldDescriptor (TJ1 k).2.2.1 = some (tyJ1 k) := by decide +kernel
abbrev cJ1_charAt_3b067 : ByteArray := prog_12_method_2_code
def yJ1_charAt_3b067 : MethodName := ⟨RJ1, "charAt", "([BI)C"⟩
def RJ2 : String := "java/lang/StringUTF16"
def TJ2 : u_T := fun k => match k with
  | _ => ("", "", "", false)
def tyJ2 : Nat → FieldType := fun k => match k with
  | _ => .int
abbrev wsJ20 : List Cond := u_ws RJ2 TJ2 0
theorem nmJ2 : ∀ a, a < 0 → ∀ b, b < 0 → a ≠ b → (TJ2 a).2.1 ≠ (TJ2 b).2.1 := by decide +kernel
theorem tyJ2_ok : ∀ k, k < 0 → parseFieldDescriptor (TJ2 k).2.2.1 = some (tyJ2 k) := by decide +kernel
abbrev cJ2_getChar_3b067 : ByteArray := prog_13_method_5_code
def yJ2_getChar_3b067 : MethodName := ⟨RJ2, "getChar", "([BI)C"⟩
abbrev cJ2_length_9d52b : ByteArray := prog_13_method_6_code
def yJ2_length_9d52b : MethodName := ⟨RJ2, "length", "([B)I"⟩
abbrev cJ2_charAt_3b067 : ByteArray := prog_13_method_83_code
def yJ2_charAt_3b067 : MethodName := ⟨RJ2, "charAt", "([BI)C"⟩
abbrev cJ2_checkIndex_2214a : ByteArray := prog_13_method_91_code
def yJ2_checkIndex_2214a : MethodName := ⟨RJ2, "checkIndex", "(I[B)V"⟩
def RJ10 : String := "java/lang/System"
def TJ10 : u_T := fun k => match k with
  | _ => ("", "", "", false)
def tyJ10 : Nat → FieldType := fun k => match k with
  | _ => .int
abbrev wsJ100 : List Cond := u_ws RJ10 TJ10 0
theorem nmJ10 : ∀ a, a < 0 → ∀ b, b < 0 → a ≠ b → (TJ10 a).2.1 ≠ (TJ10 b).2.1 := by decide +kernel
theorem tyJ10_ok : ∀ k, k < 0 → parseFieldDescriptor (TJ10 k).2.2.1 = some (tyJ10 k) := by decide +kernel
def RJ3 : String := "jdk/internal/util/Preconditions"
def TJ3 : u_T := fun k => match k with
  | _ => ("", "", "", false)
def tyJ3 : Nat → FieldType := fun k => match k with
  | _ => .int
abbrev wsJ30 : List Cond := u_ws RJ3 TJ3 0
theorem nmJ3 : ∀ a, a < 0 → ∀ b, b < 0 → a ≠ b → (TJ3 a).2.1 ≠ (TJ3 b).2.1 := by decide +kernel
theorem tyJ3_ok : ∀ k, k < 0 → parseFieldDescriptor (TJ3 k).2.2.1 = some (tyJ3 k) := by decide +kernel
abbrev cJ3_checkIndex_8e157 : ByteArray := prog_15_method_11_code
def yJ3_checkIndex_8e157 : MethodName := ⟨RJ3, "checkIndex", "(IILjava/util/function/BiFunction;)I"⟩
def RL : String := "BarStepsLaw"
abbrev cL_law : ByteArray := code
def yL_law : MethodName := ⟨RL, "law", "([I)Z"⟩
abbrev vwCl : List vw_C := [(RX0, TX0, 15), (RX2, TX2, 4), (RX3, TX3, 3), (RX4, TX4, 6), (RX5, TX5, 5), (RX6, TX6, 8), (RX7, TX7, 55)]
