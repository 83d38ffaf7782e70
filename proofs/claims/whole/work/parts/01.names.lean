-- ===== PART A: goes FIRST, ahead of the names: the tables' words, and 'selects' of the private methods out of them =====
/-- a private method of a class that the tables say can be made, by its rows of tables_1 -/
def lw_okq (q : MethodName × Nat) : Prop := (q.1.cls ≠ "java/lang/invoke/MethodHandle" ∧ q.1.cls ≠ "java/lang/invoke/VarHandle") ∧ Cond.instantiable q.1.cls q.2 ∈ tables_1 ∧ Cond.privateMethod q.1 ∈ tables_1 ∧ Cond.instanceMethod q.1 ∈ tables_1
theorem lw_p0 : lw_okq (⟨"StepSums$Reader", "nextToken", "()V"⟩, 10) := ⟨⟨by decide +kernel, by decide +kernel⟩, List.mem_of_getElem? (i := 40) (by decide +kernel), List.mem_of_getElem? (i := 393) (by decide +kernel), List.mem_of_getElem? (i := 394) (by decide +kernel)⟩
theorem lw_p1 : lw_okq (⟨"StepSums$Reader", "takeLetters", "()V"⟩, 10) := ⟨⟨by decide +kernel, by decide +kernel⟩, List.mem_of_getElem? (i := 40) (by decide +kernel), List.mem_of_getElem? (i := 408) (by decide +kernel), List.mem_of_getElem? (i := 409) (by decide +kernel)⟩
theorem lw_p2 : lw_okq (⟨"StepSums$Reader", "takeDigits", "()V"⟩, 10) := ⟨⟨by decide +kernel, by decide +kernel⟩, List.mem_of_getElem? (i := 40) (by decide +kernel), List.mem_of_getElem? (i := 420) (by decide +kernel), List.mem_of_getElem? (i := 421) (by decide +kernel)⟩
theorem lw_p3 : lw_okq (⟨"StepSums$Reader", "parseLines", "()I"⟩, 10) := ⟨⟨by decide +kernel, by decide +kernel⟩, List.mem_of_getElem? (i := 40) (by decide +kernel), List.mem_of_getElem? (i := 424) (by decide +kernel), List.mem_of_getElem? (i := 425) (by decide +kernel)⟩
theorem lw_p4 : lw_okq (⟨"StepSums$Reader", "parseLine", "(LStepSums$Line;)I"⟩, 10) := ⟨⟨by decide +kernel, by decide +kernel⟩, List.mem_of_getElem? (i := 40) (by decide +kernel), List.mem_of_getElem? (i := 428) (by decide +kernel), List.mem_of_getElem? (i := 429) (by decide +kernel)⟩
theorem lw_p5 : lw_okq (⟨"StepSums$Maker", "makeOne", "([LStepSums$Line;ILStepSums$Hall;)I"⟩, 2) := ⟨⟨by decide +kernel, by decide +kernel⟩, List.mem_of_getElem? (i := 122) (by decide +kernel), List.mem_of_getElem? (i := 458) (by decide +kernel), List.mem_of_getElem? (i := 459) (by decide +kernel)⟩
theorem lw_p6 : lw_okq (⟨"StepSums$Maker", "faultAt", "(II)I"⟩, 2) := ⟨⟨by decide +kernel, by decide +kernel⟩, List.mem_of_getElem? (i := 122) (by decide +kernel), List.mem_of_getElem? (i := 465) (by decide +kernel), List.mem_of_getElem? (i := 466) (by decide +kernel)⟩
theorem lw_p7 : lw_okq (⟨"StepSums$StepSet", "isStiff", "(I)Z"⟩, 6) := ⟨⟨by decide +kernel, by decide +kernel⟩, List.mem_of_getElem? (i := 162) (by decide +kernel), List.mem_of_getElem? (i := 480) (by decide +kernel), List.mem_of_getElem? (i := 481) (by decide +kernel)⟩
theorem lw_p8 : lw_okq (⟨"StepSums$Maker", "build", "(LStepSums$Line;LStepSums$StepSet;LStepSums$StepSet;LStepSums$StepSet;)Z"⟩, 2) := ⟨⟨by decide +kernel, by decide +kernel⟩, List.mem_of_getElem? (i := 122) (by decide +kernel), List.mem_of_getElem? (i := 492) (by decide +kernel), List.mem_of_getElem? (i := 493) (by decide +kernel)⟩
theorem lw_p9 : lw_okq (⟨"StepSums$StepSet", "settle", "()Z"⟩, 6) := ⟨⟨by decide +kernel, by decide +kernel⟩, List.mem_of_getElem? (i := 162) (by decide +kernel), List.mem_of_getElem? (i := 500) (by decide +kernel), List.mem_of_getElem? (i := 501) (by decide +kernel)⟩
theorem lw_p10 : lw_okq (⟨"StepSums$StepSet", "findGenerators", "()Z"⟩, 6) := ⟨⟨by decide +kernel, by decide +kernel⟩, List.mem_of_getElem? (i := 162) (by decide +kernel), List.mem_of_getElem? (i := 504) (by decide +kernel), List.mem_of_getElem? (i := 505) (by decide +kernel)⟩
theorem lw_p11 : lw_okq (⟨"StepSums$Maker", "gatherSteps", "(LStepSums$StepSet;LStepSums$StepSet;)I"⟩, 2) := ⟨⟨by decide +kernel, by decide +kernel⟩, List.mem_of_getElem? (i := 122) (by decide +kernel), List.mem_of_getElem? (i := 511) (by decide +kernel), List.mem_of_getElem? (i := 512) (by decide +kernel)⟩
theorem lw_p12 : lw_okq (⟨"StepSums", "takeOverSpare", "()V"⟩, 13) := ⟨⟨by decide +kernel, by decide +kernel⟩, List.mem_of_getElem? (i := 18) (by decide +kernel), List.mem_of_getElem? (i := 547) (by decide +kernel), List.mem_of_getElem? (i := 548) (by decide +kernel)⟩
theorem lw_p13 : lw_okq (⟨"StepSums", "doByHand", "(LStepSums$StepSet;II)Z"⟩, 13) := ⟨⟨by decide +kernel, by decide +kernel⟩, List.mem_of_getElem? (i := 18) (by decide +kernel), List.mem_of_getElem? (i := 565) (by decide +kernel), List.mem_of_getElem? (i := 566) (by decide +kernel)⟩
theorem lw_p14 : lw_okq (⟨"StepSums$Deeds", "last", "()I"⟩, 4) := ⟨⟨by decide +kernel, by decide +kernel⟩, List.mem_of_getElem? (i := 135) (by decide +kernel), List.mem_of_getElem? (i := 592) (by decide +kernel), List.mem_of_getElem? (i := 593) (by decide +kernel)⟩
theorem lw_p15 : lw_okq (⟨"StepSums$Knots", "learn", "(LStepSums$StepSet;)V"⟩, 5) := ⟨⟨by decide +kernel, by decide +kernel⟩, List.mem_of_getElem? (i := 252) (by decide +kernel), List.mem_of_getElem? (i := 667) (by decide +kernel), List.mem_of_getElem? (i := 668) (by decide +kernel)⟩
def lw_privs_1 : List (MethodName × Nat) := [(⟨"StepSums$Reader", "nextToken", "()V"⟩, 10), (⟨"StepSums$Reader", "takeLetters", "()V"⟩, 10), (⟨"StepSums$Reader", "takeDigits", "()V"⟩, 10), (⟨"StepSums$Reader", "parseLines", "()I"⟩, 10), (⟨"StepSums$Reader", "parseLine", "(LStepSums$Line;)I"⟩, 10), (⟨"StepSums$Maker", "makeOne", "([LStepSums$Line;ILStepSums$Hall;)I"⟩, 2), (⟨"StepSums$Maker", "faultAt", "(II)I"⟩, 2), (⟨"StepSums$StepSet", "isStiff", "(I)Z"⟩, 6), (⟨"StepSums$Maker", "build", "(LStepSums$Line;LStepSums$StepSet;LStepSums$StepSet;LStepSums$StepSet;)Z"⟩, 2), (⟨"StepSums$StepSet", "settle", "()Z"⟩, 6), (⟨"StepSums$StepSet", "findGenerators", "()Z"⟩, 6), (⟨"StepSums$Maker", "gatherSteps", "(LStepSums$StepSet;LStepSums$StepSet;)I"⟩, 2), (⟨"StepSums", "takeOverSpare", "()V"⟩, 13), (⟨"StepSums", "doByHand", "(LStepSums$StepSet;II)Z"⟩, 13), (⟨"StepSums$Deeds", "last", "()I"⟩, 4), (⟨"StepSums$Knots", "learn", "(LStepSums$StepSet;)V"⟩, 5)]
theorem lw_r1 : ∀ q ∈ lw_privs_1, lw_okq q := List.forall_mem_cons.mpr ⟨lw_p0, List.forall_mem_cons.mpr ⟨lw_p1, List.forall_mem_cons.mpr ⟨lw_p2, List.forall_mem_cons.mpr ⟨lw_p3, List.forall_mem_cons.mpr ⟨lw_p4, List.forall_mem_cons.mpr ⟨lw_p5, List.forall_mem_cons.mpr ⟨lw_p6, List.forall_mem_cons.mpr ⟨lw_p7, List.forall_mem_cons.mpr ⟨lw_p8, List.forall_mem_cons.mpr ⟨lw_p9, List.forall_mem_cons.mpr ⟨lw_p10, List.forall_mem_cons.mpr ⟨lw_p11, List.forall_mem_cons.mpr ⟨lw_p12, List.forall_mem_cons.mpr ⟨lw_p13, List.forall_mem_cons.mpr ⟨lw_p14, List.forall_mem_cons.mpr ⟨lw_p15, fun _ h => absurd h List.not_mem_nil⟩⟩⟩⟩⟩⟩⟩⟩⟩⟩⟩⟩⟩⟩⟩⟩
theorem lw_p16 : lw_okq (⟨"StepSums$Knots", "isKnown", "(LStepSums$StepSet;)Z"⟩, 5) := ⟨⟨by decide +kernel, by decide +kernel⟩, List.mem_of_getElem? (i := 252) (by decide +kernel), List.mem_of_getElem? (i := 671) (by decide +kernel), List.mem_of_getElem? (i := 672) (by decide +kernel)⟩
theorem lw_p17 : lw_okq (⟨"StepSums$Walks", "goAlong", "(LStepSums$StepSet;II)V"⟩, 9) := ⟨⟨by decide +kernel, by decide +kernel⟩, List.mem_of_getElem? (i := 216) (by decide +kernel), List.mem_of_getElem? (i := 722) (by decide +kernel), List.mem_of_getElem? (i := 723) (by decide +kernel)⟩
theorem lw_p18 : lw_okq (⟨"StepSums$Walks", "startReach", "()V"⟩, 9) := ⟨⟨by decide +kernel, by decide +kernel⟩, List.mem_of_getElem? (i := 216) (by decide +kernel), List.mem_of_getElem? (i := 737) (by decide +kernel), List.mem_of_getElem? (i := 738) (by decide +kernel)⟩
theorem lw_p19 : lw_okq (⟨"StepSums$Walks", "reachOneMore", "(LStepSums$StepSet;I)V"⟩, 9) := ⟨⟨by decide +kernel, by decide +kernel⟩, List.mem_of_getElem? (i := 216) (by decide +kernel), List.mem_of_getElem? (i := 745) (by decide +kernel), List.mem_of_getElem? (i := 746) (by decide +kernel)⟩
theorem lw_p20 : lw_okq (⟨"StepSums$Walks", "nearest", "(LStepSums$StepSet;II)I"⟩, 9) := ⟨⟨by decide +kernel, by decide +kernel⟩, List.mem_of_getElem? (i := 216) (by decide +kernel), List.mem_of_getElem? (i := 773) (by decide +kernel), List.mem_of_getElem? (i := 774) (by decide +kernel)⟩
theorem lw_p21 : lw_okq (⟨"StepSums$Walks", "grabAll", "(LStepSums$StepSet;I)V"⟩, 9) := ⟨⟨by decide +kernel, by decide +kernel⟩, List.mem_of_getElem? (i := 216) (by decide +kernel), List.mem_of_getElem? (i := 789) (by decide +kernel), List.mem_of_getElem? (i := 790) (by decide +kernel)⟩
theorem lw_p22 : lw_okq (⟨"StepSums$Walks", "fewestFor", "(LStepSums$StepSet;I)I"⟩, 9) := ⟨⟨by decide +kernel, by decide +kernel⟩, List.mem_of_getElem? (i := 216) (by decide +kernel), List.mem_of_getElem? (i := 804) (by decide +kernel), List.mem_of_getElem? (i := 805) (by decide +kernel)⟩
theorem lw_p23 : lw_okq (⟨"StepSums$StepSet", "childrenWithout", "(I)I"⟩, 6) := ⟨⟨by decide +kernel, by decide +kernel⟩, List.mem_of_getElem? (i := 162) (by decide +kernel), List.mem_of_getElem? (i := 829) (by decide +kernel), List.mem_of_getElem? (i := 830) (by decide +kernel)⟩
theorem lw_p24 : lw_okq (⟨"StepSums$StepSet", "isMadeWithout", "(II)Z"⟩, 6) := ⟨⟨by decide +kernel, by decide +kernel⟩, List.mem_of_getElem? (i := 162) (by decide +kernel), List.mem_of_getElem? (i := 834) (by decide +kernel), List.mem_of_getElem? (i := 835) (by decide +kernel)⟩
theorem lw_p25 : lw_okq (⟨"StepSums$Small", "learn", "(I)V"⟩, 3) := ⟨⟨by decide +kernel, by decide +kernel⟩, List.mem_of_getElem? (i := 274) (by decide +kernel), List.mem_of_getElem? (i := 853) (by decide +kernel), List.mem_of_getElem? (i := 854) (by decide +kernel)⟩
theorem lw_p26 : lw_okq (⟨"StepSums$Small", "note", "(I)V"⟩, 3) := ⟨⟨by decide +kernel, by decide +kernel⟩, List.mem_of_getElem? (i := 274) (by decide +kernel), List.mem_of_getElem? (i := 860) (by decide +kernel), List.mem_of_getElem? (i := 861) (by decide +kernel)⟩
theorem lw_p27 : lw_okq (⟨"StepSums$Cover", "open", "(LStepSums$StepSet;)I"⟩, 8) := ⟨⟨by decide +kernel, by decide +kernel⟩, List.mem_of_getElem? (i := 290) (by decide +kernel), List.mem_of_getElem? (i := 896) (by decide +kernel), List.mem_of_getElem? (i := 897) (by decide +kernel)⟩
theorem lw_p28 : lw_okq (⟨"StepSums$Cover", "spread", "(I)I"⟩, 8) := ⟨⟨by decide +kernel, by decide +kernel⟩, List.mem_of_getElem? (i := 290) (by decide +kernel), List.mem_of_getElem? (i := 903) (by decide +kernel), List.mem_of_getElem? (i := 904) (by decide +kernel)⟩
theorem lw_p29 : lw_okq (⟨"StepSums$Cover", "isLoneNumber", "(I)Z"⟩, 8) := ⟨⟨by decide +kernel, by decide +kernel⟩, List.mem_of_getElem? (i := 290) (by decide +kernel), List.mem_of_getElem? (i := 918) (by decide +kernel), List.mem_of_getElem? (i := 919) (by decide +kernel)⟩
theorem lw_p30 : lw_okq (⟨"StepSums$Cover", "play", "(I)V"⟩, 8) := ⟨⟨by decide +kernel, by decide +kernel⟩, List.mem_of_getElem? (i := 290) (by decide +kernel), List.mem_of_getElem? (i := 945) (by decide +kernel), List.mem_of_getElem? (i := 946) (by decide +kernel)⟩
theorem lw_p31 : lw_okq (⟨"StepSums$Cover", "isWinning", "(II)Z"⟩, 8) := ⟨⟨by decide +kernel, by decide +kernel⟩, List.mem_of_getElem? (i := 290) (by decide +kernel), List.mem_of_getElem? (i := 949) (by decide +kernel), List.mem_of_getElem? (i := 950) (by decide +kernel)⟩
def lw_privs_2 : List (MethodName × Nat) := [(⟨"StepSums$Knots", "isKnown", "(LStepSums$StepSet;)Z"⟩, 5), (⟨"StepSums$Walks", "goAlong", "(LStepSums$StepSet;II)V"⟩, 9), (⟨"StepSums$Walks", "startReach", "()V"⟩, 9), (⟨"StepSums$Walks", "reachOneMore", "(LStepSums$StepSet;I)V"⟩, 9), (⟨"StepSums$Walks", "nearest", "(LStepSums$StepSet;II)I"⟩, 9), (⟨"StepSums$Walks", "grabAll", "(LStepSums$StepSet;I)V"⟩, 9), (⟨"StepSums$Walks", "fewestFor", "(LStepSums$StepSet;I)I"⟩, 9), (⟨"StepSums$StepSet", "childrenWithout", "(I)I"⟩, 6), (⟨"StepSums$StepSet", "isMadeWithout", "(II)Z"⟩, 6), (⟨"StepSums$Small", "learn", "(I)V"⟩, 3), (⟨"StepSums$Small", "note", "(I)V"⟩, 3), (⟨"StepSums$Cover", "open", "(LStepSums$StepSet;)I"⟩, 8), (⟨"StepSums$Cover", "spread", "(I)I"⟩, 8), (⟨"StepSums$Cover", "isLoneNumber", "(I)Z"⟩, 8), (⟨"StepSums$Cover", "play", "(I)V"⟩, 8), (⟨"StepSums$Cover", "isWinning", "(II)Z"⟩, 8)]
theorem lw_r2 : ∀ q ∈ lw_privs_2, lw_okq q := List.forall_mem_cons.mpr ⟨lw_p16, List.forall_mem_cons.mpr ⟨lw_p17, List.forall_mem_cons.mpr ⟨lw_p18, List.forall_mem_cons.mpr ⟨lw_p19, List.forall_mem_cons.mpr ⟨lw_p20, List.forall_mem_cons.mpr ⟨lw_p21, List.forall_mem_cons.mpr ⟨lw_p22, List.forall_mem_cons.mpr ⟨lw_p23, List.forall_mem_cons.mpr ⟨lw_p24, List.forall_mem_cons.mpr ⟨lw_p25, List.forall_mem_cons.mpr ⟨lw_p26, List.forall_mem_cons.mpr ⟨lw_p27, List.forall_mem_cons.mpr ⟨lw_p28, List.forall_mem_cons.mpr ⟨lw_p29, List.forall_mem_cons.mpr ⟨lw_p30, List.forall_mem_cons.mpr ⟨lw_p31, fun _ h => absurd h List.not_mem_nil⟩⟩⟩⟩⟩⟩⟩⟩⟩⟩⟩⟩⟩⟩⟩⟩
theorem lw_p32 : lw_okq (⟨"StepSums$Cover", "numberOf", "(I)I"⟩, 8) := ⟨⟨by decide +kernel, by decide +kernel⟩, List.mem_of_getElem? (i := 290) (by decide +kernel), List.mem_of_getElem? (i := 956) (by decide +kernel), List.mem_of_getElem? (i := 957) (by decide +kernel)⟩
theorem lw_p33 : lw_okq (⟨"StepSums", "slotsHeld", "()I"⟩, 13) := ⟨⟨by decide +kernel, by decide +kernel⟩, List.mem_of_getElem? (i := 18) (by decide +kernel), List.mem_of_getElem? (i := 990) (by decide +kernel), List.mem_of_getElem? (i := 991) (by decide +kernel)⟩
theorem lw_p34 : lw_okq (⟨"StepSumsModel", "lays", "(I)V"⟩, 46) := ⟨⟨by decide +kernel, by decide +kernel⟩, List.mem_of_getElem? (i := 1009) (by decide +kernel), List.mem_of_getElem? (i := 1164) (by decide +kernel), List.mem_of_getElem? (i := 1165) (by decide +kernel)⟩
theorem lw_p35 : lw_okq (⟨"StepSumsModel", "cutsText", "()V"⟩, 46) := ⟨⟨by decide +kernel, by decide +kernel⟩, List.mem_of_getElem? (i := 1009) (by decide +kernel), List.mem_of_getElem? (i := 1176) (by decide +kernel), List.mem_of_getElem? (i := 1177) (by decide +kernel)⟩
theorem lw_p36 : lw_okq (⟨"StepSumsModel", "byteAt", "(I)I"⟩, 46) := ⟨⟨by decide +kernel, by decide +kernel⟩, List.mem_of_getElem? (i := 1009) (by decide +kernel), List.mem_of_getElem? (i := 1180) (by decide +kernel), List.mem_of_getElem? (i := 1181) (by decide +kernel)⟩
theorem lw_p37 : lw_okq (⟨"StepSumsModel", "token", "(IIIJ)V"⟩, 46) := ⟨⟨by decide +kernel, by decide +kernel⟩, List.mem_of_getElem? (i := 1009) (by decide +kernel), List.mem_of_getElem? (i := 1184) (by decide +kernel), List.mem_of_getElem? (i := 1185) (by decide +kernel)⟩
theorem lw_p38 : lw_okq (⟨"StepSumsModel", "sign", "(III)I"⟩, 46) := ⟨⟨by decide +kernel, by decide +kernel⟩, List.mem_of_getElem? (i := 1009) (by decide +kernel), List.mem_of_getElem? (i := 1194) (by decide +kernel), List.mem_of_getElem? (i := 1195) (by decide +kernel)⟩
theorem lw_p39 : lw_okq (⟨"StepSumsModel", "is", "(I)Z"⟩, 46) := ⟨⟨by decide +kernel, by decide +kernel⟩, List.mem_of_getElem? (i := 1009) (by decide +kernel), List.mem_of_getElem? (i := 1198) (by decide +kernel), List.mem_of_getElem? (i := 1199) (by decide +kernel)⟩
theorem lw_p40 : lw_okq (⟨"StepSumsModel", "line", "()V"⟩, 46) := ⟨⟨by decide +kernel, by decide +kernel⟩, List.mem_of_getElem? (i := 1009) (by decide +kernel), List.mem_of_getElem? (i := 1202) (by decide +kernel), List.mem_of_getElem? (i := 1203) (by decide +kernel)⟩
theorem lw_p41 : lw_okq (⟨"StepSumsModel", "fail", "(I)V"⟩, 46) := ⟨⟨by decide +kernel, by decide +kernel⟩, List.mem_of_getElem? (i := 1009) (by decide +kernel), List.mem_of_getElem? (i := 1206) (by decide +kernel), List.mem_of_getElem? (i := 1207) (by decide +kernel)⟩
theorem lw_p42 : lw_okq (⟨"StepSumsModel", "passes", "()V"⟩, 46) := ⟨⟨by decide +kernel, by decide +kernel⟩, List.mem_of_getElem? (i := 1009) (by decide +kernel), List.mem_of_getElem? (i := 1210) (by decide +kernel), List.mem_of_getElem? (i := 1211) (by decide +kernel)⟩
theorem lw_p43 : lw_okq (⟨"StepSumsModel", "must", "(I)V"⟩, 46) := ⟨⟨by decide +kernel, by decide +kernel⟩, List.mem_of_getElem? (i := 1009) (by decide +kernel), List.mem_of_getElem? (i := 1214) (by decide +kernel), List.mem_of_getElem? (i := 1215) (by decide +kernel)⟩
theorem lw_p44 : lw_okq (⟨"StepSumsModel", "means", "()V"⟩, 46) := ⟨⟨by decide +kernel, by decide +kernel⟩, List.mem_of_getElem? (i := 1009) (by decide +kernel), List.mem_of_getElem? (i := 1218) (by decide +kernel), List.mem_of_getElem? (i := 1219) (by decide +kernel)⟩
theorem lw_p45 : lw_okq (⟨"StepSumsModel", "wrong", "(II)V"⟩, 46) := ⟨⟨by decide +kernel, by decide +kernel⟩, List.mem_of_getElem? (i := 1009) (by decide +kernel), List.mem_of_getElem? (i := 1222) (by decide +kernel), List.mem_of_getElem? (i := 1223) (by decide +kernel)⟩
theorem lw_p46 : lw_okq (⟨"StepSumsModel", "meansOne", "(II)V"⟩, 46) := ⟨⟨by decide +kernel, by decide +kernel⟩, List.mem_of_getElem? (i := 1009) (by decide +kernel), List.mem_of_getElem? (i := 1226) (by decide +kernel), List.mem_of_getElem? (i := 1227) (by decide +kernel)⟩
theorem lw_p47 : lw_okq (⟨"StepSumsModel", "meansOf", "(II)V"⟩, 46) := ⟨⟨by decide +kernel, by decide +kernel⟩, List.mem_of_getElem? (i := 1009) (by decide +kernel), List.mem_of_getElem? (i := 1230) (by decide +kernel), List.mem_of_getElem? (i := 1231) (by decide +kernel)⟩
def lw_privs_3 : List (MethodName × Nat) := [(⟨"StepSums$Cover", "numberOf", "(I)I"⟩, 8), (⟨"StepSums", "slotsHeld", "()I"⟩, 13), (⟨"StepSumsModel", "lays", "(I)V"⟩, 46), (⟨"StepSumsModel", "cutsText", "()V"⟩, 46), (⟨"StepSumsModel", "byteAt", "(I)I"⟩, 46), (⟨"StepSumsModel", "token", "(IIIJ)V"⟩, 46), (⟨"StepSumsModel", "sign", "(III)I"⟩, 46), (⟨"StepSumsModel", "is", "(I)Z"⟩, 46), (⟨"StepSumsModel", "line", "()V"⟩, 46), (⟨"StepSumsModel", "fail", "(I)V"⟩, 46), (⟨"StepSumsModel", "passes", "()V"⟩, 46), (⟨"StepSumsModel", "must", "(I)V"⟩, 46), (⟨"StepSumsModel", "means", "()V"⟩, 46), (⟨"StepSumsModel", "wrong", "(II)V"⟩, 46), (⟨"StepSumsModel", "meansOne", "(II)V"⟩, 46), (⟨"StepSumsModel", "meansOf", "(II)V"⟩, 46)]
theorem lw_r3 : ∀ q ∈ lw_privs_3, lw_okq q := List.forall_mem_cons.mpr ⟨lw_p32, List.forall_mem_cons.mpr ⟨lw_p33, List.forall_mem_cons.mpr ⟨lw_p34, List.forall_mem_cons.mpr ⟨lw_p35, List.forall_mem_cons.mpr ⟨lw_p36, List.forall_mem_cons.mpr ⟨lw_p37, List.forall_mem_cons.mpr ⟨lw_p38, List.forall_mem_cons.mpr ⟨lw_p39, List.forall_mem_cons.mpr ⟨lw_p40, List.forall_mem_cons.mpr ⟨lw_p41, List.forall_mem_cons.mpr ⟨lw_p42, List.forall_mem_cons.mpr ⟨lw_p43, List.forall_mem_cons.mpr ⟨lw_p44, List.forall_mem_cons.mpr ⟨lw_p45, List.forall_mem_cons.mpr ⟨lw_p46, List.forall_mem_cons.mpr ⟨lw_p47, fun _ h => absurd h List.not_mem_nil⟩⟩⟩⟩⟩⟩⟩⟩⟩⟩⟩⟩⟩⟩⟩⟩
theorem lw_p48 : lw_okq (⟨"StepSumsModel", "named", "(II)I"⟩, 46) := ⟨⟨by decide +kernel, by decide +kernel⟩, List.mem_of_getElem? (i := 1009) (by decide +kernel), List.mem_of_getElem? (i := 1246) (by decide +kernel), List.mem_of_getElem? (i := 1247) (by decide +kernel)⟩
theorem lw_p49 : lw_okq (⟨"StepSumsModel", "closes", "(I)V"⟩, 46) := ⟨⟨by decide +kernel, by decide +kernel⟩, List.mem_of_getElem? (i := 1009) (by decide +kernel), List.mem_of_getElem? (i := 1250) (by decide +kernel), List.mem_of_getElem? (i := 1251) (by decide +kernel)⟩
theorem lw_p50 : lw_okq (⟨"StepSumsModel", "generatorsOf", "([JI)I"⟩, 46) := ⟨⟨by decide +kernel, by decide +kernel⟩, List.mem_of_getElem? (i := 1009) (by decide +kernel), List.mem_of_getElem? (i := 1270) (by decide +kernel), List.mem_of_getElem? (i := 1271) (by decide +kernel)⟩
theorem lw_p51 : lw_okq (⟨"StepSumsModel", "isSet", "(I)Z"⟩, 46) := ⟨⟨by decide +kernel, by decide +kernel⟩, List.mem_of_getElem? (i := 1009) (by decide +kernel), List.mem_of_getElem? (i := 1282) (by decide +kernel), List.mem_of_getElem? (i := 1283) (by decide +kernel)⟩
theorem lw_p52 : lw_okq (⟨"StepSumsModel", "copies", "(I)V"⟩, 46) := ⟨⟨by decide +kernel, by decide +kernel⟩, List.mem_of_getElem? (i := 1009) (by decide +kernel), List.mem_of_getElem? (i := 1286) (by decide +kernel), List.mem_of_getElem? (i := 1287) (by decide +kernel)⟩
theorem lw_p53 : lw_okq (⟨"StepSumsModel", "becomes", "(I)Z"⟩, 46) := ⟨⟨by decide +kernel, by decide +kernel⟩, List.mem_of_getElem? (i := 1009) (by decide +kernel), List.mem_of_getElem? (i := 1290) (by decide +kernel), List.mem_of_getElem? (i := 1291) (by decide +kernel)⟩
theorem lw_p54 : lw_okq (⟨"StepSumsModel", "ofGaps", "(III)I"⟩, 46) := ⟨⟨by decide +kernel, by decide +kernel⟩, List.mem_of_getElem? (i := 1009) (by decide +kernel), List.mem_of_getElem? (i := 1318) (by decide +kernel), List.mem_of_getElem? (i := 1319) (by decide +kernel)⟩
theorem lw_p55 : lw_okq (⟨"StepSumsModel", "aperyOf", "(III)I"⟩, 46) := ⟨⟨by decide +kernel, by decide +kernel⟩, List.mem_of_getElem? (i := 1009) (by decide +kernel), List.mem_of_getElem? (i := 1338) (by decide +kernel), List.mem_of_getElem? (i := 1339) (by decide +kernel)⟩
theorem lw_p56 : lw_okq (⟨"StepSumsModel", "leastOf", "(I)I"⟩, 46) := ⟨⟨by decide +kernel, by decide +kernel⟩, List.mem_of_getElem? (i := 1009) (by decide +kernel), List.mem_of_getElem? (i := 1346) (by decide +kernel), List.mem_of_getElem? (i := 1347) (by decide +kernel)⟩
theorem lw_p57 : lw_okq (⟨"StepSumsModel", "rulesOf", "(I)I"⟩, 46) := ⟨⟨by decide +kernel, by decide +kernel⟩, List.mem_of_getElem? (i := 1009) (by decide +kernel), List.mem_of_getElem? (i := 1364) (by decide +kernel), List.mem_of_getElem? (i := 1365) (by decide +kernel)⟩
theorem lw_p58 : lw_okq (⟨"StepSumsModel", "partsOf", "(II)I"⟩, 46) := ⟨⟨by decide +kernel, by decide +kernel⟩, List.mem_of_getElem? (i := 1009) (by decide +kernel), List.mem_of_getElem? (i := 1368) (by decide +kernel), List.mem_of_getElem? (i := 1369) (by decide +kernel)⟩
theorem lw_p59 : lw_okq (⟨"StepSumsModel", "weightOf", "(I)I"⟩, 46) := ⟨⟨by decide +kernel, by decide +kernel⟩, List.mem_of_getElem? (i := 1009) (by decide +kernel), List.mem_of_getElem? (i := 1372) (by decide +kernel), List.mem_of_getElem? (i := 1373) (by decide +kernel)⟩
theorem lw_p60 : lw_okq (⟨"StepSumsModel", "laysWays", "(I)V"⟩, 46) := ⟨⟨by decide +kernel, by decide +kernel⟩, List.mem_of_getElem? (i := 1009) (by decide +kernel), List.mem_of_getElem? (i := 1380) (by decide +kernel), List.mem_of_getElem? (i := 1381) (by decide +kernel)⟩
theorem lw_p61 : lw_okq (⟨"StepSumsModel", "findsWay", "(III)V"⟩, 46) := ⟨⟨by decide +kernel, by decide +kernel⟩, List.mem_of_getElem? (i := 1009) (by decide +kernel), List.mem_of_getElem? (i := 1388) (by decide +kernel), List.mem_of_getElem? (i := 1389) (by decide +kernel)⟩
theorem lw_p62 : lw_okq (⟨"StepSumsModel", "laysLengths", "(I)V"⟩, 46) := ⟨⟨by decide +kernel, by decide +kernel⟩, List.mem_of_getElem? (i := 1009) (by decide +kernel), List.mem_of_getElem? (i := 1396) (by decide +kernel), List.mem_of_getElem? (i := 1397) (by decide +kernel)⟩
theorem lw_p63 : lw_okq (⟨"StepSumsModel", "isLength", "(II)Z"⟩, 46) := ⟨⟨by decide +kernel, by decide +kernel⟩, List.mem_of_getElem? (i := 1009) (by decide +kernel), List.mem_of_getElem? (i := 1400) (by decide +kernel), List.mem_of_getElem? (i := 1401) (by decide +kernel)⟩
def lw_privs_4 : List (MethodName × Nat) := [(⟨"StepSumsModel", "named", "(II)I"⟩, 46), (⟨"StepSumsModel", "closes", "(I)V"⟩, 46), (⟨"StepSumsModel", "generatorsOf", "([JI)I"⟩, 46), (⟨"StepSumsModel", "isSet", "(I)Z"⟩, 46), (⟨"StepSumsModel", "copies", "(I)V"⟩, 46), (⟨"StepSumsModel", "becomes", "(I)Z"⟩, 46), (⟨"StepSumsModel", "ofGaps", "(III)I"⟩, 46), (⟨"StepSumsModel", "aperyOf", "(III)I"⟩, 46), (⟨"StepSumsModel", "leastOf", "(I)I"⟩, 46), (⟨"StepSumsModel", "rulesOf", "(I)I"⟩, 46), (⟨"StepSumsModel", "partsOf", "(II)I"⟩, 46), (⟨"StepSumsModel", "weightOf", "(I)I"⟩, 46), (⟨"StepSumsModel", "laysWays", "(I)V"⟩, 46), (⟨"StepSumsModel", "findsWay", "(III)V"⟩, 46), (⟨"StepSumsModel", "laysLengths", "(I)V"⟩, 46), (⟨"StepSumsModel", "isLength", "(II)Z"⟩, 46)]
theorem lw_r4 : ∀ q ∈ lw_privs_4, lw_okq q := List.forall_mem_cons.mpr ⟨lw_p48, List.forall_mem_cons.mpr ⟨lw_p49, List.forall_mem_cons.mpr ⟨lw_p50, List.forall_mem_cons.mpr ⟨lw_p51, List.forall_mem_cons.mpr ⟨lw_p52, List.forall_mem_cons.mpr ⟨lw_p53, List.forall_mem_cons.mpr ⟨lw_p54, List.forall_mem_cons.mpr ⟨lw_p55, List.forall_mem_cons.mpr ⟨lw_p56, List.forall_mem_cons.mpr ⟨lw_p57, List.forall_mem_cons.mpr ⟨lw_p58, List.forall_mem_cons.mpr ⟨lw_p59, List.forall_mem_cons.mpr ⟨lw_p60, List.forall_mem_cons.mpr ⟨lw_p61, List.forall_mem_cons.mpr ⟨lw_p62, List.forall_mem_cons.mpr ⟨lw_p63, fun _ h => absurd h List.not_mem_nil⟩⟩⟩⟩⟩⟩⟩⟩⟩⟩⟩⟩⟩⟩⟩⟩
theorem lw_p64 : lw_okq (⟨"StepSumsModel", "leastLength", "(I)I"⟩, 46) := ⟨⟨by decide +kernel, by decide +kernel⟩, List.mem_of_getElem? (i := 1009) (by decide +kernel), List.mem_of_getElem? (i := 1404) (by decide +kernel), List.mem_of_getElem? (i := 1405) (by decide +kernel)⟩
theorem lw_p65 : lw_okq (⟨"StepSumsModel", "apart", "(II)I"⟩, 46) := ⟨⟨by decide +kernel, by decide +kernel⟩, List.mem_of_getElem? (i := 1009) (by decide +kernel), List.mem_of_getElem? (i := 1420) (by decide +kernel), List.mem_of_getElem? (i := 1421) (by decide +kernel)⟩
theorem lw_p66 : lw_okq (⟨"StepSumsModel", "takesOff", "(I)I"⟩, 46) := ⟨⟨by decide +kernel, by decide +kernel⟩, List.mem_of_getElem? (i := 1009) (by decide +kernel), List.mem_of_getElem? (i := 1428) (by decide +kernel), List.mem_of_getElem? (i := 1429) (by decide +kernel)⟩
theorem lw_p67 : lw_okq (⟨"StepSumsModel", "childrenOf", "(II)I"⟩, 46) := ⟨⟨by decide +kernel, by decide +kernel⟩, List.mem_of_getElem? (i := 1009) (by decide +kernel), List.mem_of_getElem? (i := 1440) (by decide +kernel), List.mem_of_getElem? (i := 1441) (by decide +kernel)⟩
theorem lw_p68 : lw_okq (⟨"StepSumsModel", "childrenWithout", "(II)I"⟩, 46) := ⟨⟨by decide +kernel, by decide +kernel⟩, List.mem_of_getElem? (i := 1009) (by decide +kernel), List.mem_of_getElem? (i := 1448) (by decide +kernel), List.mem_of_getElem? (i := 1449) (by decide +kernel)⟩
theorem lw_p69 : lw_okq (⟨"StepSumsModel", "inList", "(II)I"⟩, 46) := ⟨⟨by decide +kernel, by decide +kernel⟩, List.mem_of_getElem? (i := 1009) (by decide +kernel), List.mem_of_getElem? (i := 1463) (by decide +kernel), List.mem_of_getElem? (i := 1464) (by decide +kernel)⟩
theorem lw_p70 : lw_okq (⟨"StepSumsModel", "laysList", "()V"⟩, 46) := ⟨⟨by decide +kernel, by decide +kernel⟩, List.mem_of_getElem? (i := 1009) (by decide +kernel), List.mem_of_getElem? (i := 1467) (by decide +kernel), List.mem_of_getElem? (i := 1468) (by decide +kernel)⟩
theorem lw_p71 : lw_okq (⟨"StepSumsModel", "laysAbove", "(I)V"⟩, 46) := ⟨⟨by decide +kernel, by decide +kernel⟩, List.mem_of_getElem? (i := 1009) (by decide +kernel), List.mem_of_getElem? (i := 1489) (by decide +kernel), List.mem_of_getElem? (i := 1490) (by decide +kernel)⟩
theorem lw_p72 : lw_okq (⟨"StepSumsModel", "laysGaps", "(I)V"⟩, 46) := ⟨⟨by decide +kernel, by decide +kernel⟩, List.mem_of_getElem? (i := 1009) (by decide +kernel), List.mem_of_getElem? (i := 1493) (by decide +kernel), List.mem_of_getElem? (i := 1494) (by decide +kernel)⟩
theorem lw_p73 : lw_okq (⟨"StepSumsModel", "isWith", "(II)Z"⟩, 46) := ⟨⟨by decide +kernel, by decide +kernel⟩, List.mem_of_getElem? (i := 1009) (by decide +kernel), List.mem_of_getElem? (i := 1497) (by decide +kernel), List.mem_of_getElem? (i := 1498) (by decide +kernel)⟩
theorem lw_p74 : lw_okq (⟨"StepSumsModel", "isLone", "(I)Z"⟩, 46) := ⟨⟨by decide +kernel, by decide +kernel⟩, List.mem_of_getElem? (i := 1009) (by decide +kernel), List.mem_of_getElem? (i := 1505) (by decide +kernel), List.mem_of_getElem? (i := 1506) (by decide +kernel)⟩
theorem lw_p75 : lw_okq (⟨"StepSumsModel", "areEnough", "(I)Z"⟩, 46) := ⟨⟨by decide +kernel, by decide +kernel⟩, List.mem_of_getElem? (i := 1009) (by decide +kernel), List.mem_of_getElem? (i := 1509) (by decide +kernel), List.mem_of_getElem? (i := 1510) (by decide +kernel)⟩
theorem lw_p76 : lw_okq (⟨"StepSumsModel", "nextPick", "(I)Z"⟩, 46) := ⟨⟨by decide +kernel, by decide +kernel⟩, List.mem_of_getElem? (i := 1009) (by decide +kernel), List.mem_of_getElem? (i := 1513) (by decide +kernel), List.mem_of_getElem? (i := 1514) (by decide +kernel)⟩
theorem lw_p77 : lw_okq (⟨"StepSumsModel", "namedWith", "(II)I"⟩, 46) := ⟨⟨by decide +kernel, by decide +kernel⟩, List.mem_of_getElem? (i := 1009) (by decide +kernel), List.mem_of_getElem? (i := 1521) (by decide +kernel), List.mem_of_getElem? (i := 1522) (by decide +kernel)⟩
def lw_privs_5 : List (MethodName × Nat) := [(⟨"StepSumsModel", "leastLength", "(I)I"⟩, 46), (⟨"StepSumsModel", "apart", "(II)I"⟩, 46), (⟨"StepSumsModel", "takesOff", "(I)I"⟩, 46), (⟨"StepSumsModel", "childrenOf", "(II)I"⟩, 46), (⟨"StepSumsModel", "childrenWithout", "(II)I"⟩, 46), (⟨"StepSumsModel", "inList", "(II)I"⟩, 46), (⟨"StepSumsModel", "laysList", "()V"⟩, 46), (⟨"StepSumsModel", "laysAbove", "(I)V"⟩, 46), (⟨"StepSumsModel", "laysGaps", "(I)V"⟩, 46), (⟨"StepSumsModel", "isWith", "(II)Z"⟩, 46), (⟨"StepSumsModel", "isLone", "(I)Z"⟩, 46), (⟨"StepSumsModel", "areEnough", "(I)Z"⟩, 46), (⟨"StepSumsModel", "nextPick", "(I)Z"⟩, 46), (⟨"StepSumsModel", "namedWith", "(II)I"⟩, 46)]
theorem lw_r5 : ∀ q ∈ lw_privs_5, lw_okq q := List.forall_mem_cons.mpr ⟨lw_p64, List.forall_mem_cons.mpr ⟨lw_p65, List.forall_mem_cons.mpr ⟨lw_p66, List.forall_mem_cons.mpr ⟨lw_p67, List.forall_mem_cons.mpr ⟨lw_p68, List.forall_mem_cons.mpr ⟨lw_p69, List.forall_mem_cons.mpr ⟨lw_p70, List.forall_mem_cons.mpr ⟨lw_p71, List.forall_mem_cons.mpr ⟨lw_p72, List.forall_mem_cons.mpr ⟨lw_p73, List.forall_mem_cons.mpr ⟨lw_p74, List.forall_mem_cons.mpr ⟨lw_p75, List.forall_mem_cons.mpr ⟨lw_p76, List.forall_mem_cons.mpr ⟨lw_p77, fun _ h => absurd h List.not_mem_nil⟩⟩⟩⟩⟩⟩⟩⟩⟩⟩⟩⟩⟩⟩
def lw_privs : List (MethodName × Nat) := lw_privs_1 ++ (lw_privs_2 ++ (lw_privs_3 ++ (lw_privs_4 ++ (lw_privs_5))))
def lw_tbl : List Cond := k2_sels lw_privs ++ tables_1
theorem lw_privs_ok : ∀ q ∈ lw_privs, lw_okq q := by
  show ∀ q ∈ lw_privs_1 ++ (lw_privs_2 ++ (lw_privs_3 ++ (lw_privs_4 ++ (lw_privs_5)))), lw_okq q
  exact List.forall_mem_append.mpr ⟨lw_r1, List.forall_mem_append.mpr ⟨lw_r2, List.forall_mem_append.mpr ⟨lw_r3, List.forall_mem_append.mpr ⟨lw_r4, lw_r5⟩⟩⟩⟩
-- names, as printed
def RX0 : String := "StepSums$Cover"
def TX0 : u_T := fun k => match k with
  | 0 => ("StepSums$Cover", "isSet", "[Z", true)
  | 1 => ("StepSums$Cover", "wins", "[Z", true)
  | 2 => ("StepSums$Cover", "lone", "[I", true)
  | 3 => ("StepSums$Cover", "chosen", "[I", true)
  | 4 => ("StepSums$Cover", "loneCount", "I", false)
  | 5 => ("StepSums$Cover", "genus", "I", false)
  | 6 => ("StepSums$Cover", "base", "I", false)
  | _ => ("StepSums$Cover", "gaps", "[I", true)
def tyX0 : Nat → FieldType := fun k => match k with
  | 0 => .array .boolean
  | 1 => .array .boolean
  | 2 => .array .int
  | 3 => .array .int
  | 4 => .int
  | 5 => .int
  | 6 => .int
  | _ => .array .int
theorem nmX0 : ∀ a, a < 8 → ∀ b, b < 8 → a ≠ b → (TX0 a).2.1 ≠ (TX0 b).2.1 := by decide +kernel
theorem tyX0_ok : ∀ k, k < 8 → parseFieldDescriptor (TX0 k).2.2.1 = some (tyX0 k) := by decide +kernel
abbrev cX0_init : ByteArray := prog_2_method_1_code
def yX0_init : MethodName := ⟨RX0, "<init>", "()V"⟩
abbrev cX0_open : ByteArray := prog_2_method_2_code
def yX0_open : MethodName := ⟨RX0, "open", "(LStepSums$StepSet;)I"⟩
abbrev cX0_spread : ByteArray := prog_2_method_3_code
def yX0_spread : MethodName := ⟨RX0, "spread", "(I)I"⟩
abbrev cX0_numberOf : ByteArray := prog_2_method_4_code
def yX0_numberOf : MethodName := ⟨RX0, "numberOf", "(I)I"⟩
abbrev cX0_size : ByteArray := prog_2_method_5_code
def yX0_size : MethodName := ⟨RX0, "size", "(LStepSums$StepSet;)I"⟩
abbrev cX0_pieceAt : ByteArray := prog_2_method_6_code
def yX0_pieceAt : MethodName := ⟨RX0, "pieceAt", "(LStepSums$StepSet;I)I"⟩
abbrev cX0_isLoneNumber : ByteArray := prog_2_method_7_code
def yX0_isLoneNumber : MethodName := ⟨RX0, "isLoneNumber", "(I)Z"⟩
abbrev cX0_choose : ByteArray := prog_2_method_8_code
def yX0_choose : MethodName := ⟨RX0, "choose", "(LStepSums$Cover;IIII)Z"⟩
abbrev cX0_winningGapAt : ByteArray := prog_2_method_9_code
def yX0_winningGapAt : MethodName := ⟨RX0, "winningGapAt", "(LStepSums$StepSet;I)I"⟩
abbrev cX0_play : ByteArray := prog_2_method_10_code
def yX0_play : MethodName := ⟨RX0, "play", "(I)V"⟩
abbrev cX0_isWinning : ByteArray := prog_2_method_11_code
def yX0_isWinning : MethodName := ⟨RX0, "isWinning", "(II)Z"⟩
def RX1 : String := "StepSums$Deeds"
def TX1 : u_T := fun k => match k with
  | 0 => ("StepSums$Deeds", "sets", "[I", true)
  | 1 => ("StepSums$Deeds", "numbers", "[I", true)
  | 2 => ("StepSums$Deeds", "next", "I", false)
  | _ => ("StepSums$Deeds", "size", "I", false)
def tyX1 : Nat → FieldType := fun k => match k with
  | 0 => .array .int
  | 1 => .array .int
  | 2 => .int
  | _ => .int
theorem nmX1 : ∀ a, a < 4 → ∀ b, b < 4 → a ≠ b → (TX1 a).2.1 ≠ (TX1 b).2.1 := by decide +kernel
theorem tyX1_ok : ∀ k, k < 4 → parseFieldDescriptor (TX1 k).2.2.1 = some (tyX1 k) := by decide +kernel
abbrev cX1_init : ByteArray := prog_3_method_1_code
def yX1_init : MethodName := ⟨RX1, "<init>", "()V"⟩
abbrev cX1_size : ByteArray := prog_3_method_2_code
def yX1_size : MethodName := ⟨RX1, "size", "()I"⟩
abbrev cX1_note : ByteArray := prog_3_method_3_code
def yX1_note : MethodName := ⟨RX1, "note", "(II)V"⟩
abbrev cX1_last : ByteArray := prog_3_method_4_code
def yX1_last : MethodName := ⟨RX1, "last", "()I"⟩
abbrev cX1_lastSet : ByteArray := prog_3_method_5_code
def yX1_lastSet : MethodName := ⟨RX1, "lastSet", "()I"⟩
abbrev cX1_lastNumber : ByteArray := prog_3_method_6_code
def yX1_lastNumber : MethodName := ⟨RX1, "lastNumber", "()I"⟩
abbrev cX1_forgetLast : ByteArray := prog_3_method_7_code
def yX1_forgetLast : MethodName := ⟨RX1, "forgetLast", "()V"⟩
abbrev cX1_forgetAll : ByteArray := prog_3_method_8_code
def yX1_forgetAll : MethodName := ⟨RX1, "forgetAll", "()V"⟩
def RX2 : String := "StepSums$Hall"
def TX2 : u_T := fun k => match k with
  | 0 => ("StepSums$Hall", "sets", "[LStepSums$StepSet;", true)
  | _ => ("StepSums$Hall", "size", "I", false)
def tyX2 : Nat → FieldType := fun k => match k with
  | 0 => .array (.object "StepSums$StepSet")
  | _ => .int
theorem nmX2 : ∀ a, a < 2 → ∀ b, b < 2 → a ≠ b → (TX2 a).2.1 ≠ (TX2 b).2.1 := by decide +kernel
theorem tyX2_ok : ∀ k, k < 2 → parseFieldDescriptor (TX2 k).2.2.1 = some (tyX2 k) := by decide +kernel
abbrev cX2_init : ByteArray := prog_4_method_1_code
def yX2_init : MethodName := ⟨RX2, "<init>", "()V"⟩
abbrev cX2_at : ByteArray := prog_4_method_2_code
def yX2_at : MethodName := ⟨RX2, "at", "(I)LStepSums$StepSet;"⟩
abbrev cX2_copyFrom : ByteArray := prog_4_method_3_code
def yX2_copyFrom : MethodName := ⟨RX2, "copyFrom", "(LStepSums$Hall;)V"⟩
abbrev cX2_gapsOfEach : ByteArray := prog_4_method_4_code
def yX2_gapsOfEach : MethodName := ⟨RX2, "gapsOfEach", "()I"⟩
abbrev cX2_loneBits : ByteArray := prog_4_method_5_code
def yX2_loneBits : MethodName := ⟨RX2, "loneBits", "()I"⟩
abbrev cX2_greatestTop : ByteArray := prog_4_method_6_code
def yX2_greatestTop : MethodName := ⟨RX2, "greatestTop", "()I"⟩
abbrev cX2_gapsOfAll : ByteArray := prog_4_method_7_code
def yX2_gapsOfAll : MethodName := ⟨RX2, "gapsOfAll", "()I"⟩
def RX3 : String := "StepSums$Knots"
def TX3 : u_T := fun k => match k with
  | 0 => ("StepSums$Knots", "ties", "[I", true)
  | 1 => ("StepSums$Knots", "knownFor", "[I", true)
  | 2 => ("StepSums$Knots", "knownCount", "I", false)
  | 3 => ("StepSums$Knots", "tieCount", "I", false)
  | _ => ("StepSums$Knots", "rules", "I", false)
def tyX3 : Nat → FieldType := fun k => match k with
  | 0 => .array .int
  | 1 => .array .int
  | 2 => .int
  | 3 => .int
  | _ => .int
theorem nmX3 : ∀ a, a < 5 → ∀ b, b < 5 → a ≠ b → (TX3 a).2.1 ≠ (TX3 b).2.1 := by decide +kernel
theorem tyX3_ok : ∀ k, k < 5 → parseFieldDescriptor (TX3 k).2.2.1 = some (tyX3 k) := by decide +kernel
abbrev cX3_init : ByteArray := prog_5_method_1_code
def yX3_init : MethodName := ⟨RX3, "<init>", "()V"⟩
abbrev cX3_rulesOf : ByteArray := prog_5_method_2_code
def yX3_rulesOf : MethodName := ⟨RX3, "rulesOf", "(LStepSums$StepSet;)I"⟩
abbrev cX3_tieAt : ByteArray := prog_5_method_3_code
def yX3_tieAt : MethodName := ⟨RX3, "tieAt", "(LStepSums$StepSet;I)I"⟩
abbrev cX3_learn : ByteArray := prog_5_method_4_code
def yX3_learn : MethodName := ⟨RX3, "learn", "(LStepSums$StepSet;)V"⟩
abbrev cX3_isKnown : ByteArray := prog_5_method_5_code
def yX3_isKnown : MethodName := ⟨RX3, "isKnown", "(LStepSums$StepSet;)Z"⟩
abbrev cX3_farthestTie : ByteArray := prog_5_method_6_code
def yX3_farthestTie : MethodName := ⟨RX3, "farthestTie", "(LStepSums$StepSet;)I"⟩
abbrev cX3_partsOf : ByteArray := prog_5_method_7_code
def yX3_partsOf : MethodName := ⟨RX3, "partsOf", "(LStepSums$StepSet;I)I"⟩
abbrev cX3_withoutPartOf : ByteArray := prog_5_method_8_code
def yX3_withoutPartOf : MethodName := ⟨RX3, "withoutPartOf", "(LStepSums$StepSet;III)I"⟩
abbrev cX3_nextTo : ByteArray := prog_5_method_9_code
def yX3_nextTo : MethodName := ⟨RX3, "nextTo", "(LStepSums$StepSet;II)I"⟩
def RX4 : String := "StepSums$Line"
def TX4 : u_T := fun k => match k with
  | 0 => ("StepSums$Line", "names", "[J", true)
  | 1 => ("StepSums$Line", "namePlaces", "[I", true)
  | 2 => ("StepSums$Line", "ints", "[I", true)
  | 3 => ("StepSums$Line", "intPlaces", "[I", true)
  | 4 => ("StepSums$Line", "word", "I", false)
  | 5 => ("StepSums$Line", "nameCount", "I", false)
  | 6 => ("StepSums$Line", "intCount", "I", false)
  | _ => ("StepSums$Line", "endPlace", "I", false)
def tyX4 : Nat → FieldType := fun k => match k with
  | 0 => .array .long
  | 1 => .array .int
  | 2 => .array .int
  | 3 => .array .int
  | 4 => .int
  | 5 => .int
  | 6 => .int
  | _ => .int
theorem nmX4 : ∀ a, a < 8 → ∀ b, b < 8 → a ≠ b → (TX4 a).2.1 ≠ (TX4 b).2.1 := by decide +kernel
theorem tyX4_ok : ∀ k, k < 8 → parseFieldDescriptor (TX4 k).2.2.1 = some (tyX4 k) := by decide +kernel
abbrev cX4_init : ByteArray := prog_6_method_1_code
def yX4_init : MethodName := ⟨RX4, "<init>", "()V"⟩
abbrev cX4_begin : ByteArray := prog_6_method_2_code
def yX4_begin : MethodName := ⟨RX4, "begin", "(I)V"⟩
abbrev cX4_putName : ByteArray := prog_6_method_3_code
def yX4_putName : MethodName := ⟨RX4, "putName", "(JI)V"⟩
abbrev cX4_putInt : ByteArray := prog_6_method_4_code
def yX4_putInt : MethodName := ⟨RX4, "putInt", "(II)V"⟩
def RX5 : String := "StepSums$Maker"
def TX5 : u_T := fun k => match k with
  | 0 => ("StepSums$Maker", "steps", "[I", true)
  | _ => ("StepSums$Maker", "faultPlace", "I", false)
def tyX5 : Nat → FieldType := fun k => match k with
  | 0 => .array .int
  | _ => .int
theorem nmX5 : ∀ a, a < 2 → ∀ b, b < 2 → a ≠ b → (TX5 a).2.1 ≠ (TX5 b).2.1 := by decide +kernel
theorem tyX5_ok : ∀ k, k < 2 → parseFieldDescriptor (TX5 k).2.2.1 = some (tyX5 k) := by decide +kernel
abbrev cX5_init : ByteArray := prog_7_method_1_code
def yX5_init : MethodName := ⟨RX5, "<init>", "()V"⟩
abbrev cX5_faultPlace : ByteArray := prog_7_method_2_code
def yX5_faultPlace : MethodName := ⟨RX5, "faultPlace", "()I"⟩
abbrev cX5_make : ByteArray := prog_7_method_3_code
def yX5_make : MethodName := ⟨RX5, "make", "(LStepSums$Reader;LStepSums$Hall;)I"⟩
abbrev cX5_makeOne : ByteArray := prog_7_method_4_code
def yX5_makeOne : MethodName := ⟨RX5, "makeOne", "([LStepSums$Line;ILStepSums$Hall;)I"⟩
abbrev cX5_faultAt : ByteArray := prog_7_method_5_code
def yX5_faultAt : MethodName := ⟨RX5, "faultAt", "(II)I"⟩
abbrev cX5_ownerOf : ByteArray := prog_7_method_6_code
def yX5_ownerOf : MethodName := ⟨RX5, "ownerOf", "(J[LStepSums$Line;I)I"⟩
abbrev cX5_isRight : ByteArray := prog_7_method_7_code
def yX5_isRight : MethodName := ⟨RX5, "isRight", "(IILStepSums$StepSet;)Z"⟩
abbrev cX5_build : ByteArray := prog_7_method_8_code
def yX5_build : MethodName := ⟨RX5, "build", "(LStepSums$Line;LStepSums$StepSet;LStepSums$StepSet;LStepSums$StepSet;)Z"⟩
abbrev cX5_gatherSteps : ByteArray := prog_7_method_9_code
def yX5_gatherSteps : MethodName := ⟨RX5, "gatherSteps", "(LStepSums$StepSet;LStepSums$StepSet;)I"⟩
def RX6 : String := "StepSums$Reader"
def TX6 : u_T := fun k => match k with
  | 0 => ("StepSums$Reader", "lines", "[LStepSums$Line;", true)
  | 1 => ("StepSums$Reader", "lineCount", "I", false)
  | 2 => ("StepSums$Reader", "tape", "LStepSums$Tape;", false)
  | 3 => ("StepSums$Reader", "at", "I", false)
  | 4 => ("StepSums$Reader", "faultPlace", "I", false)
  | 5 => ("StepSums$Reader", "kind", "I", false)
  | 6 => ("StepSums$Reader", "tokenPlace", "I", false)
  | 7 => ("StepSums$Reader", "word", "I", false)
  | 8 => ("StepSums$Reader", "number", "I", false)
  | _ => ("StepSums$Reader", "letters", "J", false)
def tyX6 : Nat → FieldType := fun k => match k with
  | 0 => .array (.object "StepSums$Line")
  | 1 => .int
  | 2 => .object "StepSums$Tape"
  | 3 => .int
  | 4 => .int
  | 5 => .int
  | 6 => .int
  | 7 => .int
  | 8 => .int
  | _ => .long
theorem nmX6 : ∀ a, a < 10 → ∀ b, b < 10 → a ≠ b → (TX6 a).2.1 ≠ (TX6 b).2.1 := by decide +kernel
theorem tyX6_ok : ∀ k, k < 10 → parseFieldDescriptor (TX6 k).2.2.1 = some (tyX6 k) := by decide +kernel
abbrev cX6_init : ByteArray := prog_8_method_1_code
def yX6_init : MethodName := ⟨RX6, "<init>", "()V"⟩
abbrev cX6_faultPlace : ByteArray := prog_8_method_2_code
def yX6_faultPlace : MethodName := ⟨RX6, "faultPlace", "()I"⟩
abbrev cX6_parse : ByteArray := prog_8_method_3_code
def yX6_parse : MethodName := ⟨RX6, "parse", "(LStepSums$Tape;)I"⟩
abbrev cX6_parseLines : ByteArray := prog_8_method_4_code
def yX6_parseLines : MethodName := ⟨RX6, "parseLines", "()I"⟩
abbrev cX6_parseLine : ByteArray := prog_8_method_5_code
def yX6_parseLine : MethodName := ⟨RX6, "parseLine", "(LStepSums$Line;)I"⟩
abbrev cX6_nextToken : ByteArray := prog_8_method_6_code
def yX6_nextToken : MethodName := ⟨RX6, "nextToken", "()V"⟩
abbrev cX6_takeLetters : ByteArray := prog_8_method_7_code
def yX6_takeLetters : MethodName := ⟨RX6, "takeLetters", "()V"⟩
abbrev cX6_takeDigits : ByteArray := prog_8_method_8_code
def yX6_takeDigits : MethodName := ⟨RX6, "takeDigits", "()V"⟩
abbrev cX6_wordOf : ByteArray := prog_8_method_9_code
def yX6_wordOf : MethodName := ⟨RX6, "wordOf", "(J)I"⟩
abbrev cX6_isBlank : ByteArray := prog_8_method_10_code
def yX6_isBlank : MethodName := ⟨RX6, "isBlank", "(I)Z"⟩
abbrev cX6_isLetter : ByteArray := prog_8_method_11_code
def yX6_isLetter : MethodName := ⟨RX6, "isLetter", "(I)Z"⟩
abbrev cX6_isDigit : ByteArray := prog_8_method_12_code
def yX6_isDigit : MethodName := ⟨RX6, "isDigit", "(I)Z"⟩
def RX7 : String := "StepSums$Small"
def TX7 : u_T := fun k => match k with
  | 0 => ("StepSums$Small", "masks", "[I", true)
  | 1 => ("StepSums$Small", "size", "I", false)
  | _ => ("StepSums$Small", "listedGenus", "I", false)
def tyX7 : Nat → FieldType := fun k => match k with
  | 0 => .array .int
  | 1 => .int
  | _ => .int
theorem nmX7 : ∀ a, a < 3 → ∀ b, b < 3 → a ≠ b → (TX7 a).2.1 ≠ (TX7 b).2.1 := by decide +kernel
theorem tyX7_ok : ∀ k, k < 3 → parseFieldDescriptor (TX7 k).2.2.1 = some (tyX7 k) := by decide +kernel
abbrev cX7_init : ByteArray := prog_9_method_1_code
def yX7_init : MethodName := ⟨RX7, "<init>", "()V"⟩
abbrev cX7_maskOf : ByteArray := prog_9_method_2_code
def yX7_maskOf : MethodName := ⟨RX7, "maskOf", "(LStepSums$StepSet;)I"⟩
abbrev cX7_contains : ByteArray := prog_9_method_3_code
def yX7_contains : MethodName := ⟨RX7, "contains", "(II)Z"⟩
abbrev cX7_isSumOfTwo : ByteArray := prog_9_method_4_code
def yX7_isSumOfTwo : MethodName := ⟨RX7, "isSumOfTwo", "(II)Z"⟩
abbrev cX7_hasAllSums : ByteArray := prog_9_method_5_code
def yX7_hasAllSums : MethodName := ⟨RX7, "hasAllSums", "(I)Z"⟩
abbrev cX7_stepAt : ByteArray := prog_9_method_6_code
def yX7_stepAt : MethodName := ⟨RX7, "stepAt", "(II)I"⟩
abbrev cX7_grown : ByteArray := prog_9_method_7_code
def yX7_grown : MethodName := ⟨RX7, "grown", "(II)I"⟩
abbrev cX7_sizeOf : ByteArray := prog_9_method_8_code
def yX7_sizeOf : MethodName := ⟨RX7, "sizeOf", "(I)I"⟩
abbrev cX7_maskAt : ByteArray := prog_9_method_9_code
def yX7_maskAt : MethodName := ⟨RX7, "maskAt", "(II)I"⟩
abbrev cX7_indexOf : ByteArray := prog_9_method_10_code
def yX7_indexOf : MethodName := ⟨RX7, "indexOf", "(LStepSums$StepSet;)I"⟩
abbrev cX7_learn : ByteArray := prog_9_method_11_code
def yX7_learn : MethodName := ⟨RX7, "learn", "(I)V"⟩
abbrev cX7_decide : ByteArray := prog_9_method_12_code
def yX7_decide : MethodName := ⟨RX7, "decide", "(LStepSums$Small;III)V"⟩
abbrev cX7_note : ByteArray := prog_9_method_13_code
def yX7_note : MethodName := ⟨RX7, "note", "(I)V"⟩
def RX8 : String := "StepSums$StepSet"
def TX8 : u_T := fun k => match k with
  | 0 => ("StepSums$StepSet", "row", "[Z", true)
  | 1 => ("StepSums$StepSet", "gaps", "[I", true)
  | 2 => ("StepSums$StepSet", "generators", "[I", true)
  | 3 => ("StepSums$StepSet", "genus", "I", false)
  | 4 => ("StepSums$StepSet", "generatorCount", "I", false)
  | _ => ("StepSums$StepSet", "top", "I", false)
def tyX8 : Nat → FieldType := fun k => match k with
  | 0 => .array .boolean
  | 1 => .array .int
  | 2 => .array .int
  | 3 => .int
  | 4 => .int
  | _ => .int
theorem nmX8 : ∀ a, a < 6 → ∀ b, b < 6 → a ≠ b → (TX8 a).2.1 ≠ (TX8 b).2.1 := by decide +kernel
theorem tyX8_ok : ∀ k, k < 6 → parseFieldDescriptor (TX8 k).2.2.1 = some (tyX8 k) := by decide +kernel
abbrev cX8_init : ByteArray := prog_10_method_1_code
def yX8_init : MethodName := ⟨RX8, "<init>", "()V"⟩
abbrev cX8_holds : ByteArray := prog_10_method_2_code
def yX8_holds : MethodName := ⟨RX8, "holds", "(I)Z"⟩
abbrev cX8_conductor : ByteArray := prog_10_method_3_code
def yX8_conductor : MethodName := ⟨RX8, "conductor", "()I"⟩
abbrev cX8_countBelowConductor : ByteArray := prog_10_method_4_code
def yX8_countBelowConductor : MethodName := ⟨RX8, "countBelowConductor", "()I"⟩
abbrev cX8_leastGenerator : ByteArray := prog_10_method_5_code
def yX8_leastGenerator : MethodName := ⟨RX8, "leastGenerator", "()I"⟩
abbrev cX8_weight : ByteArray := prog_10_method_6_code
def yX8_weight : MethodName := ⟨RX8, "weight", "()I"⟩
abbrev cX8_symmetrical : ByteArray := prog_10_method_7_code
def yX8_symmetrical : MethodName := ⟨RX8, "symmetrical", "(II)Z"⟩
abbrev cX8_nearlySymmetrical : ByteArray := prog_10_method_8_code
def yX8_nearlySymmetrical : MethodName := ⟨RX8, "nearlySymmetrical", "(II)Z"⟩
abbrev cX8_isLone : ByteArray := prog_10_method_9_code
def yX8_isLone : MethodName := ⟨RX8, "isLone", "(II)Z"⟩
abbrev cX8_settle : ByteArray := prog_10_method_10_code
def yX8_settle : MethodName := ⟨RX8, "settle", "()Z"⟩
abbrev cX8_findGenerators : ByteArray := prog_10_method_11_code
def yX8_findGenerators : MethodName := ⟨RX8, "findGenerators", "()Z"⟩
abbrev cX8_becomeSums : ByteArray := prog_10_method_12_code
def yX8_becomeSums : MethodName := ⟨RX8, "becomeSums", "([II)Z"⟩
abbrev cX8_becomeMeet : ByteArray := prog_10_method_13_code
def yX8_becomeMeet : MethodName := ⟨RX8, "becomeMeet", "(LStepSums$StepSet;LStepSums$StepSet;)Z"⟩
abbrev cX8_becomePart : ByteArray := prog_10_method_14_code
def yX8_becomePart : MethodName := ⟨RX8, "becomePart", "(LStepSums$StepSet;I)Z"⟩
abbrev cX8_becomeArf : ByteArray := prog_10_method_15_code
def yX8_becomeArf : MethodName := ⟨RX8, "becomeArf", "(LStepSums$StepSet;)Z"⟩
abbrev cX8_leastOf : ByteArray := prog_10_method_16_code
def yX8_leastOf : MethodName := ⟨RX8, "leastOf", "([II)I"⟩
abbrev cX8_copyFrom : ByteArray := prog_10_method_17_code
def yX8_copyFrom : MethodName := ⟨RX8, "copyFrom", "(LStepSums$StepSet;)V"⟩
abbrev cX8_flip : ByteArray := prog_10_method_18_code
def yX8_flip : MethodName := ⟨RX8, "flip", "(I)Z"⟩
abbrev cX8_isStiff : ByteArray := prog_10_method_19_code
def yX8_isStiff : MethodName := ⟨RX8, "isStiff", "(I)Z"⟩
abbrev cX8_isSpecial : ByteArray := prog_10_method_20_code
def yX8_isSpecial : MethodName := ⟨RX8, "isSpecial", "(I)Z"⟩
abbrev cX8_isGenerator : ByteArray := prog_10_method_21_code
def yX8_isGenerator : MethodName := ⟨RX8, "isGenerator", "(I)Z"⟩
abbrev cX8_stiffAt : ByteArray := prog_10_method_22_code
def yX8_stiffAt : MethodName := ⟨RX8, "stiffAt", "(IZ)I"⟩
abbrev cX8_leastOfRest : ByteArray := prog_10_method_23_code
def yX8_leastOfRest : MethodName := ⟨RX8, "leastOfRest", "(II)I"⟩
abbrev cX8_childAt : ByteArray := prog_10_method_24_code
def yX8_childAt : MethodName := ⟨RX8, "childAt", "(I)I"⟩
abbrev cX8_grandchildren : ByteArray := prog_10_method_25_code
def yX8_grandchildren : MethodName := ⟨RX8, "grandchildren", "()I"⟩
abbrev cX8_childrenWithout : ByteArray := prog_10_method_26_code
def yX8_childrenWithout : MethodName := ⟨RX8, "childrenWithout", "(I)I"⟩
abbrev cX8_isMadeWithout : ByteArray := prog_10_method_27_code
def yX8_isMadeWithout : MethodName := ⟨RX8, "isMadeWithout", "(II)Z"⟩
abbrev cX8_commonGaps : ByteArray := prog_10_method_28_code
def yX8_commonGaps : MethodName := ⟨RX8, "commonGaps", "(LStepSums$StepSet;LStepSums$StepSet;)I"⟩
abbrev cX8_hasAllOf : ByteArray := prog_10_method_29_code
def yX8_hasAllOf : MethodName := ⟨RX8, "hasAllOf", "(LStepSums$StepSet;)Z"⟩
def RX9 : String := "StepSums$Tape"
def TX9 : u_T := fun k => match k with
  | 0 => ("StepSums$Tape", "bytes", "[B", true)
  | _ => ("StepSums$Tape", "size", "I", false)
def tyX9 : Nat → FieldType := fun k => match k with
  | 0 => .array .byte
  | _ => .int
theorem nmX9 : ∀ a, a < 2 → ∀ b, b < 2 → a ≠ b → (TX9 a).2.1 ≠ (TX9 b).2.1 := by decide +kernel
theorem tyX9_ok : ∀ k, k < 2 → parseFieldDescriptor (TX9 k).2.2.1 = some (tyX9 k) := by decide +kernel
abbrev cX9_init : ByteArray := prog_11_method_1_code
def yX9_init : MethodName := ⟨RX9, "<init>", "()V"⟩
abbrev cX9_size : ByteArray := prog_11_method_2_code
def yX9_size : MethodName := ⟨RX9, "size", "()I"⟩
abbrev cX9_room : ByteArray := prog_11_method_3_code
def yX9_room : MethodName := ⟨RX9, "room", "()I"⟩
abbrev cX9_putFour : ByteArray := prog_11_method_4_code
def yX9_putFour : MethodName := ⟨RX9, "putFour", "(I)V"⟩
abbrev cX9_shorten : ByteArray := prog_11_method_5_code
def yX9_shorten : MethodName := ⟨RX9, "shorten", "(I)V"⟩
abbrev cX9_byteAt : ByteArray := prog_11_method_6_code
def yX9_byteAt : MethodName := ⟨RX9, "byteAt", "(I)I"⟩
def RX10 : String := "StepSums$Walks"
def TX10 : u_T := fun k => match k with
  | 0 => ("StepSums$Walks", "numbers", "[[I", true)
  | 1 => ("StepSums$Walks", "takes", "[I", true)
  | 2 => ("StepSums$Walks", "found", "[[I", true)
  | 3 => ("StepSums$Walks", "near", "[I", true)
  | 4 => ("StepSums$Walks", "fewest", "[I", true)
  | 5 => ("StepSums$Walks", "grabbed", "[I", true)
  | 6 => ("StepSums$Walks", "left", "[I", true)
  | 7 => ("StepSums$Walks", "reached", "[Z", false)
  | _ => ("StepSums$Walks", "reachedNext", "[Z", false)
def tyX10 : Nat → FieldType := fun k => match k with
  | 0 => .array (.array .int)
  | 1 => .array .int
  | 2 => .array (.array .int)
  | 3 => .array .int
  | 4 => .array .int
  | 5 => .array .int
  | 6 => .array .int
  | 7 => .array .boolean
  | _ => .array .boolean
theorem nmX10 : ∀ a, a < 9 → ∀ b, b < 9 → a ≠ b → (TX10 a).2.1 ≠ (TX10 b).2.1 := by decide +kernel
theorem tyX10_ok : ∀ k, k < 9 → parseFieldDescriptor (TX10 k).2.2.1 = some (tyX10 k) := by decide +kernel
abbrev cX10_init : ByteArray := prog_12_method_1_code
def yX10_init : MethodName := ⟨RX10, "<init>", "()V"⟩
abbrev cX10_number : ByteArray := prog_12_method_2_code
def yX10_number : MethodName := ⟨RX10, "number", "(LStepSums$StepSet;I)I"⟩
abbrev cX10_taken : ByteArray := prog_12_method_3_code
def yX10_taken : MethodName := ⟨RX10, "taken", "(LStepSums$StepSet;III)I"⟩
abbrev cX10_goAlong : ByteArray := prog_12_method_4_code
def yX10_goAlong : MethodName := ⟨RX10, "goAlong", "(LStepSums$StepSet;II)V"⟩
abbrev cX10_times : ByteArray := prog_12_method_5_code
def yX10_times : MethodName := ⟨RX10, "times", "(II)I"⟩
abbrev cX10_measure : ByteArray := prog_12_method_6_code
def yX10_measure : MethodName := ⟨RX10, "measure", "(LStepSums$StepSet;II)I"⟩
abbrev cX10_startReach : ByteArray := prog_12_method_7_code
def yX10_startReach : MethodName := ⟨RX10, "startReach", "()V"⟩
abbrev cX10_reachOneMore : ByteArray := prog_12_method_8_code
def yX10_reachOneMore : MethodName := ⟨RX10, "reachOneMore", "(LStepSums$StepSet;I)V"⟩
abbrev cX10_longestNeeded : ByteArray := prog_12_method_9_code
def yX10_longestNeeded : MethodName := ⟨RX10, "longestNeeded", "(LStepSums$StepSet;I)I"⟩
abbrev cX10_nearest : ByteArray := prog_12_method_10_code
def yX10_nearest : MethodName := ⟨RX10, "nearest", "(LStepSums$StepSet;II)I"⟩
abbrev cX10_apart : ByteArray := prog_12_method_11_code
def yX10_apart : MethodName := ⟨RX10, "apart", "([I[II)I"⟩
abbrev cX10_grab : ByteArray := prog_12_method_12_code
def yX10_grab : MethodName := ⟨RX10, "grab", "(LStepSums$StepSet;II)I"⟩
abbrev cX10_grabAll : ByteArray := prog_12_method_13_code
def yX10_grabAll : MethodName := ⟨RX10, "grabAll", "(LStepSums$StepSet;I)V"⟩
abbrev cX10_greatestWithin : ByteArray := prog_12_method_14_code
def yX10_greatestWithin : MethodName := ⟨RX10, "greatestWithin", "(LStepSums$StepSet;I)I"⟩
abbrev cX10_firstBlunder : ByteArray := prog_12_method_15_code
def yX10_firstBlunder : MethodName := ⟨RX10, "firstBlunder", "(LStepSums$StepSet;)I"⟩
abbrev cX10_fewestFor : ByteArray := prog_12_method_16_code
def yX10_fewestFor : MethodName := ⟨RX10, "fewestFor", "(LStepSums$StepSet;I)I"⟩
def RX11 : String := "StepSums"
def TX11 : u_T := fun k => match k with
  | 0 => ("StepSums", "tape", "LStepSums$Tape;", true)
  | 1 => ("StepSums", "reader", "LStepSums$Reader;", true)
  | 2 => ("StepSums", "maker", "LStepSums$Maker;", true)
  | 3 => ("StepSums", "deeds", "LStepSums$Deeds;", true)
  | 4 => ("StepSums", "slots", "[LStepSums$Hall;", true)
  | 5 => ("StepSums", "held", "[Z", true)
  | 6 => ("StepSums", "walks", "LStepSums$Walks;", true)
  | 7 => ("StepSums", "knots", "LStepSums$Knots;", true)
  | 8 => ("StepSums", "small", "LStepSums$Small;", true)
  | 9 => ("StepSums", "cover", "LStepSums$Cover;", true)
  | 10 => ("StepSums", "hall", "LStepSums$Hall;", false)
  | 11 => ("StepSums", "spare", "LStepSums$Hall;", false)
  | _ => ("StepSums", "faultPlace", "I", false)
def tyX11 : Nat → FieldType := fun k => match k with
  | 0 => .object "StepSums$Tape"
  | 1 => .object "StepSums$Reader"
  | 2 => .object "StepSums$Maker"
  | 3 => .object "StepSums$Deeds"
  | 4 => .array (.object "StepSums$Hall")
  | 5 => .array .boolean
  | 6 => .object "StepSums$Walks"
  | 7 => .object "StepSums$Knots"
  | 8 => .object "StepSums$Small"
  | 9 => .object "StepSums$Cover"
  | 10 => .object "StepSums$Hall"
  | 11 => .object "StepSums$Hall"
  | _ => .int
theorem nmX11 : ∀ a, a < 13 → ∀ b, b < 13 → a ≠ b → (TX11 a).2.1 ≠ (TX11 b).2.1 := by decide +kernel
theorem tyX11_ok : ∀ k, k < 13 → parseFieldDescriptor (TX11 k).2.2.1 = some (tyX11 k) := by decide +kernel
abbrev cX11_init : ByteArray := prog_1_method_1_code
def yX11_init : MethodName := ⟨RX11, "<init>", "()V"⟩
abbrev cX11_feed : ByteArray := prog_1_method_2_code
def yX11_feed : MethodName := ⟨RX11, "feed", "(IIIII)I"⟩
abbrev cX11_back : ByteArray := prog_1_method_3_code
def yX11_back : MethodName := ⟨RX11, "back", "(I)I"⟩
abbrev cX11_read : ByteArray := prog_1_method_4_code
def yX11_read : MethodName := ⟨RX11, "read", "()I"⟩
abbrev cX11_takeOverSpare : ByteArray := prog_1_method_5_code
def yX11_takeOverSpare : MethodName := ⟨RX11, "takeOverSpare", "()V"⟩
abbrev cX11_place : ByteArray := prog_1_method_6_code
def yX11_place : MethodName := ⟨RX11, "place", "()I"⟩
abbrev cX11_add : ByteArray := prog_1_method_7_code
def yX11_add : MethodName := ⟨RX11, "add", "(II)Z"⟩
abbrev cX11_drop : ByteArray := prog_1_method_8_code
def yX11_drop : MethodName := ⟨RX11, "drop", "(II)Z"⟩
abbrev cX11_doByHand : ByteArray := prog_1_method_9_code
def yX11_doByHand : MethodName := ⟨RX11, "doByHand", "(LStepSums$StepSet;II)Z"⟩
abbrev cX11_undo : ByteArray := prog_1_method_10_code
def yX11_undo : MethodName := ⟨RX11, "undo", "()Z"⟩
abbrev cX11_has : ByteArray := prog_1_method_11_code
def yX11_has : MethodName := ⟨RX11, "has", "(II)I"⟩
abbrev cX11_gap : ByteArray := prog_1_method_12_code
def yX11_gap : MethodName := ⟨RX11, "gap", "(II)I"⟩
abbrev cX11_generator : ByteArray := prog_1_method_13_code
def yX11_generator : MethodName := ⟨RX11, "generator", "(II)I"⟩
abbrev cX11_pick : ByteArray := prog_1_method_14_code
def yX11_pick : MethodName := ⟨RX11, "pick", "([III)I"⟩
abbrev cX11_asBit : ByteArray := prog_1_method_15_code
def yX11_asBit : MethodName := ⟨RX11, "asBit", "(Z)I"⟩
abbrev cX11_apery : ByteArray := prog_1_method_16_code
def yX11_apery : MethodName := ⟨RX11, "apery", "(III)I"⟩
abbrev cX11_stiff : ByteArray := prog_1_method_17_code
def yX11_stiff : MethodName := ⟨RX11, "stiff", "(II)I"⟩
abbrev cX11_special : ByteArray := prog_1_method_18_code
def yX11_special : MethodName := ⟨RX11, "special", "(II)I"⟩
abbrev cX11_about : ByteArray := prog_1_method_19_code
def yX11_about : MethodName := ⟨RX11, "about", "(II)I"⟩
abbrev cX11_ways : ByteArray := prog_1_method_20_code
def yX11_ways : MethodName := ⟨RX11, "ways", "(II)I"⟩
abbrev cX11_isSum : ByteArray := prog_1_method_21_code
def yX11_isSum : MethodName := ⟨RX11, "isSum", "(I)Z"⟩
abbrev cX11_way : ByteArray := prog_1_method_22_code
def yX11_way : MethodName := ⟨RX11, "way", "(IIII)I"⟩
abbrev cX11_length : ByteArray := prog_1_method_23_code
def yX11_length : MethodName := ⟨RX11, "length", "(III)I"⟩
abbrev cX11_parts : ByteArray := prog_1_method_24_code
def yX11_parts : MethodName := ⟨RX11, "parts", "(II)I"⟩
abbrev cX11_tie : ByteArray := prog_1_method_25_code
def yX11_tie : MethodName := ⟨RX11, "tie", "(II)I"⟩
abbrev cX11_chain : ByteArray := prog_1_method_26_code
def yX11_chain : MethodName := ⟨RX11, "chain", "(II)I"⟩
abbrev cX11_greedy : ByteArray := prog_1_method_27_code
def yX11_greedy : MethodName := ⟨RX11, "greedy", "(III)I"⟩
abbrev cX11_blunder : ByteArray := prog_1_method_28_code
def yX11_blunder : MethodName := ⟨RX11, "blunder", "(I)I"⟩
abbrev cX11_kunz : ByteArray := prog_1_method_29_code
def yX11_kunz : MethodName := ⟨RX11, "kunz", "(II)I"⟩
abbrev cX11_child : ByteArray := prog_1_method_30_code
def yX11_child : MethodName := ⟨RX11, "child", "(II)I"⟩
abbrev cX11_below : ByteArray := prog_1_method_31_code
def yX11_below : MethodName := ⟨RX11, "below", "(II)I"⟩
abbrev cX11_meeting : ByteArray := prog_1_method_32_code
def yX11_meeting : MethodName := ⟨RX11, "meeting", "(III)I"⟩
abbrev cX11_list : ByteArray := prog_1_method_33_code
def yX11_list : MethodName := ⟨RX11, "list", "(III)I"⟩
abbrev cX11_listed : ByteArray := prog_1_method_34_code
def yX11_listed : MethodName := ⟨RX11, "listed", "(I)I"⟩
abbrev cX11_above : ByteArray := prog_1_method_35_code
def yX11_above : MethodName := ⟨RX11, "above", "(I)I"⟩
abbrev cX11_piece : ByteArray := prog_1_method_36_code
def yX11_piece : MethodName := ⟨RX11, "piece", "(II)I"⟩
abbrev cX11_good : ByteArray := prog_1_method_37_code
def yX11_good : MethodName := ⟨RX11, "good", "(II)I"⟩
abbrev cX11_same : ByteArray := prog_1_method_38_code
def yX11_same : MethodName := ⟨RX11, "same", "(II)I"⟩
abbrev cX11_hold : ByteArray := prog_1_method_39_code
def yX11_hold : MethodName := ⟨RX11, "hold", "(I)Z"⟩
abbrev cX11_restore : ByteArray := prog_1_method_40_code
def yX11_restore : MethodName := ⟨RX11, "restore", "(I)Z"⟩
abbrev cX11_count : ByteArray := prog_1_method_41_code
def yX11_count : MethodName := ⟨RX11, "count", "(I)I"⟩
abbrev cX11_slotsHeld : ByteArray := prog_1_method_42_code
def yX11_slotsHeld : MethodName := ⟨RX11, "slotsHeld", "()I"⟩
def RX12 : String := "StepSumsModel"
def TX12 : u_T := fun k => match k with
  | 0 => ("StepSumsModel", "thrown", "I", false)
  | 1 => ("StepSumsModel", "tape", "[B", true)
  | 2 => ("StepSumsModel", "taped", "I", false)
  | 3 => ("StepSumsModel", "text", "[B", true)
  | 4 => ("StepSumsModel", "size", "I", false)
  | 5 => ("StepSumsModel", "tKind", "[I", true)
  | 6 => ("StepSumsModel", "tPlace", "[I", true)
  | 7 => ("StepSumsModel", "tValue", "[I", true)
  | 8 => ("StepSumsModel", "tName", "[J", true)
  | 9 => ("StepSumsModel", "keys", "[J", true)
  | 10 => ("StepSumsModel", "tokens", "I", false)
  | 11 => ("StepSumsModel", "t", "I", false)
  | 12 => ("StepSumsModel", "fault", "I", false)
  | 13 => ("StepSumsModel", "faultPlace", "I", false)
  | 14 => ("StepSumsModel", "worst", "I", false)
  | 15 => ("StepSumsModel", "worstPlace", "I", false)
  | 16 => ("StepSumsModel", "place", "I", false)
  | 17 => ("StepSumsModel", "sets", "I", false)
  | 18 => ("StepSumsModel", "newSets", "I", false)
  | 19 => ("StepSumsModel", "names", "[J", true)
  | 20 => ("StepSumsModel", "now", "[J", true)
  | 21 => ("StepSumsModel", "fresh", "[J", true)
  | 22 => ("StepSumsModel", "gens", "[I", true)
  | 23 => ("StepSumsModel", "genMany", "I", false)
  | 24 => ("StepSumsModel", "earlier", "[J", true)
  | 25 => ("StepSumsModel", "earliest", "I", false)
  | 26 => ("StepSumsModel", "undos", "I", false)
  | 27 => ("StepSumsModel", "held", "[J", true)
  | 28 => ("StepSumsModel", "isHeld", "[Z", true)
  | 29 => ("StepSumsModel", "waysBy", "[I", true)
  | 30 => ("StepSumsModel", "lengths", "[J", true)
  | 31 => ("StepSumsModel", "wayRow", "[I", true)
  | 32 => ("StepSumsModel", "partOf", "[I", true)
  | 33 => ("StepSumsModel", "nearest", "[I", true)
  | 34 => ("StepSumsModel", "left", "I", false)
  | 35 => ("StepSumsModel", "upRow", "[J", true)
  | 36 => ("StepSumsModel", "listOf", "[I", true)
  | 37 => ("StepSumsModel", "listMany", "I", false)
  | 38 => ("StepSumsModel", "gaps", "[I", true)
  | 39 => ("StepSumsModel", "gapMany", "I", false)
  | 40 => ("StepSumsModel", "base", "I", false)
  | 41 => ("StepSumsModel", "isAbove", "[Z", true)
  | 42 => ("StepSumsModel", "doesWin", "[Z", true)
  | 43 => ("StepSumsModel", "lones", "[I", true)
  | 44 => ("StepSumsModel", "loneMany", "I", false)
  | _ => ("StepSumsModel", "picked", "[I", true)
def tyX12 : Nat → FieldType := fun k => match k with
  | 0 => .int
  | 1 => .array .byte
  | 2 => .int
  | 3 => .array .byte
  | 4 => .int
  | 5 => .array .int
  | 6 => .array .int
  | 7 => .array .int
  | 8 => .array .long
  | 9 => .array .long
  | 10 => .int
  | 11 => .int
  | 12 => .int
  | 13 => .int
  | 14 => .int
  | 15 => .int
  | 16 => .int
  | 17 => .int
  | 18 => .int
  | 19 => .array .long
  | 20 => .array .long
  | 21 => .array .long
  | 22 => .array .int
  | 23 => .int
  | 24 => .array .long
  | 25 => .int
  | 26 => .int
  | 27 => .array .long
  | 28 => .array .boolean
  | 29 => .array .int
  | 30 => .array .long
  | 31 => .array .int
  | 32 => .array .int
  | 33 => .array .int
  | 34 => .int
  | 35 => .array .long
  | 36 => .array .int
  | 37 => .int
  | 38 => .array .int
  | 39 => .int
  | 40 => .int
  | 41 => .array .boolean
  | 42 => .array .boolean
  | 43 => .array .int
  | 44 => .int
  | _ => .array .int
theorem nmX12 : ∀ a, a < 46 → ∀ b, b < 46 → a ≠ b → (TX12 a).2.1 ≠ (TX12 b).2.1 := by decide +kernel
theorem tyX12_ok : ∀ k, k < 46 → parseFieldDescriptor (TX12 k).2.2.1 = some (tyX12 k) := by decide +kernel
abbrev cX12_init : ByteArray := prog_14_method_2_code
def yX12_init : MethodName := ⟨RX12, "<init>", "()V"⟩
abbrev cX12_feed : ByteArray := prog_14_method_3_code
def yX12_feed : MethodName := ⟨RX12, "feed", "(IIIII)I"⟩
abbrev cX12_lays : ByteArray := prog_14_method_4_code
def yX12_lays : MethodName := ⟨RX12, "lays", "(I)V"⟩
abbrev cX12_back : ByteArray := prog_14_method_5_code
def yX12_back : MethodName := ⟨RX12, "back", "(I)I"⟩
abbrev cX12_byteAt : ByteArray := prog_14_method_6_code
def yX12_byteAt : MethodName := ⟨RX12, "byteAt", "(I)I"⟩
abbrev cX12_isDigit : ByteArray := prog_14_method_7_code
def yX12_isDigit : MethodName := ⟨RX12, "isDigit", "(I)Z"⟩
abbrev cX12_isLetter : ByteArray := prog_14_method_8_code
def yX12_isLetter : MethodName := ⟨RX12, "isLetter", "(I)Z"⟩
abbrev cX12_appends : ByteArray := prog_14_method_9_code
def yX12_appends : MethodName := ⟨RX12, "appends", "(JI)J"⟩
abbrev cX12_letters : ByteArray := prog_14_method_10_code
def yX12_letters : MethodName := ⟨RX12, "letters", "(IIIIIII)J"⟩
abbrev cX12_token : ByteArray := prog_14_method_11_code
def yX12_token : MethodName := ⟨RX12, "token", "(IIIJ)V"⟩
abbrev cX12_cutsText : ByteArray := prog_14_method_12_code
def yX12_cutsText : MethodName := ⟨RX12, "cutsText", "()V"⟩
abbrev cX12_sign : ByteArray := prog_14_method_13_code
def yX12_sign : MethodName := ⟨RX12, "sign", "(III)I"⟩
abbrev cX12_is : ByteArray := prog_14_method_14_code
def yX12_is : MethodName := ⟨RX12, "is", "(I)Z"⟩
abbrev cX12_fail : ByteArray := prog_14_method_15_code
def yX12_fail : MethodName := ⟨RX12, "fail", "(I)V"⟩
abbrev cX12_wrong : ByteArray := prog_14_method_16_code
def yX12_wrong : MethodName := ⟨RX12, "wrong", "(II)V"⟩
abbrev cX12_passes : ByteArray := prog_14_method_17_code
def yX12_passes : MethodName := ⟨RX12, "passes", "()V"⟩
abbrev cX12_must : ByteArray := prog_14_method_18_code
def yX12_must : MethodName := ⟨RX12, "must", "(I)V"⟩
abbrev cX12_read : ByteArray := prog_14_method_19_code
def yX12_read : MethodName := ⟨RX12, "read", "()I"⟩
abbrev cX12_place : ByteArray := prog_14_method_20_code
def yX12_place : MethodName := ⟨RX12, "place", "()I"⟩
abbrev cX12_line : ByteArray := prog_14_method_21_code
def yX12_line : MethodName := ⟨RX12, "line", "()V"⟩
abbrev cX12_means : ByteArray := prog_14_method_22_code
def yX12_means : MethodName := ⟨RX12, "means", "()V"⟩
abbrev cX12_named : ByteArray := prog_14_method_23_code
def yX12_named : MethodName := ⟨RX12, "named", "(II)I"⟩
abbrev cX12_meansOne : ByteArray := prog_14_method_24_code
def yX12_meansOne : MethodName := ⟨RX12, "meansOne", "(II)V"⟩
abbrev cX12_meansOf : ByteArray := prog_14_method_25_code
def yX12_meansOf : MethodName := ⟨RX12, "meansOf", "(II)V"⟩
abbrev cX12_divisor : ByteArray := prog_14_method_26_code
def yX12_divisor : MethodName := ⟨RX12, "divisor", "(II)I"⟩
abbrev cX12_closes : ByteArray := prog_14_method_27_code
def yX12_closes : MethodName := ⟨RX12, "closes", "(I)V"⟩
abbrev cX12_in : ByteArray := prog_14_method_28_code
def yX12_in : MethodName := ⟨RX12, "in", "(III)Z"⟩
abbrev cX12_isOf : ByteArray := prog_14_method_29_code
def yX12_isOf : MethodName := ⟨RX12, "isOf", "([JII)Z"⟩
abbrev cX12_puts : ByteArray := prog_14_method_30_code
def yX12_puts : MethodName := ⟨RX12, "puts", "([JII)V"⟩
abbrev cX12_takes : ByteArray := prog_14_method_31_code
def yX12_takes : MethodName := ⟨RX12, "takes", "([JII)V"⟩
abbrev cX12_conductorOf : ByteArray := prog_14_method_32_code
def yX12_conductorOf : MethodName := ⟨RX12, "conductorOf", "([JI)I"⟩
abbrev cX12_genusOf : ByteArray := prog_14_method_33_code
def yX12_genusOf : MethodName := ⟨RX12, "genusOf", "([JI)I"⟩
abbrev cX12_isGenerator : ByteArray := prog_14_method_34_code
def yX12_isGenerator : MethodName := ⟨RX12, "isGenerator", "([JII)Z"⟩
abbrev cX12_generatorsOf : ByteArray := prog_14_method_35_code
def yX12_generatorsOf : MethodName := ⟨RX12, "generatorsOf", "([JI)I"⟩
abbrev cX12_isStiff : ByteArray := prog_14_method_36_code
def yX12_isStiff : MethodName := ⟨RX12, "isStiff", "([JII)Z"⟩
abbrev cX12_isSpecial : ByteArray := prog_14_method_37_code
def yX12_isSpecial : MethodName := ⟨RX12, "isSpecial", "([JII)Z"⟩
abbrev cX12_sortOf : ByteArray := prog_14_method_38_code
def yX12_sortOf : MethodName := ⟨RX12, "sortOf", "([JI)I"⟩
abbrev cX12_isSet : ByteArray := prog_14_method_39_code
def yX12_isSet : MethodName := ⟨RX12, "isSet", "(I)Z"⟩
abbrev cX12_copies : ByteArray := prog_14_method_40_code
def yX12_copies : MethodName := ⟨RX12, "copies", "(I)V"⟩
abbrev cX12_becomes : ByteArray := prog_14_method_41_code
def yX12_becomes : MethodName := ⟨RX12, "becomes", "(I)Z"⟩
abbrev cX12_add : ByteArray := prog_14_method_42_code
def yX12_add : MethodName := ⟨RX12, "add", "(II)Z"⟩
abbrev cX12_drop : ByteArray := prog_14_method_43_code
def yX12_drop : MethodName := ⟨RX12, "drop", "(II)Z"⟩
abbrev cX12_undo : ByteArray := prog_14_method_44_code
def yX12_undo : MethodName := ⟨RX12, "undo", "()Z"⟩
abbrev cX12_hold : ByteArray := prog_14_method_45_code
def yX12_hold : MethodName := ⟨RX12, "hold", "(I)Z"⟩
abbrev cX12_restore : ByteArray := prog_14_method_46_code
def yX12_restore : MethodName := ⟨RX12, "restore", "(I)Z"⟩
abbrev cX12_has : ByteArray := prog_14_method_47_code
def yX12_has : MethodName := ⟨RX12, "has", "(II)I"⟩
abbrev cX12_ofGaps : ByteArray := prog_14_method_48_code
def yX12_ofGaps : MethodName := ⟨RX12, "ofGaps", "(III)I"⟩
abbrev cX12_gap : ByteArray := prog_14_method_49_code
def yX12_gap : MethodName := ⟨RX12, "gap", "(II)I"⟩
abbrev cX12_stiff : ByteArray := prog_14_method_50_code
def yX12_stiff : MethodName := ⟨RX12, "stiff", "(II)I"⟩
abbrev cX12_special : ByteArray := prog_14_method_51_code
def yX12_special : MethodName := ⟨RX12, "special", "(II)I"⟩
abbrev cX12_generator : ByteArray := prog_14_method_52_code
def yX12_generator : MethodName := ⟨RX12, "generator", "(II)I"⟩
abbrev cX12_aperyOf : ByteArray := prog_14_method_53_code
def yX12_aperyOf : MethodName := ⟨RX12, "aperyOf", "(III)I"⟩
abbrev cX12_apery : ByteArray := prog_14_method_54_code
def yX12_apery : MethodName := ⟨RX12, "apery", "(III)I"⟩
abbrev cX12_leastOf : ByteArray := prog_14_method_55_code
def yX12_leastOf : MethodName := ⟨RX12, "leastOf", "(I)I"⟩
abbrev cX12_kunz : ByteArray := prog_14_method_56_code
def yX12_kunz : MethodName := ⟨RX12, "kunz", "(II)I"⟩
abbrev cX12_belowOf : ByteArray := prog_14_method_57_code
def yX12_belowOf : MethodName := ⟨RX12, "belowOf", "([JI)I"⟩
abbrev cX12_weightOf : ByteArray := prog_14_method_58_code
def yX12_weightOf : MethodName := ⟨RX12, "weightOf", "(I)I"⟩
abbrev cX12_about : ByteArray := prog_14_method_59_code
def yX12_about : MethodName := ⟨RX12, "about", "(II)I"⟩
abbrev cX12_laysWays : ByteArray := prog_14_method_60_code
def yX12_laysWays : MethodName := ⟨RX12, "laysWays", "(I)V"⟩
abbrev cX12_ways : ByteArray := prog_14_method_61_code
def yX12_ways : MethodName := ⟨RX12, "ways", "(II)I"⟩
abbrev cX12_findsWay : ByteArray := prog_14_method_62_code
def yX12_findsWay : MethodName := ⟨RX12, "findsWay", "(III)V"⟩
abbrev cX12_way : ByteArray := prog_14_method_63_code
def yX12_way : MethodName := ⟨RX12, "way", "(IIII)I"⟩
abbrev cX12_laysLengths : ByteArray := prog_14_method_64_code
def yX12_laysLengths : MethodName := ⟨RX12, "laysLengths", "(I)V"⟩
abbrev cX12_isLength : ByteArray := prog_14_method_65_code
def yX12_isLength : MethodName := ⟨RX12, "isLength", "(II)Z"⟩
abbrev cX12_leastLength : ByteArray := prog_14_method_66_code
def yX12_leastLength : MethodName := ⟨RX12, "leastLength", "(I)I"⟩
abbrev cX12_length : ByteArray := prog_14_method_67_code
def yX12_length : MethodName := ⟨RX12, "length", "(III)I"⟩
abbrev cX12_partsOf : ByteArray := prog_14_method_68_code
def yX12_partsOf : MethodName := ⟨RX12, "partsOf", "(II)I"⟩
abbrev cX12_parts : ByteArray := prog_14_method_69_code
def yX12_parts : MethodName := ⟨RX12, "parts", "(II)I"⟩
abbrev cX12_tie : ByteArray := prog_14_method_70_code
def yX12_tie : MethodName := ⟨RX12, "tie", "(II)I"⟩
abbrev cX12_rulesOf : ByteArray := prog_14_method_71_code
def yX12_rulesOf : MethodName := ⟨RX12, "rulesOf", "(I)I"⟩
abbrev cX12_apart : ByteArray := prog_14_method_72_code
def yX12_apart : MethodName := ⟨RX12, "apart", "(II)I"⟩
abbrev cX12_chain : ByteArray := prog_14_method_73_code
def yX12_chain : MethodName := ⟨RX12, "chain", "(II)I"⟩
abbrev cX12_takesOff : ByteArray := prog_14_method_74_code
def yX12_takesOff : MethodName := ⟨RX12, "takesOff", "(I)I"⟩
abbrev cX12_greedy : ByteArray := prog_14_method_75_code
def yX12_greedy : MethodName := ⟨RX12, "greedy", "(III)I"⟩
abbrev cX12_blunder : ByteArray := prog_14_method_76_code
def yX12_blunder : MethodName := ⟨RX12, "blunder", "(I)I"⟩
abbrev cX12_childrenOf : ByteArray := prog_14_method_77_code
def yX12_childrenOf : MethodName := ⟨RX12, "childrenOf", "(II)I"⟩
abbrev cX12_child : ByteArray := prog_14_method_78_code
def yX12_child : MethodName := ⟨RX12, "child", "(II)I"⟩
abbrev cX12_childrenWithout : ByteArray := prog_14_method_79_code
def yX12_childrenWithout : MethodName := ⟨RX12, "childrenWithout", "(II)I"⟩
abbrev cX12_below : ByteArray := prog_14_method_80_code
def yX12_below : MethodName := ⟨RX12, "below", "(II)I"⟩
abbrev cX12_meeting : ByteArray := prog_14_method_81_code
def yX12_meeting : MethodName := ⟨RX12, "meeting", "(III)I"⟩
abbrev cX12_areAlike : ByteArray := prog_14_method_82_code
def yX12_areAlike : MethodName := ⟨RX12, "areAlike", "([J)Z"⟩
abbrev cX12_isGapOf : ByteArray := prog_14_method_83_code
def yX12_isGapOf : MethodName := ⟨RX12, "isGapOf", "(II)Z"⟩
abbrev cX12_isClosed : ByteArray := prog_14_method_84_code
def yX12_isClosed : MethodName := ⟨RX12, "isClosed", "(I)Z"⟩
abbrev cX12_bitsOf : ByteArray := prog_14_method_85_code
def yX12_bitsOf : MethodName := ⟨RX12, "bitsOf", "(I)I"⟩
abbrev cX12_laysList : ByteArray := prog_14_method_86_code
def yX12_laysList : MethodName := ⟨RX12, "laysList", "()V"⟩
abbrev cX12_inList : ByteArray := prog_14_method_87_code
def yX12_inList : MethodName := ⟨RX12, "inList", "(II)I"⟩
abbrev cX12_list : ByteArray := prog_14_method_88_code
def yX12_list : MethodName := ⟨RX12, "list", "(III)I"⟩
abbrev cX12_listed : ByteArray := prog_14_method_89_code
def yX12_listed : MethodName := ⟨RX12, "listed", "(I)I"⟩
abbrev cX12_laysGaps : ByteArray := prog_14_method_90_code
def yX12_laysGaps : MethodName := ⟨RX12, "laysGaps", "(I)V"⟩
abbrev cX12_isWith : ByteArray := prog_14_method_91_code
def yX12_isWith : MethodName := ⟨RX12, "isWith", "(II)Z"⟩
abbrev cX12_laysAbove : ByteArray := prog_14_method_92_code
def yX12_laysAbove : MethodName := ⟨RX12, "laysAbove", "(I)V"⟩
abbrev cX12_above : ByteArray := prog_14_method_93_code
def yX12_above : MethodName := ⟨RX12, "above", "(I)I"⟩
abbrev cX12_isLone : ByteArray := prog_14_method_94_code
def yX12_isLone : MethodName := ⟨RX12, "isLone", "(I)Z"⟩
abbrev cX12_nextPick : ByteArray := prog_14_method_95_code
def yX12_nextPick : MethodName := ⟨RX12, "nextPick", "(I)Z"⟩
abbrev cX12_areEnough : ByteArray := prog_14_method_96_code
def yX12_areEnough : MethodName := ⟨RX12, "areEnough", "(I)Z"⟩
abbrev cX12_piece : ByteArray := prog_14_method_97_code
def yX12_piece : MethodName := ⟨RX12, "piece", "(II)I"⟩
abbrev cX12_namedWith : ByteArray := prog_14_method_98_code
def yX12_namedWith : MethodName := ⟨RX12, "namedWith", "(II)I"⟩
abbrev cX12_good : ByteArray := prog_14_method_99_code
def yX12_good : MethodName := ⟨RX12, "good", "(II)I"⟩
abbrev cX12_same : ByteArray := prog_14_method_100_code
def yX12_same : MethodName := ⟨RX12, "same", "(II)I"⟩
abbrev cX12_count : ByteArray := prog_14_method_101_code
def yX12_count : MethodName := ⟨RX12, "count", "(I)I"⟩
def RJ6 : String := "java/lang/Integer"
abbrev cJ6_numberOfTrailingZeros_0f7a4 : ByteArray := prog_15_method_48_code
def yJ6_numberOfTrailingZeros_0f7a4 : MethodName := ⟨RJ6, "numberOfTrailingZeros", "(I)I"⟩
abbrev cJ6_bitCount_0f7a4 : ByteArray := prog_15_method_49_code
def yJ6_bitCount_0f7a4 : MethodName := ⟨RJ6, "bitCount", "(I)I"⟩
def RJ9 : String := "java/lang/Math"
abbrev cJ9_max_7cf53 : ByteArray := prog_16_method_65_code
def yJ9_max_7cf53 : MethodName := ⟨RJ9, "max", "(II)I"⟩
abbrev cJ9_min_7cf53 : ByteArray := prog_16_method_69_code
def yJ9_min_7cf53 : MethodName := ⟨RJ9, "min", "(II)I"⟩
def RJ10 : String := "java/lang/System"
abbrev vwCl : List vw_C := [(RX0, TX0, 8), (RX1, TX1, 4), (RX2, TX2, 2), (RX3, TX3, 5), (RX4, TX4, 8), (RX5, TX5, 2), (RX6, TX6, 10), (RX7, TX7, 3), (RX8, TX8, 6), (RX9, TX9, 2), (RX10, TX10, 9), (RX11, TX11, 13), (RX12, TX12, 46)]
