section
-- ===== PART A: goes FIRST, ahead of the names: the tables' words, and 'selects' of the private methods out of them =====
/-- a private method of a class that the tables say can be made, by its rows of tables_1 -/
def lw_okq (q : MethodName × Nat) : Prop := (q.1.cls ≠ "java/lang/invoke/MethodHandle" ∧ q.1.cls ≠ "java/lang/invoke/VarHandle") ∧ Cond.instantiable q.1.cls q.2 ∈ tables_1 ∧ Cond.privateMethod q.1 ∈ tables_1 ∧ Cond.instanceMethod q.1 ∈ tables_1
theorem lw_p0 : lw_okq (⟨"TenseLines$Text", "passes", "(ILTenseLines$Telling;)Z"⟩, 8) := ⟨⟨by decide +kernel, by decide +kernel⟩, List.mem_of_getElem? (i := 38) (by decide +kernel), List.mem_of_getElem? (i := 250) (by decide +kernel), List.mem_of_getElem? (i := 251) (by decide +kernel)⟩
theorem lw_p1 : lw_okq (⟨"TenseLines$Text", "beginsItem", "(ILTenseLines$Telling;)Z"⟩, 8) := ⟨⟨by decide +kernel, by decide +kernel⟩, List.mem_of_getElem? (i := 38) (by decide +kernel), List.mem_of_getElem? (i := 254) (by decide +kernel), List.mem_of_getElem? (i := 255) (by decide +kernel)⟩
theorem lw_p2 : lw_okq (⟨"TenseLines$Text", "beginsSaying", "(ILTenseLines$Telling;)Z"⟩, 8) := ⟨⟨by decide +kernel, by decide +kernel⟩, List.mem_of_getElem? (i := 38) (by decide +kernel), List.mem_of_getElem? (i := 258) (by decide +kernel), List.mem_of_getElem? (i := 259) (by decide +kernel)⟩
theorem lw_p3 : lw_okq (⟨"TenseLines$Text", "givesTense", "(I)Z"⟩, 8) := ⟨⟨by decide +kernel, by decide +kernel⟩, List.mem_of_getElem? (i := 38) (by decide +kernel), List.mem_of_getElem? (i := 281) (by decide +kernel), List.mem_of_getElem? (i := 282) (by decide +kernel)⟩
theorem lw_p4 : lw_okq (⟨"TenseLines$Text", "givesSign", "(I)Z"⟩, 8) := ⟨⟨by decide +kernel, by decide +kernel⟩, List.mem_of_getElem? (i := 38) (by decide +kernel), List.mem_of_getElem? (i := 373) (by decide +kernel), List.mem_of_getElem? (i := 374) (by decide +kernel)⟩
theorem lw_p5 : lw_okq (⟨"TenseLines$Text", "givesSecond", "(ILTenseLines$Telling;)Z"⟩, 8) := ⟨⟨by decide +kernel, by decide +kernel⟩, List.mem_of_getElem? (i := 38) (by decide +kernel), List.mem_of_getElem? (i := 378) (by decide +kernel), List.mem_of_getElem? (i := 379) (by decide +kernel)⟩
theorem lw_p6 : lw_okq (⟨"TenseLines$Text", "endsItem", "(ILTenseLines$Telling;)Z"⟩, 8) := ⟨⟨by decide +kernel, by decide +kernel⟩, List.mem_of_getElem? (i := 38) (by decide +kernel), List.mem_of_getElem? (i := 382) (by decide +kernel), List.mem_of_getElem? (i := 383) (by decide +kernel)⟩
theorem lw_p7 : lw_okq (⟨"TenseLines$Telling", "addStatement", "(IIII)V"⟩, 1) := ⟨⟨by decide +kernel, by decide +kernel⟩, List.mem_of_getElem? (i := 27) (by decide +kernel), List.mem_of_getElem? (i := 398) (by decide +kernel), List.mem_of_getElem? (i := 399) (by decide +kernel)⟩
theorem lw_p8 : lw_okq (⟨"TenseLines", "isClause", "(I)Z"⟩, 9) := ⟨⟨by decide +kernel, by decide +kernel⟩, List.mem_of_getElem? (i := 19) (by decide +kernel), List.mem_of_getElem? (i := 431) (by decide +kernel), List.mem_of_getElem? (i := 432) (by decide +kernel)⟩
theorem lw_p9 : lw_okq (⟨"TenseLines$Telling", "clauseCell", "(II)I"⟩, 1) := ⟨⟨by decide +kernel, by decide +kernel⟩, List.mem_of_getElem? (i := 27) (by decide +kernel), List.mem_of_getElem? (i := 440) (by decide +kernel), List.mem_of_getElem? (i := 441) (by decide +kernel)⟩
theorem lw_p10 : lw_okq (⟨"TenseLines$Telling", "statementCell", "(II)I"⟩, 1) := ⟨⟨by decide +kernel, by decide +kernel⟩, List.mem_of_getElem? (i := 27) (by decide +kernel), List.mem_of_getElem? (i := 456) (by decide +kernel), List.mem_of_getElem? (i := 457) (by decide +kernel)⟩
theorem lw_p11 : lw_okq (⟨"TenseLines", "isStatement", "(I)Z"⟩, 9) := ⟨⟨by decide +kernel, by decide +kernel⟩, List.mem_of_getElem? (i := 19) (by decide +kernel), List.mem_of_getElem? (i := 464) (by decide +kernel), List.mem_of_getElem? (i := 465) (by decide +kernel)⟩
theorem lw_p12 : lw_okq (⟨"TenseLines", "canBeSaid", "(III)Z"⟩, 9) := ⟨⟨by decide +kernel, by decide +kernel⟩, List.mem_of_getElem? (i := 19) (by decide +kernel), List.mem_of_getElem? (i := 485) (by decide +kernel), List.mem_of_getElem? (i := 486) (by decide +kernel)⟩
theorem lw_p13 : lw_okq (⟨"TenseLines", "isNowOrEvent", "(I)Z"⟩, 9) := ⟨⟨by decide +kernel, by decide +kernel⟩, List.mem_of_getElem? (i := 19) (by decide +kernel), List.mem_of_getElem? (i := 489) (by decide +kernel), List.mem_of_getElem? (i := 490) (by decide +kernel)⟩
theorem lw_p14 : lw_okq (⟨"TenseLines", "isTime", "(I)Z"⟩, 9) := ⟨⟨by decide +kernel, by decide +kernel⟩, List.mem_of_getElem? (i := 19) (by decide +kernel), List.mem_of_getElem? (i := 493) (by decide +kernel), List.mem_of_getElem? (i := 494) (by decide +kernel)⟩
theorem lw_p15 : lw_okq (⟨"TenseLines", "orderAll", "()V"⟩, 9) := ⟨⟨by decide +kernel, by decide +kernel⟩, List.mem_of_getElem? (i := 19) (by decide +kernel), List.mem_of_getElem? (i := 546) (by decide +kernel), List.mem_of_getElem? (i := 547) (by decide +kernel)⟩
def lw_privs_1 : List (MethodName × Nat) := [(⟨"TenseLines$Text", "passes", "(ILTenseLines$Telling;)Z"⟩, 8), (⟨"TenseLines$Text", "beginsItem", "(ILTenseLines$Telling;)Z"⟩, 8), (⟨"TenseLines$Text", "beginsSaying", "(ILTenseLines$Telling;)Z"⟩, 8), (⟨"TenseLines$Text", "givesTense", "(I)Z"⟩, 8), (⟨"TenseLines$Text", "givesSign", "(I)Z"⟩, 8), (⟨"TenseLines$Text", "givesSecond", "(ILTenseLines$Telling;)Z"⟩, 8), (⟨"TenseLines$Text", "endsItem", "(ILTenseLines$Telling;)Z"⟩, 8), (⟨"TenseLines$Telling", "addStatement", "(IIII)V"⟩, 1), (⟨"TenseLines", "isClause", "(I)Z"⟩, 9), (⟨"TenseLines$Telling", "clauseCell", "(II)I"⟩, 1), (⟨"TenseLines$Telling", "statementCell", "(II)I"⟩, 1), (⟨"TenseLines", "isStatement", "(I)Z"⟩, 9), (⟨"TenseLines", "canBeSaid", "(III)Z"⟩, 9), (⟨"TenseLines", "isNowOrEvent", "(I)Z"⟩, 9), (⟨"TenseLines", "isTime", "(I)Z"⟩, 9), (⟨"TenseLines", "orderAll", "()V"⟩, 9)]
theorem lw_r1 : ∀ q ∈ lw_privs_1, lw_okq q := List.forall_mem_cons.mpr ⟨lw_p0, List.forall_mem_cons.mpr ⟨lw_p1, List.forall_mem_cons.mpr ⟨lw_p2, List.forall_mem_cons.mpr ⟨lw_p3, List.forall_mem_cons.mpr ⟨lw_p4, List.forall_mem_cons.mpr ⟨lw_p5, List.forall_mem_cons.mpr ⟨lw_p6, List.forall_mem_cons.mpr ⟨lw_p7, List.forall_mem_cons.mpr ⟨lw_p8, List.forall_mem_cons.mpr ⟨lw_p9, List.forall_mem_cons.mpr ⟨lw_p10, List.forall_mem_cons.mpr ⟨lw_p11, List.forall_mem_cons.mpr ⟨lw_p12, List.forall_mem_cons.mpr ⟨lw_p13, List.forall_mem_cons.mpr ⟨lw_p14, List.forall_mem_cons.mpr ⟨lw_p15, fun _ h => absurd h List.not_mem_nil⟩⟩⟩⟩⟩⟩⟩⟩⟩⟩⟩⟩⟩⟩⟩⟩
theorem lw_p16 : lw_okq (⟨"TenseLines", "orderSet", "(I)V"⟩, 9) := ⟨⟨by decide +kernel, by decide +kernel⟩, List.mem_of_getElem? (i := 19) (by decide +kernel), List.mem_of_getElem? (i := 554) (by decide +kernel), List.mem_of_getElem? (i := 555) (by decide +kernel)⟩
theorem lw_p17 : lw_okq (⟨"TenseLines$Order", "chain", "(III)V"⟩, 2) := ⟨⟨by decide +kernel, by decide +kernel⟩, List.mem_of_getElem? (i := 120) (by decide +kernel), List.mem_of_getElem? (i := 579) (by decide +kernel), List.mem_of_getElem? (i := 580) (by decide +kernel)⟩
theorem lw_p18 : lw_okq (⟨"TenseLines$Search", "noteSteps", "(LTenseLines$Telling;I)V"⟩, 5) := ⟨⟨by decide +kernel, by decide +kernel⟩, List.mem_of_getElem? (i := 133) (by decide +kernel), List.mem_of_getElem? (i := 608) (by decide +kernel), List.mem_of_getElem? (i := 609) (by decide +kernel)⟩
theorem lw_p19 : lw_okq (⟨"TenseLines$Search", "shortestRing", "(II)I"⟩, 5) := ⟨⟨by decide +kernel, by decide +kernel⟩, List.mem_of_getElem? (i := 133) (by decide +kernel), List.mem_of_getElem? (i := 623) (by decide +kernel), List.mem_of_getElem? (i := 624) (by decide +kernel)⟩
theorem lw_p20 : lw_okq (⟨"TenseLines$Search", "joinSteps", "(I)V"⟩, 5) := ⟨⟨by decide +kernel, by decide +kernel⟩, List.mem_of_getElem? (i := 133) (by decide +kernel), List.mem_of_getElem? (i := 627) (by decide +kernel), List.mem_of_getElem? (i := 628) (by decide +kernel)⟩
theorem lw_p21 : lw_okq (⟨"TenseLines$Search", "stepsBackTo", "(II)I"⟩, 5) := ⟨⟨by decide +kernel, by decide +kernel⟩, List.mem_of_getElem? (i := 133) (by decide +kernel), List.mem_of_getElem? (i := 632) (by decide +kernel), List.mem_of_getElem? (i := 633) (by decide +kernel)⟩
theorem lw_p22 : lw_okq (⟨"TenseLines$Order", "behindSome", "(I)I"⟩, 2) := ⟨⟨by decide +kernel, by decide +kernel⟩, List.mem_of_getElem? (i := 120) (by decide +kernel), List.mem_of_getElem? (i := 664) (by decide +kernel), List.mem_of_getElem? (i := 665) (by decide +kernel)⟩
theorem lw_p23 : lw_okq (⟨"TenseLines", "tallyAll", "()V"⟩, 9) := ⟨⟨by decide +kernel, by decide +kernel⟩, List.mem_of_getElem? (i := 19) (by decide +kernel), List.mem_of_getElem? (i := 676) (by decide +kernel), List.mem_of_getElem? (i := 677) (by decide +kernel)⟩
theorem lw_p24 : lw_okq (⟨"TenseLines$Tally", "empty", "()V"⟩, 8) := ⟨⟨by decide +kernel, by decide +kernel⟩, List.mem_of_getElem? (i := 158) (by decide +kernel), List.mem_of_getElem? (i := 684) (by decide +kernel), List.mem_of_getElem? (i := 685) (by decide +kernel)⟩
theorem lw_p25 : lw_okq (⟨"TenseLines$Tally", "putTogether", "(LTenseLines$Order;I)V"⟩, 8) := ⟨⟨by decide +kernel, by decide +kernel⟩, List.mem_of_getElem? (i := 158) (by decide +kernel), List.mem_of_getElem? (i := 689) (by decide +kernel), List.mem_of_getElem? (i := 690) (by decide +kernel)⟩
theorem lw_p26 : lw_okq (⟨"TenseLines$Tally", "noteBefore", "(LTenseLines$Order;I)V"⟩, 8) := ⟨⟨by decide +kernel, by decide +kernel⟩, List.mem_of_getElem? (i := 158) (by decide +kernel), List.mem_of_getElem? (i := 698) (by decide +kernel), List.mem_of_getElem? (i := 699) (by decide +kernel)⟩
theorem lw_p27 : lw_okq (⟨"TenseLines$Tally", "countOn", "()V"⟩, 8) := ⟨⟨by decide +kernel, by decide +kernel⟩, List.mem_of_getElem? (i := 158) (by decide +kernel), List.mem_of_getElem? (i := 704) (by decide +kernel), List.mem_of_getElem? (i := 705) (by decide +kernel)⟩
theorem lw_p28 : lw_okq (⟨"TenseLines$Tally", "ready", "(I)I"⟩, 8) := ⟨⟨by decide +kernel, by decide +kernel⟩, List.mem_of_getElem? (i := 158) (by decide +kernel), List.mem_of_getElem? (i := 708) (by decide +kernel), List.mem_of_getElem? (i := 709) (by decide +kernel)⟩
theorem lw_p29 : lw_okq (⟨"TenseLines$Tally", "noteJoining", "(II)V"⟩, 8) := ⟨⟨by decide +kernel, by decide +kernel⟩, List.mem_of_getElem? (i := 158) (by decide +kernel), List.mem_of_getElem? (i := 724) (by decide +kernel), List.mem_of_getElem? (i := 725) (by decide +kernel)⟩
theorem lw_p30 : lw_okq (⟨"TenseLines$Tally", "noteAhead", "(I)V"⟩, 8) := ⟨⟨by decide +kernel, by decide +kernel⟩, List.mem_of_getElem? (i := 158) (by decide +kernel), List.mem_of_getElem? (i := 728) (by decide +kernel), List.mem_of_getElem? (i := 729) (by decide +kernel)⟩
theorem lw_p31 : lw_okq (⟨"TenseLinesModel", "here", "()I"⟩, 22) := ⟨⟨by decide +kernel, by decide +kernel⟩, List.mem_of_getElem? (i := 799) (by decide +kernel), List.mem_of_getElem? (i := 888) (by decide +kernel), List.mem_of_getElem? (i := 889) (by decide +kernel)⟩
def lw_privs_2 : List (MethodName × Nat) := [(⟨"TenseLines", "orderSet", "(I)V"⟩, 9), (⟨"TenseLines$Order", "chain", "(III)V"⟩, 2), (⟨"TenseLines$Search", "noteSteps", "(LTenseLines$Telling;I)V"⟩, 5), (⟨"TenseLines$Search", "shortestRing", "(II)I"⟩, 5), (⟨"TenseLines$Search", "joinSteps", "(I)V"⟩, 5), (⟨"TenseLines$Search", "stepsBackTo", "(II)I"⟩, 5), (⟨"TenseLines$Order", "behindSome", "(I)I"⟩, 2), (⟨"TenseLines", "tallyAll", "()V"⟩, 9), (⟨"TenseLines$Tally", "empty", "()V"⟩, 8), (⟨"TenseLines$Tally", "putTogether", "(LTenseLines$Order;I)V"⟩, 8), (⟨"TenseLines$Tally", "noteBefore", "(LTenseLines$Order;I)V"⟩, 8), (⟨"TenseLines$Tally", "countOn", "()V"⟩, 8), (⟨"TenseLines$Tally", "ready", "(I)I"⟩, 8), (⟨"TenseLines$Tally", "noteJoining", "(II)V"⟩, 8), (⟨"TenseLines$Tally", "noteAhead", "(I)V"⟩, 8), (⟨"TenseLinesModel", "here", "()I"⟩, 22)]
theorem lw_r2 : ∀ q ∈ lw_privs_2, lw_okq q := List.forall_mem_cons.mpr ⟨lw_p16, List.forall_mem_cons.mpr ⟨lw_p17, List.forall_mem_cons.mpr ⟨lw_p18, List.forall_mem_cons.mpr ⟨lw_p19, List.forall_mem_cons.mpr ⟨lw_p20, List.forall_mem_cons.mpr ⟨lw_p21, List.forall_mem_cons.mpr ⟨lw_p22, List.forall_mem_cons.mpr ⟨lw_p23, List.forall_mem_cons.mpr ⟨lw_p24, List.forall_mem_cons.mpr ⟨lw_p25, List.forall_mem_cons.mpr ⟨lw_p26, List.forall_mem_cons.mpr ⟨lw_p27, List.forall_mem_cons.mpr ⟨lw_p28, List.forall_mem_cons.mpr ⟨lw_p29, List.forall_mem_cons.mpr ⟨lw_p30, List.forall_mem_cons.mpr ⟨lw_p31, fun _ h => absurd h List.not_mem_nil⟩⟩⟩⟩⟩⟩⟩⟩⟩⟩⟩⟩⟩⟩⟩⟩
theorem lw_p32 : lw_okq (⟨"TenseLinesModel", "readsSaying", "()Z"⟩, 22) := ⟨⟨by decide +kernel, by decide +kernel⟩, List.mem_of_getElem? (i := 799) (by decide +kernel), List.mem_of_getElem? (i := 892) (by decide +kernel), List.mem_of_getElem? (i := 893) (by decide +kernel)⟩
theorem lw_p33 : lw_okq (⟨"TenseLinesModel", "timeOf", "(I)I"⟩, 22) := ⟨⟨by decide +kernel, by decide +kernel⟩, List.mem_of_getElem? (i := 799) (by decide +kernel), List.mem_of_getElem? (i := 896) (by decide +kernel), List.mem_of_getElem? (i := 897) (by decide +kernel)⟩
theorem lw_p34 : lw_okq (⟨"TenseLinesModel", "adds", "(IIII)V"⟩, 22) := ⟨⟨by decide +kernel, by decide +kernel⟩, List.mem_of_getElem? (i := 799) (by decide +kernel), List.mem_of_getElem? (i := 900) (by decide +kernel), List.mem_of_getElem? (i := 901) (by decide +kernel)⟩
theorem lw_p35 : lw_okq (⟨"TenseLinesModel", "readsClause", "()Z"⟩, 22) := ⟨⟨by decide +kernel, by decide +kernel⟩, List.mem_of_getElem? (i := 799) (by decide +kernel), List.mem_of_getElem? (i := 904) (by decide +kernel), List.mem_of_getElem? (i := 905) (by decide +kernel)⟩
theorem lw_p36 : lw_okq (⟨"TenseLinesModel", "isClause", "(I)Z"⟩, 22) := ⟨⟨by decide +kernel, by decide +kernel⟩, List.mem_of_getElem? (i := 799) (by decide +kernel), List.mem_of_getElem? (i := 918) (by decide +kernel), List.mem_of_getElem? (i := 919) (by decide +kernel)⟩
theorem lw_p37 : lw_okq (⟨"TenseLinesModel", "ofStatement", "(II)I"⟩, 22) := ⟨⟨by decide +kernel, by decide +kernel⟩, List.mem_of_getElem? (i := 799) (by decide +kernel), List.mem_of_getElem? (i := 922) (by decide +kernel), List.mem_of_getElem? (i := 923) (by decide +kernel)⟩
theorem lw_p38 : lw_okq (⟨"TenseLinesModel", "isStatement", "(I)Z"⟩, 22) := ⟨⟨by decide +kernel, by decide +kernel⟩, List.mem_of_getElem? (i := 799) (by decide +kernel), List.mem_of_getElem? (i := 930) (by decide +kernel), List.mem_of_getElem? (i := 931) (by decide +kernel)⟩
theorem lw_p39 : lw_okq (⟨"TenseLinesModel", "all", "()I"⟩, 22) := ⟨⟨by decide +kernel, by decide +kernel⟩, List.mem_of_getElem? (i := 799) (by decide +kernel), List.mem_of_getElem? (i := 938) (by decide +kernel), List.mem_of_getElem? (i := 939) (by decide +kernel)⟩
theorem lw_p40 : lw_okq (⟨"TenseLinesModel", "laysAll", "(IIII)V"⟩, 22) := ⟨⟨by decide +kernel, by decide +kernel⟩, List.mem_of_getElem? (i := 799) (by decide +kernel), List.mem_of_getElem? (i := 942) (by decide +kernel), List.mem_of_getElem? (i := 943) (by decide +kernel)⟩
theorem lw_p41 : lw_okq (⟨"TenseLinesModel", "lays", "(III)V"⟩, 22) := ⟨⟨by decide +kernel, by decide +kernel⟩, List.mem_of_getElem? (i := 799) (by decide +kernel), List.mem_of_getElem? (i := 946) (by decide +kernel), List.mem_of_getElem? (i := 947) (by decide +kernel)⟩
theorem lw_p42 : lw_okq (⟨"TenseLinesModel", "isAhead", "(II)V"⟩, 22) := ⟨⟨by decide +kernel, by decide +kernel⟩, List.mem_of_getElem? (i := 799) (by decide +kernel), List.mem_of_getElem? (i := 950) (by decide +kernel), List.mem_of_getElem? (i := 951) (by decide +kernel)⟩
theorem lw_p43 : lw_okq (⟨"TenseLinesModel", "areSame", "(II)V"⟩, 22) := ⟨⟨by decide +kernel, by decide +kernel⟩, List.mem_of_getElem? (i := 799) (by decide +kernel), List.mem_of_getElem? (i := 954) (by decide +kernel), List.mem_of_getElem? (i := 955) (by decide +kernel)⟩
theorem lw_p44 : lw_okq (⟨"TenseLinesModel", "laysTense", "(I)V"⟩, 22) := ⟨⟨by decide +kernel, by decide +kernel⟩, List.mem_of_getElem? (i := 799) (by decide +kernel), List.mem_of_getElem? (i := 958) (by decide +kernel), List.mem_of_getElem? (i := 959) (by decide +kernel)⟩
theorem lw_p45 : lw_okq (⟨"TenseLinesModel", "laysLink", "(I)V"⟩, 22) := ⟨⟨by decide +kernel, by decide +kernel⟩, List.mem_of_getElem? (i := 799) (by decide +kernel), List.mem_of_getElem? (i := 962) (by decide +kernel), List.mem_of_getElem? (i := 963) (by decide +kernel)⟩
theorem lw_p46 : lw_okq (⟨"TenseLinesModel", "isSound", "()Z"⟩, 22) := ⟨⟨by decide +kernel, by decide +kernel⟩, List.mem_of_getElem? (i := 799) (by decide +kernel), List.mem_of_getElem? (i := 966) (by decide +kernel), List.mem_of_getElem? (i := 967) (by decide +kernel)⟩
theorem lw_p47 : lw_okq (⟨"TenseLinesModel", "classOf", "(I)I"⟩, 22) := ⟨⟨by decide +kernel, by decide +kernel⟩, List.mem_of_getElem? (i := 799) (by decide +kernel), List.mem_of_getElem? (i := 970) (by decide +kernel), List.mem_of_getElem? (i := 971) (by decide +kernel)⟩
def lw_privs_3 : List (MethodName × Nat) := [(⟨"TenseLinesModel", "readsSaying", "()Z"⟩, 22), (⟨"TenseLinesModel", "timeOf", "(I)I"⟩, 22), (⟨"TenseLinesModel", "adds", "(IIII)V"⟩, 22), (⟨"TenseLinesModel", "readsClause", "()Z"⟩, 22), (⟨"TenseLinesModel", "isClause", "(I)Z"⟩, 22), (⟨"TenseLinesModel", "ofStatement", "(II)I"⟩, 22), (⟨"TenseLinesModel", "isStatement", "(I)Z"⟩, 22), (⟨"TenseLinesModel", "all", "()I"⟩, 22), (⟨"TenseLinesModel", "laysAll", "(IIII)V"⟩, 22), (⟨"TenseLinesModel", "lays", "(III)V"⟩, 22), (⟨"TenseLinesModel", "isAhead", "(II)V"⟩, 22), (⟨"TenseLinesModel", "areSame", "(II)V"⟩, 22), (⟨"TenseLinesModel", "laysTense", "(I)V"⟩, 22), (⟨"TenseLinesModel", "laysLink", "(I)V"⟩, 22), (⟨"TenseLinesModel", "isSound", "()Z"⟩, 22), (⟨"TenseLinesModel", "classOf", "(I)I"⟩, 22)]
theorem lw_r3 : ∀ q ∈ lw_privs_3, lw_okq q := List.forall_mem_cons.mpr ⟨lw_p32, List.forall_mem_cons.mpr ⟨lw_p33, List.forall_mem_cons.mpr ⟨lw_p34, List.forall_mem_cons.mpr ⟨lw_p35, List.forall_mem_cons.mpr ⟨lw_p36, List.forall_mem_cons.mpr ⟨lw_p37, List.forall_mem_cons.mpr ⟨lw_p38, List.forall_mem_cons.mpr ⟨lw_p39, List.forall_mem_cons.mpr ⟨lw_p40, List.forall_mem_cons.mpr ⟨lw_p41, List.forall_mem_cons.mpr ⟨lw_p42, List.forall_mem_cons.mpr ⟨lw_p43, List.forall_mem_cons.mpr ⟨lw_p44, List.forall_mem_cons.mpr ⟨lw_p45, List.forall_mem_cons.mpr ⟨lw_p46, List.forall_mem_cons.mpr ⟨lw_p47, fun _ h => absurd h List.not_mem_nil⟩⟩⟩⟩⟩⟩⟩⟩⟩⟩⟩⟩⟩⟩⟩⟩
theorem lw_p48 : lw_okq (⟨"TenseLinesModel", "isTime", "(I)Z"⟩, 22) := ⟨⟨by decide +kernel, by decide +kernel⟩, List.mem_of_getElem? (i := 799) (by decide +kernel), List.mem_of_getElem? (i := 985) (by decide +kernel), List.mem_of_getElem? (i := 986) (by decide +kernel)⟩
theorem lw_p49 : lw_okq (⟨"TenseLinesModel", "knownBy", "(III)I"⟩, 22) := ⟨⟨by decide +kernel, by decide +kernel⟩, List.mem_of_getElem? (i := 799) (by decide +kernel), List.mem_of_getElem? (i := 989) (by decide +kernel), List.mem_of_getElem? (i := 990) (by decide +kernel)⟩
theorem lw_p50 : lw_okq (⟨"TenseLinesModel", "laysBelow", "()V"⟩, 22) := ⟨⟨by decide +kernel, by decide +kernel⟩, List.mem_of_getElem? (i := 799) (by decide +kernel), List.mem_of_getElem? (i := 993) (by decide +kernel), List.mem_of_getElem? (i := 994) (by decide +kernel)⟩
theorem lw_p51 : lw_okq (⟨"TenseLinesModel", "isSaid", "(I)Z"⟩, 22) := ⟨⟨by decide +kernel, by decide +kernel⟩, List.mem_of_getElem? (i := 799) (by decide +kernel), List.mem_of_getElem? (i := 1005) (by decide +kernel), List.mem_of_getElem? (i := 1006) (by decide +kernel)⟩
theorem lw_p52 : lw_okq (⟨"TenseLinesModel", "ordersWith", "(III)I"⟩, 22) := ⟨⟨by decide +kernel, by decide +kernel⟩, List.mem_of_getElem? (i := 799) (by decide +kernel), List.mem_of_getElem? (i := 1013) (by decide +kernel), List.mem_of_getElem? (i := 1014) (by decide +kernel)⟩
theorem lw_p53 : lw_okq (⟨"TenseLinesModel", "canCome", "(II)Z"⟩, 22) := ⟨⟨by decide +kernel, by decide +kernel⟩, List.mem_of_getElem? (i := 799) (by decide +kernel), List.mem_of_getElem? (i := 1017) (by decide +kernel), List.mem_of_getElem? (i := 1018) (by decide +kernel)⟩
theorem lw_p54 : lw_okq (⟨"TenseLinesModel", "leftBy", "(III)I"⟩, 22) := ⟨⟨by decide +kernel, by decide +kernel⟩, List.mem_of_getElem? (i := 799) (by decide +kernel), List.mem_of_getElem? (i := 1025) (by decide +kernel), List.mem_of_getElem? (i := 1026) (by decide +kernel)⟩
theorem lw_p55 : lw_okq (⟨"TenseLinesModel", "sayings", "()I"⟩, 22) := ⟨⟨by decide +kernel, by decide +kernel⟩, List.mem_of_getElem? (i := 799) (by decide +kernel), List.mem_of_getElem? (i := 1037) (by decide +kernel), List.mem_of_getElem? (i := 1038) (by decide +kernel)⟩
theorem lw_p56 : lw_okq (⟨"TenseLinesModel", "notes", "()V"⟩, 22) := ⟨⟨by decide +kernel, by decide +kernel⟩, List.mem_of_getElem? (i := 799) (by decide +kernel), List.mem_of_getElem? (i := 1041) (by decide +kernel), List.mem_of_getElem? (i := 1042) (by decide +kernel)⟩
theorem lw_p57 : lw_okq (⟨"TenseLinesModel", "becomes", "(II)I"⟩, 22) := ⟨⟨by decide +kernel, by decide +kernel⟩, List.mem_of_getElem? (i := 799) (by decide +kernel), List.mem_of_getElem? (i := 1053) (by decide +kernel), List.mem_of_getElem? (i := 1054) (by decide +kernel)⟩
def lw_privs_4 : List (MethodName × Nat) := [(⟨"TenseLinesModel", "isTime", "(I)Z"⟩, 22), (⟨"TenseLinesModel", "knownBy", "(III)I"⟩, 22), (⟨"TenseLinesModel", "laysBelow", "()V"⟩, 22), (⟨"TenseLinesModel", "isSaid", "(I)Z"⟩, 22), (⟨"TenseLinesModel", "ordersWith", "(III)I"⟩, 22), (⟨"TenseLinesModel", "canCome", "(II)Z"⟩, 22), (⟨"TenseLinesModel", "leftBy", "(III)I"⟩, 22), (⟨"TenseLinesModel", "sayings", "()I"⟩, 22), (⟨"TenseLinesModel", "notes", "()V"⟩, 22), (⟨"TenseLinesModel", "becomes", "(II)I"⟩, 22)]
theorem lw_r4 : ∀ q ∈ lw_privs_4, lw_okq q := List.forall_mem_cons.mpr ⟨lw_p48, List.forall_mem_cons.mpr ⟨lw_p49, List.forall_mem_cons.mpr ⟨lw_p50, List.forall_mem_cons.mpr ⟨lw_p51, List.forall_mem_cons.mpr ⟨lw_p52, List.forall_mem_cons.mpr ⟨lw_p53, List.forall_mem_cons.mpr ⟨lw_p54, List.forall_mem_cons.mpr ⟨lw_p55, List.forall_mem_cons.mpr ⟨lw_p56, List.forall_mem_cons.mpr ⟨lw_p57, fun _ h => absurd h List.not_mem_nil⟩⟩⟩⟩⟩⟩⟩⟩⟩⟩
def lw_privs : List (MethodName × Nat) := lw_privs_1 ++ (lw_privs_2 ++ (lw_privs_3 ++ (lw_privs_4)))
def lw_tbl : List Cond := k2_sels lw_privs ++ tables_1
theorem lw_privs_ok : ∀ q ∈ lw_privs, lw_okq q := by
  show ∀ q ∈ lw_privs_1 ++ (lw_privs_2 ++ (lw_privs_3 ++ (lw_privs_4))), lw_okq q
  exact List.forall_mem_append.mpr ⟨lw_r1, List.forall_mem_append.mpr ⟨lw_r2, List.forall_mem_append.mpr ⟨lw_r3, lw_r4⟩⟩⟩
/-- the tables say that somebody has made a T[][]: the word, whatever the arguments -/
def va_AOA (ty : FieldType) (U : State) : Prop := (Cond.arrayOver (.array ty)).before #[] U = true
theorem va_AOA.use {ty : FieldType} {A : Array Value} {U : State} (h : va_AOA ty U) : (Cond.arrayOver (.array ty)).before A U = true := h
/-! ===== BEGIN words of one list among another's, by their places ===== -/
theorem goodIn_r {big : List Cond} (ws : List Cond) (ps : List Nat) (hp : ws = ps.filterMap (fun i => big[i]?)) (h : ws.all goodWord = true) : GoodIn big ws := by
  intro w hw
  have h1 := List.all_eq_true.mp h w hw
  rw [hp] at hw
  obtain ⟨i, -, hi⟩ := List.mem_filterMap.mp hw
  have hm : w ∈ big := by first | exact List.mem_of_getElem? hi | exact List.getElem?_mem hi
  exact ⟨hm, good_of_word h1⟩
theorem goodIn_app {big a b : List Cond} (ha : GoodIn big a) (hb : GoodIn big b) : GoodIn big (a ++ b) := fun w h => (List.mem_append.mp h).elim (ha w) (hb w)
theorem goodIn_ca {big a b : List Cond} {c : Cond} (ha : GoodIn big (c :: a)) (hb : GoodIn big b) : GoodIn big (c :: (a ++ b)) := fun w h => (List.mem_cons.mp h).elim (fun e => ha w (List.mem_cons.mpr (Or.inl e))) (fun h => (List.mem_append.mp h).elim (fun h => ha w (List.mem_cons.mpr (Or.inr h))) (hb w))
theorem goodIn_sub {big ws : List Cond} (hm : ∀ w ∈ ws, w ∈ big) (h : ws.all goodWord = true) : GoodIn big ws := fun w hw => ⟨hm w hw, good_of_word (List.all_eq_true.mp h w hw)⟩
/-! ===== END ===== -/

/-! ===== BEGIN new T[n][m]: the outer array a place, the inner ones among the pooled ===== -/
/-- f, but v at every address of l -/
def vr_up {α : Type} (f : Nat → α) (l : List Nat) (v : α) : Nat → α := fun a => if a ∈ l then v else f a
theorem vr_up_in {α : Type} {f : Nat → α} {l : List Nat} {v : α} {a : Nat} (h : a ∈ l) : vr_up f l v a = v := if_pos h
theorem vr_up_ne {α : Type} {f : Nat → α} {l : List Nat} {v : α} {a : Nat} (h : a ∉ l) : vr_up f l v a = f a := if_neg h
theorem vr_rows {L l : List Nat} {f : Nat → va_E} {e : va_E} (h : ∀ a, a ∈ l → a ∉ L) : va_pl L f ++ l.map (fun a => (a, e)) = va_pl (L ++ l) (vr_up f l e) := by
  unfold va_pl
  rw [List.map_append]
  congr 1
  · apply List.map_congr_left
    intro a ha
    rw [vr_up_ne (fun q => h a q ha)]
  · apply List.map_congr_left
    intro a ha
    rw [vr_up_in ha]
theorem vr_lay {X rows : va_W} {x : Nat × va_E} {pl : va_W} {D : va_G} {cl : List vw_C} {H : Heap} (hP : va_P D cl (((X ++ pl) ++ [x]) ++ rows) H) : va_P D cl ((X ++ [x]) ++ (pl ++ rows)) H := by
  rw [List.append_assoc (X ++ pl)] at hP
  have h := va_P.swap hP
  rw [← List.append_assoc X] at h
  have h2 := va_P.swap h
  rw [List.append_assoc (X ++ [x])] at h2
  exact h2
theorem vr_layD {X rows : va_W} {x : Nat × va_E} {pl : va_W} {A : Nat → Prop} (hD : va_D A (((X ++ pl) ++ [x]) ++ rows)) : va_D A ((X ++ [x]) ++ (pl ++ rows)) := by
  rw [List.append_assoc (X ++ pl)] at hD
  have h := va_D.swap hD
  rw [← List.append_assoc X] at h
  have h2 := va_D.swap h
  rw [List.append_assoc (X ++ [x])] at h2
  exact h2
theorem vr_outer (c : ClassId) (N h0 : Nat) : ∀ i : Nat, Jvm.Free.Multi.outerC c N h0 i = arrV c N (fun j => va_rf (if j < i then some (h0 + 1 + j) else none))
  | 0 => by
    show ({ cls := c, slots := Array.replicate N .null, vm := .none } : Cell) = _
    rw [arrV_new]
    refine congrArg (arrV c N) (funext fun j => ?_)
    simp [va_rf]
  | i + 1 => by
    show (Jvm.Free.Multi.outerC c N h0 i).setSlot i (.ref (h0 + 1 + i)) = _
    rw [vr_outer c N h0 i, arrV_store]
    refine congrArg (arrV c N) (funext fun j => ?_)
    by_cases e : j = i
    · subst e
      simp [updV, va_rf]
    · by_cases h : j < i
      · simp [updV, e, h, Nat.lt_succ_of_lt h]
      · simp [updV, e, h, show ¬ j < i + 1 by omega]
section VGM
variable {p : Program} {l : Launch} {e : Env} {R : Room} {s : State} {m : MethodId} {args : Array Value} {below : List Frame} {meth : Method} {c : Code} {H : Heap} {locs : List Loc} {cells slots : Nat} {Q : State → Prop}
variable {cc : ByteArray} {pc : Nat} {ls : Array Slot} {rest : List Value} {D : va_G} {cl : List vw_C} {A : Nat → Prop} {a : Nat} {tys : List (ClassId × FieldType)} {ws : va_W} {H0 : Heap}
theorem va_mna {X : va_W} {L : List Nat} {f : Nat → va_E} {cc : ByteArray} (hexec : p.tables.exec = Jvm.exec) (hb : c.code = cc) {own : String} {index : Nat} {ty : FieldType} {cy : ClassId} (hown : s.vm.findClass own = some m.cls) (hclink : (Cond.classLink own index ("[" ++ (FieldType.array ty).toString)).before args s = true) (hover : va_AOA ty s) (harr : (Cond.arrayClass ty).before args s = true) (hcy : s.vm.findClass (FieldType.array ty).toString = some cy)
    (hK : va_K D cl tys s) (hP : va_P D cl (X ++ va_pl L f) H) (hD : va_D A (X ++ va_pl L f)) (hS : va_S A H0 H locs) (hA : ∀ q, H0.size ≤ q → A q) {n k : Int32} {N' K' : Nat} {z : vp_A} (hn : ¬ n < 0) (hk : ¬ k < 0) (hN : n.toNatClampNeg = N') (hM : k.toNatClampNeg = K')
    (hb1 : N' * 4 ≤ 536870912) (hb2 : K' * componentBytes ty ≤ 536870912) (hb3 : K' ≤ 536870912) (hdf : fits ty (defaultValue ty) = true) (hdd : (defaultValue ty).isDefault = true) (hcells : cells + (1 + N') ≤ R.cells) (hslots : slots + (N' + N' * K') ≤ R.slots) (hz : ∀ c : ClassId, Jvm.Free.Multi.innerC c K' (defaultValue ty) = vp_cell c z) (hdg : decode cc pc = .ok (.multianewarray index 2, 4))
    (kk : ∀ (q : Nat) (r : Nat → Nat) (cA : ClassId) (H1 : Heap), (∀ i j : Nat, i < N' → j < N' → r i = r j → i = j) → (∀ i : Nat, i < N' → r i ∉ L) → va_K D cl (tys ++ [(cA, .array ty)]) s →
      va_P D cl ((X ++ [(q, .inl (cA, N', .inr (.inr (.inr (.inr (fun i => if i < N' then some (r i) else none))))))]) ++ va_pl (L ++ (List.range N').map r) (vr_up f ((List.range N').map r) (.inl (cy, z)))) H1 → va_D A ((X ++ [(q, .inl (cA, N', .inr (.inr (.inr (.inr (fun i => if i < N' then some (r i) else none))))))]) ++ va_pl (L ++ (List.range N').map r) (vr_up f ((List.range N').map r) (.inl (cy, z)))) → va_S A H0 H1 locs →
      W p l e R s m args below meth c H1 locs (cells + 1 + N') (slots + N' + N' * K') Q (F0 m (pc + 4) ls (.ref q :: rest))) : W p l e R s m args below meth c H locs cells slots Q (F0 m pc ls (.int k :: .int n :: rest)) := by
  subst hN
  subst hM
  intro T hT Xs
  obtain ⟨vm₁, cA, comp, -, fA, fC, hO, -, X', step⟩ := Xs.multianewarray2F hexec hown hclink (va_AOA.use hover) harr (g := F0 m pc ls (.int k :: .int n :: rest)) rfl (by rw [hb]; exact hdg) rfl hn hk hb1 hb2 hb3 hdf hdd hcells hslots
  have ec : some cy = some comp := hcy.symm.trans fC
  cases ec
  generalize hF : Jvm.Free.Multi.fill (T.setVm vm₁) cA cy n.toNatClampNeg k.toNatClampNeg (defaultValue ty) n.toNatClampNeg = F at X' step
  have hTh : (T.setVm vm₁).heap = H := hT
  obtain ⟨f1, f2, -, -⟩ := Jvm.Free.Multi.fill_facts (T.setVm vm₁) cA cy n.toNatClampNeg k.toNatClampNeg (defaultValue ty) n.toNatClampNeg
  rw [hF, hTh] at f1 f2
  have hold : ∀ x : Nat, x < H.size → F.heap[x]? = H[x]? := fun x hx => by
    have := Jvm.Free.Multi.fill_old (T.setVm vm₁) cA cy n.toNatClampNeg k.toNatClampNeg (defaultValue ty) (a := x) (by rw [hTh]; exact hx) n.toNatClampNeg
    rw [hF, hTh] at this
    exact this
  have hrow : ∀ j : Nat, j < n.toNatClampNeg → F.heap[H.size + 1 + j]? = some (vp_cell cy z) := fun j hj => by
    have := Jvm.Free.Multi.fill_inner (T.setVm vm₁) cA cy n.toNatClampNeg k.toNatClampNeg (defaultValue ty) n.toNatClampNeg j hj
    rw [hF, hTh, hz] at this
    exact this
  have hout : Jvm.Free.Multi.outerC cA n.toNatClampNeg H.size n.toNatClampNeg = vp_cell cA (n.toNatClampNeg, .inr (.inr (.inr (.inr (fun i => if i < n.toNatClampNeg then some (H.size + 1 + i) else none))))) := by
    rw [vp_cell_q]
    exact vr_outer cA n.toNatClampNeg H.size n.toNatClampNeg
  rw [hout] at f2
  have hlt : ∀ a, a ∈ L → a < H.size := fun a ha => by
    obtain ⟨k9, hk9⟩ := va_pl_get (X := X) (f := f) ha
    exact (hP k9 _ hk9).lt
  have hnl : ∀ i : Nat, i < n.toNatClampNeg → H.size + 1 + i ∉ L := fun i _ h => by
    have := hlt _ h
    omega
  have hnm : ∀ a, a ∈ (List.range n.toNatClampNeg).map (fun i => H.size + 1 + i) → a ∉ L := fun a ha h => by
    obtain ⟨i, -, rfl⟩ := List.mem_map.mp ha
    have := hlt _ h
    omega
  have hP0 : va_P D cl (X ++ va_pl L f) F.heap := hP.kept (fun k9 x hx => hold x.1 ((hP k9 x hx).lt))
  have hP1 : va_P D cl ((X ++ va_pl L f) ++ [(H.size, .inl (cA, n.toNatClampNeg, .inr (.inr (.inr (.inr (fun i => if i < n.toNatClampNeg then some (H.size + 1 + i) else none))))))]) F.heap := hP0.app (fun k9 x hx => by
    have h0 : k9 < 1 := (List.getElem?_eq_some_iff.mp hx).1
    rw [show k9 = 0 by omega] at hx
    cases hx
    exact f2)
  have hP2 : va_P D cl (((X ++ va_pl L f) ++ [(H.size, .inl (cA, n.toNatClampNeg, .inr (.inr (.inr (.inr (fun i => if i < n.toNatClampNeg then some (H.size + 1 + i) else none))))))]) ++ ((List.range n.toNatClampNeg).map (fun i => H.size + 1 + i)).map (fun a => (a, .inl (cy, z)))) F.heap := hP1.app (fun k9 x hx => by
    obtain ⟨a, ha, rfl⟩ := List.mem_map.mp (List.mem_of_getElem? hx)
    obtain ⟨i, hi, rfl⟩ := List.mem_map.mp ha
    exact hrow i (List.mem_range.mp hi))
  have hD2 : va_D A (((X ++ va_pl L f) ++ [(H.size, .inl (cA, n.toNatClampNeg, .inr (.inr (.inr (.inr (fun i => if i < n.toNatClampNeg then some (H.size + 1 + i) else none))))))]) ++ ((List.range n.toNatClampNeg).map (fun i => H.size + 1 + i)).map (fun a => (a, .inl (cy, z)))) := by
    have hD1 := hD.push (e := .inl (cA, n.toNatClampNeg, .inr (.inr (.inr (.inr (fun i => if i < n.toNatClampNeg then some (H.size + 1 + i) else none)))))) hP rfl (hA _ hS.1)
    generalize hW1 : (X ++ va_pl L f) ++ [(H.size, .inl (cA, n.toNatClampNeg, .inr (.inr (.inr (.inr (fun i => if i < n.toNatClampNeg then some (H.size + 1 + i) else none))))))] = W1 at hD1 hP1 ⊢
    have hle : ∀ (k9 : Nat) (x : Nat × va_E), W1[k9]? = some x → x.1 ≤ H.size := fun k9 x hx => by
      rw [← hW1] at hx
      by_cases hl : k9 < (X ++ va_pl L f).length
      · rw [List.getElem?_append_left hl] at hx
        exact Nat.le_of_lt ((hP k9 x hx).lt)
      · rw [List.getElem?_append_right (by omega)] at hx
        have h0 : k9 - (X ++ va_pl L f).length < 1 := (List.getElem?_eq_some_iff.mp hx).1
        rw [show k9 - (X ++ va_pl L f).length = 0 by omega] at hx
        cases hx
        exact Nat.le_refl _
    have hr : ∀ (k9 : Nat) (x : Nat × va_E), (((List.range n.toNatClampNeg).map (fun i => H.size + 1 + i)).map (fun a => ((a, .inl (cy, z)) : Nat × va_E)))[k9]? = some x → x.1 = H.size + 1 + k9 := fun k9 x hx => by
      rw [List.getElem?_map, List.getElem?_map] at hx
      by_cases h9 : k9 < n.toNatClampNeg
      · rw [List.getElem?_range h9] at hx
        cases hx
        rfl
      · have hn0 : (List.range n.toNatClampNeg)[k9]? = none := List.getElem?_eq_none (by rw [List.length_range]; omega)
        rw [hn0] at hx
        cases hx
    refine ⟨fun i j x y hi hj hxy => ?_, fun k9 x hx => ?_⟩
    · by_cases h1 : i < W1.length <;> by_cases h2 : j < W1.length
      · rw [List.getElem?_append_left h1] at hi
        rw [List.getElem?_append_left h2] at hj
        exact hD1.1 i j x y hi hj hxy
      · rw [List.getElem?_append_left h1] at hi
        rw [List.getElem?_append_right (by omega)] at hj
        have := hle _ _ hi
        have := hr _ _ hj
        omega
      · rw [List.getElem?_append_right (by omega)] at hi
        rw [List.getElem?_append_left h2] at hj
        have := hle _ _ hj
        have := hr _ _ hi
        omega
      · rw [List.getElem?_append_right (by omega)] at hi hj
        have := hr _ _ hi
        have := hr _ _ hj
        omega
    · by_cases h1 : k9 < W1.length
      · rw [List.getElem?_append_left h1] at hx
        exact hD1.2 k9 x hx
      · rw [List.getElem?_append_right (by omega)] at hx
        have := hr _ _ hx
        exact hA _ (by have := hS.1; omega)
  have hAr : ArrOfT s cA (.array ty) := fun N9 z9 => by
    obtain ⟨-, k9, hk9, cm9, hkk9⟩ := (hO 0 0 0).1
    exact ⟨(fun q hq => by cases hq), k9, hk9, cm9, hkk9⟩
  have hK2 : va_K D cl (tys ++ [(cA, .array ty)]) s := ⟨hK.1, fun k9 x hx => by
    by_cases hl : k9 < tys.length
    · rw [List.getElem?_append_left hl] at hx
      exact hK.2 k9 x hx
    · rw [List.getElem?_append_right (by omega)] at hx
      have h0 : k9 - tys.length < 1 := (List.getElem?_eq_some_iff.mp hx).1
      rw [show k9 - tys.length = 0 by omega] at hx
      cases hx
      exact ⟨hAr, fA⟩⟩
  obtain ⟨t, a1, b1⟩ := kk H.size (fun i => H.size + 1 + i) cA F.heap (fun i j _ _ h => by have h9 : H.size + 1 + i = H.size + 1 + j := h; omega) hnl hK2 (by rw [← vr_rows hnm]; exact vr_lay hP2) (by rw [← vr_rows hnm]; exact vr_layD hD2) ⟨by rw [f1]; have := hS.1; omega, fun x h1 h2 => (hold x (Nat.lt_of_lt_of_le h1 hS.1)).trans (hS.2.1 x h1 h2), hS.2.2⟩ F rfl X'
  refine ⟨t, step t ?_, b1⟩
  have e : T.heap.size = H.size := by rw [hT]
  rw [e]
  exact a1
end VGM
/-! ===== END ===== -/

def RX0 : String := "TenseLines$Images"
def TX0 : u_T := fun k => match k with
  | 0 => ("TenseLines$Images", "rows", "[[I", true)
  | _ => ("TenseLines$Images", "kept", "I", false)
def tyX0 : Nat → FieldType := fun k => match k with
  | 0 => .array (.array .int)
  | _ => .int
abbrev wsX00 : List Cond := u_ws RX0 TX0 2
theorem nmX0 : ∀ a, a < 2 → ∀ b, b < 2 → a ≠ b → (TX0 a).2.1 ≠ (TX0 b).2.1 := by decide +kernel
theorem tyX0_ok : ∀ k, k < 2 → parseFieldDescriptor (TX0 k).2.2.1 = some (tyX0 k) := by decide +kernel
abbrev cX0_init : ByteArray := prog_2_method_1_code
def yX0_init : MethodName := ⟨RX0, "<init>", "()V"⟩
abbrev cX0_lose : ByteArray := prog_2_method_2_code
def yX0_lose : MethodName := ⟨RX0, "lose", "()V"⟩
abbrev cX0_isKept : ByteArray := prog_2_method_3_code
def yX0_isKept : MethodName := ⟨RX0, "isKept", "(I)Z"⟩
abbrev cX0_store : ByteArray := prog_2_method_4_code
def yX0_store : MethodName := ⟨RX0, "store", "(ILTenseLines$Telling;)V"⟩
abbrev cX0_restore : ByteArray := prog_2_method_5_code
def yX0_restore : MethodName := ⟨RX0, "restore", "(ILTenseLines$Telling;)V"⟩
def RX1 : String := "TenseLines$Order"
def TX1 : u_T := fun k => match k with
  | 0 => ("TenseLines$Order", "notBehind", "[I", true)
  | _ => ("TenseLines$Order", "ahead", "[I", true)
def tyX1 : Nat → FieldType := fun k => match k with
  | 0 => .array .int
  | _ => .array .int
abbrev wsX10 : List Cond := u_ws RX1 TX1 2
theorem nmX1 : ∀ a, a < 2 → ∀ b, b < 2 → a ≠ b → (TX1 a).2.1 ≠ (TX1 b).2.1 := by decide +kernel
theorem tyX1_ok : ∀ k, k < 2 → parseFieldDescriptor (TX1 k).2.2.1 = some (tyX1 k) := by decide +kernel
abbrev cX1_init : ByteArray := prog_3_method_1_code
def yX1_init : MethodName := ⟨RX1, "<init>", "()V"⟩
abbrev cX1_empty : ByteArray := prog_3_method_2_code
def yX1_empty : MethodName := ⟨RX1, "empty", "()V"⟩
abbrev cX1_relate : ByteArray := prog_3_method_3_code
def yX1_relate : MethodName := ⟨RX1, "relate", "(III)V"⟩
abbrev cX1_chain : ByteArray := prog_3_method_4_code
def yX1_chain : MethodName := ⟨RX1, "chain", "(III)V"⟩
abbrev cX1_isSound : ByteArray := prog_3_method_5_code
def yX1_isSound : MethodName := ⟨RX1, "isSound", "()Z"⟩
abbrev cX1_tells : ByteArray := prog_3_method_6_code
def yX1_tells : MethodName := ⟨RX1, "tells", "(II)I"⟩
abbrev cX1_isAhead : ByteArray := prog_3_method_7_code
def yX1_isAhead : MethodName := ⟨RX1, "isAhead", "(II)Z"⟩
abbrev cX1_earliest : ByteArray := prog_3_method_8_code
def yX1_earliest : MethodName := ⟨RX1, "earliest", "(I)I"⟩
abbrev cX1_behindSome : ByteArray := prog_3_method_9_code
def yX1_behindSome : MethodName := ⟨RX1, "behindSome", "(I)I"⟩
abbrev cX1_aheadRow : ByteArray := prog_3_method_10_code
def yX1_aheadRow : MethodName := ⟨RX1, "aheadRow", "(I)I"⟩
abbrev cX1_notBehindRow : ByteArray := prog_3_method_11_code
def yX1_notBehindRow : MethodName := ⟨RX1, "notBehindRow", "(I)I"⟩
abbrev cX1_isWithin : ByteArray := prog_3_method_12_code
def yX1_isWithin : MethodName := ⟨RX1, "isWithin", "(I)Z"⟩
def RX2 : String := "TenseLines$Past"
def TX2 : u_T := fun k => match k with
  | 0 => ("TenseLines$Past", "rows", "[[I", true)
  | 1 => ("TenseLines$Past", "next", "I", false)
  | _ => ("TenseLines$Past", "size", "I", false)
def tyX2 : Nat → FieldType := fun k => match k with
  | 0 => .array (.array .int)
  | 1 => .int
  | _ => .int
abbrev wsX20 : List Cond := u_ws RX2 TX2 3
theorem nmX2 : ∀ a, a < 3 → ∀ b, b < 3 → a ≠ b → (TX2 a).2.1 ≠ (TX2 b).2.1 := by decide +kernel
theorem tyX2_ok : ∀ k, k < 3 → parseFieldDescriptor (TX2 k).2.2.1 = some (tyX2 k) := by decide +kernel
abbrev cX2_init : ByteArray := prog_4_method_1_code
def yX2_init : MethodName := ⟨RX2, "<init>", "()V"⟩
abbrev cX2_size : ByteArray := prog_4_method_2_code
def yX2_size : MethodName := ⟨RX2, "size", "()I"⟩
abbrev cX2_lose : ByteArray := prog_4_method_3_code
def yX2_lose : MethodName := ⟨RX2, "lose", "()V"⟩
abbrev cX2_note : ByteArray := prog_4_method_4_code
def yX2_note : MethodName := ⟨RX2, "note", "(LTenseLines$Telling;)V"⟩
abbrev cX2_restore : ByteArray := prog_4_method_5_code
def yX2_restore : MethodName := ⟨RX2, "restore", "(LTenseLines$Telling;)V"⟩
def RX3 : String := "TenseLines$Search"
def TX3 : u_T := fun k => match k with
  | 0 => ("TenseLines$Search", "alone", "LTenseLines$Order;", true)
  | 1 => ("TenseLines$Search", "notBehindBy", "[[I", true)
  | 2 => ("TenseLines$Search", "aheadBy", "[[I", true)
  | 3 => ("TenseLines$Search", "notBehind", "[I", true)
  | _ => ("TenseLines$Search", "ahead", "[I", true)
def tyX3 : Nat → FieldType := fun k => match k with
  | 0 => .object "TenseLines$Order"
  | 1 => .array (.array .int)
  | 2 => .array (.array .int)
  | 3 => .array .int
  | _ => .array .int
abbrev wsX30 : List Cond := u_ws RX3 TX3 5
theorem nmX3 : ∀ a, a < 5 → ∀ b, b < 5 → a ≠ b → (TX3 a).2.1 ≠ (TX3 b).2.1 := by decide +kernel
theorem tyX3_ok : ∀ k, k < 5 → parseFieldDescriptor (TX3 k).2.2.1 = some (tyX3 k) := by decide +kernel
abbrev cX3_init : ByteArray := prog_5_method_1_code
def yX3_init : MethodName := ⟨RX3, "<init>", "()V"⟩
abbrev cX3_fewest : ByteArray := prog_5_method_2_code
def yX3_fewest : MethodName := ⟨RX3, "fewest", "(LTenseLines$Telling;)I"⟩
abbrev cX3_noteSteps : ByteArray := prog_5_method_3_code
def yX3_noteSteps : MethodName := ⟨RX3, "noteSteps", "(LTenseLines$Telling;I)V"⟩
abbrev cX3_shortestRing : ByteArray := prog_5_method_4_code
def yX3_shortestRing : MethodName := ⟨RX3, "shortestRing", "(II)I"⟩
abbrev cX3_joinSteps : ByteArray := prog_5_method_5_code
def yX3_joinSteps : MethodName := ⟨RX3, "joinSteps", "(I)V"⟩
abbrev cX3_stepsBackTo : ByteArray := prog_5_method_6_code
def yX3_stepsBackTo : MethodName := ⟨RX3, "stepsBackTo", "(II)I"⟩
def RX4 : String := "TenseLines$Seen"
def TX4 : u_T := fun k => match k with
  | 0 => ("TenseLines$Seen", "first", "[I", true)
  | 1 => ("TenseLines$Seen", "second", "[I", true)
  | 2 => ("TenseLines$Seen", "answer", "[I", true)
  | _ => ("TenseLines$Seen", "size", "I", false)
def tyX4 : Nat → FieldType := fun k => match k with
  | 0 => .array .int
  | 1 => .array .int
  | 2 => .array .int
  | _ => .int
abbrev wsX40 : List Cond := u_ws RX4 TX4 4
theorem nmX4 : ∀ a, a < 4 → ∀ b, b < 4 → a ≠ b → (TX4 a).2.1 ≠ (TX4 b).2.1 := by decide +kernel
theorem tyX4_ok : ∀ k, k < 4 → parseFieldDescriptor (TX4 k).2.2.1 = some (tyX4 k) := by decide +kernel
abbrev cX4_init : ByteArray := prog_6_method_1_code
def yX4_init : MethodName := ⟨RX4, "<init>", "()V"⟩
abbrev cX4_size : ByteArray := prog_6_method_2_code
def yX4_size : MethodName := ⟨RX4, "size", "()I"⟩
abbrev cX4_empty : ByteArray := prog_6_method_3_code
def yX4_empty : MethodName := ⟨RX4, "empty", "()V"⟩
abbrev cX4_add : ByteArray := prog_6_method_4_code
def yX4_add : MethodName := ⟨RX4, "add", "(III)Z"⟩
abbrev cX4_isSoBy : ByteArray := prog_6_method_5_code
def yX4_isSoBy : MethodName := ⟨RX4, "isSoBy", "(LTenseLines$Order;)Z"⟩
def RX5 : String := "TenseLines$Tally"
def TX5 : u_T := fun k => match k with
  | 0 => ("TenseLines$Tally", "lowest", "[I", true)
  | 1 => ("TenseLines$Tally", "before", "[I", true)
  | 2 => ("TenseLines$Tally", "waysTo", "[I", true)
  | 3 => ("TenseLines$Tally", "waysOn", "[I", true)
  | 4 => ("TenseLines$Tally", "joining", "[I", true)
  | 5 => ("TenseLines$Tally", "ahead", "[[I", true)
  | 6 => ("TenseLines$Tally", "together", "I", false)
  | _ => ("TenseLines$Tally", "total", "I", false)
def tyX5 : Nat → FieldType := fun k => match k with
  | 0 => .array .int
  | 1 => .array .int
  | 2 => .array .int
  | 3 => .array .int
  | 4 => .array .int
  | 5 => .array (.array .int)
  | 6 => .int
  | _ => .int
abbrev wsX50 : List Cond := u_ws RX5 TX5 8
theorem nmX5 : ∀ a, a < 8 → ∀ b, b < 8 → a ≠ b → (TX5 a).2.1 ≠ (TX5 b).2.1 := by decide +kernel
theorem tyX5_ok : ∀ k, k < 8 → parseFieldDescriptor (TX5 k).2.2.1 = some (tyX5 k) := by decide +kernel
abbrev cX5_init : ByteArray := prog_7_method_1_code
def yX5_init : MethodName := ⟨RX5, "<init>", "()V"⟩
abbrev cX5_all : ByteArray := prog_7_method_2_code
def yX5_all : MethodName := ⟨RX5, "all", "()I"⟩
abbrev cX5_remaining : ByteArray := prog_7_method_3_code
def yX5_remaining : MethodName := ⟨RX5, "remaining", "(III)I"⟩
abbrev cX5_worst : ByteArray := prog_7_method_4_code
def yX5_worst : MethodName := ⟨RX5, "worst", "(II)I"⟩
abbrev cX5_fill : ByteArray := prog_7_method_5_code
def yX5_fill : MethodName := ⟨RX5, "fill", "(LTenseLines$Order;I)V"⟩
abbrev cX5_empty : ByteArray := prog_7_method_6_code
def yX5_empty : MethodName := ⟨RX5, "empty", "()V"⟩
abbrev cX5_putTogether : ByteArray := prog_7_method_7_code
def yX5_putTogether : MethodName := ⟨RX5, "putTogether", "(LTenseLines$Order;I)V"⟩
abbrev cX5_noteBefore : ByteArray := prog_7_method_8_code
def yX5_noteBefore : MethodName := ⟨RX5, "noteBefore", "(LTenseLines$Order;I)V"⟩
abbrev cX5_ready : ByteArray := prog_7_method_9_code
def yX5_ready : MethodName := ⟨RX5, "ready", "(I)I"⟩
abbrev cX5_countOn : ByteArray := prog_7_method_10_code
def yX5_countOn : MethodName := ⟨RX5, "countOn", "()V"⟩
abbrev cX5_compare : ByteArray := prog_7_method_11_code
def yX5_compare : MethodName := ⟨RX5, "compare", "()V"⟩
abbrev cX5_noteJoining : ByteArray := prog_7_method_12_code
def yX5_noteJoining : MethodName := ⟨RX5, "noteJoining", "(II)V"⟩
abbrev cX5_noteAhead : ByteArray := prog_7_method_13_code
def yX5_noteAhead : MethodName := ⟨RX5, "noteAhead", "(I)V"⟩
abbrev cX5_isWithin : ByteArray := prog_7_method_14_code
def yX5_isWithin : MethodName := ⟨RX5, "isWithin", "(I)Z"⟩
def RX6 : String := "TenseLines$Telling"
def TX6 : u_T := fun k => match k with
  | _ => ("TenseLines$Telling", "cells", "[I", true)
def tyX6 : Nat → FieldType := fun k => match k with
  | _ => .array .int
abbrev wsX60 : List Cond := u_ws RX6 TX6 1
theorem nmX6 : ∀ a, a < 1 → ∀ b, b < 1 → a ≠ b → (TX6 a).2.1 ≠ (TX6 b).2.1 := by decide +kernel
theorem tyX6_ok : ∀ k, k < 1 → parseFieldDescriptor (TX6 k).2.2.1 = some (tyX6 k) := by decide +kernel
abbrev cX6_init : ByteArray := prog_8_method_1_code
def yX6_init : MethodName := ⟨RX6, "<init>", "()V"⟩
abbrev cX6_empty : ByteArray := prog_8_method_2_code
def yX6_empty : MethodName := ⟨RX6, "empty", "()V"⟩
abbrev cX6_become : ByteArray := prog_8_method_3_code
def yX6_become : MethodName := ⟨RX6, "become", "(LTenseLines$Telling;)V"⟩
abbrev cX6_copyFrom : ByteArray := prog_8_method_4_code
def yX6_copyFrom : MethodName := ⟨RX6, "copyFrom", "([I)V"⟩
abbrev cX6_copyTo : ByteArray := prog_8_method_5_code
def yX6_copyTo : MethodName := ⟨RX6, "copyTo", "([I)V"⟩
abbrev cX6_copyRow : ByteArray := prog_8_method_6_code
def yX6_copyRow : MethodName := ⟨RX6, "copyRow", "([I[I)V"⟩
abbrev cX6_clauses : ByteArray := prog_8_method_7_code
def yX6_clauses : MethodName := ⟨RX6, "clauses", "()I"⟩
abbrev cX6_statements : ByteArray := prog_8_method_8_code
def yX6_statements : MethodName := ⟨RX6, "statements", "()I"⟩
abbrev cX6_sayings : ByteArray := prog_8_method_9_code
def yX6_sayings : MethodName := ⟨RX6, "sayings", "()I"⟩
abbrev cX6_everything : ByteArray := prog_8_method_10_code
def yX6_everything : MethodName := ⟨RX6, "everything", "()I"⟩
abbrev cX6_tenseOf : ByteArray := prog_8_method_11_code
def yX6_tenseOf : MethodName := ⟨RX6, "tenseOf", "(I)I"⟩
abbrev cX6_linkOf : ByteArray := prog_8_method_12_code
def yX6_linkOf : MethodName := ⟨RX6, "linkOf", "(I)I"⟩
abbrev cX6_placeOf : ByteArray := prog_8_method_13_code
def yX6_placeOf : MethodName := ⟨RX6, "placeOf", "(I)I"⟩
abbrev cX6_clauseAt : ByteArray := prog_8_method_14_code
def yX6_clauseAt : MethodName := ⟨RX6, "clauseAt", "(I)I"⟩
abbrev cX6_firstAt : ByteArray := prog_8_method_15_code
def yX6_firstAt : MethodName := ⟨RX6, "firstAt", "(I)I"⟩
abbrev cX6_signAt : ByteArray := prog_8_method_16_code
def yX6_signAt : MethodName := ⟨RX6, "signAt", "(I)I"⟩
abbrev cX6_secondAt : ByteArray := prog_8_method_17_code
def yX6_secondAt : MethodName := ⟨RX6, "secondAt", "(I)I"⟩
abbrev cX6_clauseCell : ByteArray := prog_8_method_18_code
def yX6_clauseCell : MethodName := ⟨RX6, "clauseCell", "(II)I"⟩
abbrev cX6_statementCell : ByteArray := prog_8_method_19_code
def yX6_statementCell : MethodName := ⟨RX6, "statementCell", "(II)I"⟩
abbrev cX6_setTense : ByteArray := prog_8_method_20_code
def yX6_setTense : MethodName := ⟨RX6, "setTense", "(II)V"⟩
abbrev cX6_setLink : ByteArray := prog_8_method_21_code
def yX6_setLink : MethodName := ⟨RX6, "setLink", "(II)V"⟩
abbrev cX6_addClause : ByteArray := prog_8_method_22_code
def yX6_addClause : MethodName := ⟨RX6, "addClause", "(II)V"⟩
abbrev cX6_addSaying : ByteArray := prog_8_method_23_code
def yX6_addSaying : MethodName := ⟨RX6, "addSaying", "(III)V"⟩
abbrev cX6_addStatement : ByteArray := prog_8_method_24_code
def yX6_addStatement : MethodName := ⟨RX6, "addStatement", "(IIII)V"⟩
abbrev cX6_removeSaying : ByteArray := prog_8_method_25_code
def yX6_removeSaying : MethodName := ⟨RX6, "removeSaying", "(I)V"⟩
abbrev cX6_tellOne : ByteArray := prog_8_method_26_code
def yX6_tellOne : MethodName := ⟨RX6, "tellOne", "(ILTenseLines$Order;)V"⟩
def RX7 : String := "TenseLines$Text"
def TX7 : u_T := fun k => match k with
  | 0 => ("TenseLines$Text", "letters", "[I", true)
  | 1 => ("TenseLines$Text", "length", "I", false)
  | 2 => ("TenseLines$Text", "due", "I", false)
  | 3 => ("TenseLines$Text", "link", "I", false)
  | 4 => ("TenseLines$Text", "tense", "I", false)
  | 5 => ("TenseLines$Text", "first", "I", false)
  | 6 => ("TenseLines$Text", "sign", "I", false)
  | _ => ("TenseLines$Text", "second", "I", false)
def tyX7 : Nat → FieldType := fun k => match k with
  | 0 => .array .int
  | 1 => .int
  | 2 => .int
  | 3 => .int
  | 4 => .int
  | 5 => .int
  | 6 => .int
  | _ => .int
abbrev wsX70 : List Cond := u_ws RX7 TX7 8
theorem nmX7 : ∀ a, a < 8 → ∀ b, b < 8 → a ≠ b → (TX7 a).2.1 ≠ (TX7 b).2.1 := by decide +kernel
theorem tyX7_ok : ∀ k, k < 8 → parseFieldDescriptor (TX7 k).2.2.1 = some (tyX7 k) := by decide +kernel
abbrev cX7_init : ByteArray := prog_9_method_1_code
def yX7_init : MethodName := ⟨RX7, "<init>", "()V"⟩
abbrev cX7_size : ByteArray := prog_9_method_2_code
def yX7_size : MethodName := ⟨RX7, "size", "()I"⟩
abbrev cX7_empty : ByteArray := prog_9_method_3_code
def yX7_empty : MethodName := ⟨RX7, "empty", "()V"⟩
abbrev cX7_append : ByteArray := prog_9_method_4_code
def yX7_append : MethodName := ⟨RX7, "append", "(I)Z"⟩
abbrev cX7_readInto : ByteArray := prog_9_method_5_code
def yX7_readInto : MethodName := ⟨RX7, "readInto", "(LTenseLines$Telling;)I"⟩
abbrev cX7_passes : ByteArray := prog_9_method_6_code
def yX7_passes : MethodName := ⟨RX7, "passes", "(ILTenseLines$Telling;)Z"⟩
abbrev cX7_beginsItem : ByteArray := prog_9_method_7_code
def yX7_beginsItem : MethodName := ⟨RX7, "beginsItem", "(ILTenseLines$Telling;)Z"⟩
abbrev cX7_beginsSaying : ByteArray := prog_9_method_8_code
def yX7_beginsSaying : MethodName := ⟨RX7, "beginsSaying", "(ILTenseLines$Telling;)Z"⟩
abbrev cX7_givesTense : ByteArray := prog_9_method_9_code
def yX7_givesTense : MethodName := ⟨RX7, "givesTense", "(I)Z"⟩
abbrev cX7_givesSign : ByteArray := prog_9_method_10_code
def yX7_givesSign : MethodName := ⟨RX7, "givesSign", "(I)Z"⟩
abbrev cX7_givesSecond : ByteArray := prog_9_method_11_code
def yX7_givesSecond : MethodName := ⟨RX7, "givesSecond", "(ILTenseLines$Telling;)Z"⟩
abbrev cX7_endsItem : ByteArray := prog_9_method_12_code
def yX7_endsItem : MethodName := ⟨RX7, "endsItem", "(ILTenseLines$Telling;)Z"⟩
abbrev cX7_timeOf : ByteArray := prog_9_method_13_code
def yX7_timeOf : MethodName := ⟨RX7, "timeOf", "(ILTenseLines$Telling;)I"⟩
def RX8 : String := "TenseLines"
def TX8 : u_T := fun k => match k with
  | 0 => ("TenseLines", "telling", "LTenseLines$Telling;", true)
  | 1 => ("TenseLines", "draft", "LTenseLines$Telling;", true)
  | 2 => ("TenseLines", "text", "LTenseLines$Text;", true)
  | 3 => ("TenseLines", "past", "LTenseLines$Past;", true)
  | 4 => ("TenseLines", "images", "LTenseLines$Images;", true)
  | 5 => ("TenseLines", "seen", "LTenseLines$Seen;", true)
  | 6 => ("TenseLines", "order", "LTenseLines$Order;", true)
  | 7 => ("TenseLines", "search", "LTenseLines$Search;", true)
  | _ => ("TenseLines", "tally", "LTenseLines$Tally;", true)
def tyX8 : Nat → FieldType := fun k => match k with
  | 0 => .object "TenseLines$Telling"
  | 1 => .object "TenseLines$Telling"
  | 2 => .object "TenseLines$Text"
  | 3 => .object "TenseLines$Past"
  | 4 => .object "TenseLines$Images"
  | 5 => .object "TenseLines$Seen"
  | 6 => .object "TenseLines$Order"
  | 7 => .object "TenseLines$Search"
  | _ => .object "TenseLines$Tally"
abbrev wsX80 : List Cond := u_ws RX8 TX8 9
theorem nmX8 : ∀ a, a < 9 → ∀ b, b < 9 → a ≠ b → (TX8 a).2.1 ≠ (TX8 b).2.1 := by decide +kernel
theorem tyX8_ok : ∀ k, k < 9 → parseFieldDescriptor (TX8 k).2.2.1 = some (tyX8 k) := by decide +kernel
abbrev cX8_init : ByteArray := prog_1_method_1_code
def yX8_init : MethodName := ⟨RX8, "<init>", "()V"⟩
abbrev cX8_type : ByteArray := prog_1_method_2_code
def yX8_type : MethodName := ⟨RX8, "type", "(I)I"⟩
abbrev cX8_clear : ByteArray := prog_1_method_3_code
def yX8_clear : MethodName := ⟨RX8, "clear", "()I"⟩
abbrev cX8_reads : ByteArray := prog_1_method_4_code
def yX8_reads : MethodName := ⟨RX8, "reads", "()I"⟩
abbrev cX8_clause : ByteArray := prog_1_method_5_code
def yX8_clause : MethodName := ⟨RX8, "clause", "(II)I"⟩
abbrev cX8_statement : ByteArray := prog_1_method_6_code
def yX8_statement : MethodName := ⟨RX8, "statement", "(II)I"⟩
abbrev cX8_says : ByteArray := prog_1_method_7_code
def yX8_says : MethodName := ⟨RX8, "says", "(III)I"⟩
abbrev cX8_takes : ByteArray := prog_1_method_8_code
def yX8_takes : MethodName := ⟨RX8, "takes", "(I)I"⟩
abbrev cX8_tenses : ByteArray := prog_1_method_9_code
def yX8_tenses : MethodName := ⟨RX8, "tenses", "(II)I"⟩
abbrev cX8_links : ByteArray := prog_1_method_10_code
def yX8_links : MethodName := ⟨RX8, "links", "(II)I"⟩
abbrev cX8_undo : ByteArray := prog_1_method_11_code
def yX8_undo : MethodName := ⟨RX8, "undo", "()I"⟩
abbrev cX8_sound : ByteArray := prog_1_method_12_code
def yX8_sound : MethodName := ⟨RX8, "sound", "()I"⟩
abbrev cX8_clash : ByteArray := prog_1_method_13_code
def yX8_clash : MethodName := ⟨RX8, "clash", "(I)I"⟩
abbrev cX8_known : ByteArray := prog_1_method_14_code
def yX8_known : MethodName := ⟨RX8, "known", "(II)I"⟩
abbrev cX8_line : ByteArray := prog_1_method_15_code
def yX8_line : MethodName := ⟨RX8, "line", "(I)I"⟩
abbrev cX8_would : ByteArray := prog_1_method_16_code
def yX8_would : MethodName := ⟨RX8, "would", "(III)I"⟩
abbrev cX8_orders : ByteArray := prog_1_method_17_code
def yX8_orders : MethodName := ⟨RX8, "orders", "()I"⟩
abbrev cX8_left : ByteArray := prog_1_method_18_code
def yX8_left : MethodName := ⟨RX8, "left", "(III)I"⟩
abbrev cX8_best : ByteArray := prog_1_method_19_code
def yX8_best : MethodName := ⟨RX8, "best", "(I)I"⟩
abbrev cX8_sees : ByteArray := prog_1_method_20_code
def yX8_sees : MethodName := ⟨RX8, "sees", "(III)I"⟩
abbrev cX8_forget : ByteArray := prog_1_method_21_code
def yX8_forget : MethodName := ⟨RX8, "forget", "()I"⟩
abbrev cX8_unseen : ByteArray := prog_1_method_22_code
def yX8_unseen : MethodName := ⟨RX8, "unseen", "()I"⟩
abbrev cX8_keep : ByteArray := prog_1_method_23_code
def yX8_keep : MethodName := ⟨RX8, "keep", "(I)I"⟩
abbrev cX8_back : ByteArray := prog_1_method_24_code
def yX8_back : MethodName := ⟨RX8, "back", "(I)I"⟩
abbrev cX8_count : ByteArray := prog_1_method_25_code
def yX8_count : MethodName := ⟨RX8, "count", "(I)I"⟩
abbrev cX8_isClause : ByteArray := prog_1_method_26_code
def yX8_isClause : MethodName := ⟨RX8, "isClause", "(I)Z"⟩
abbrev cX8_isStatement : ByteArray := prog_1_method_27_code
def yX8_isStatement : MethodName := ⟨RX8, "isStatement", "(I)Z"⟩
abbrev cX8_isTime : ByteArray := prog_1_method_28_code
def yX8_isTime : MethodName := ⟨RX8, "isTime", "(I)Z"⟩
abbrev cX8_isNowOrEvent : ByteArray := prog_1_method_29_code
def yX8_isNowOrEvent : MethodName := ⟨RX8, "isNowOrEvent", "(I)Z"⟩
abbrev cX8_canBeSaid : ByteArray := prog_1_method_30_code
def yX8_canBeSaid : MethodName := ⟨RX8, "canBeSaid", "(III)Z"⟩
abbrev cX8_orderAll : ByteArray := prog_1_method_31_code
def yX8_orderAll : MethodName := ⟨RX8, "orderAll", "()V"⟩
abbrev cX8_orderSet : ByteArray := prog_1_method_32_code
def yX8_orderSet : MethodName := ⟨RX8, "orderSet", "(I)V"⟩
abbrev cX8_tallyAll : ByteArray := prog_1_method_33_code
def yX8_tallyAll : MethodName := ⟨RX8, "tallyAll", "()V"⟩
abbrev cX8_lookOf : ByteArray := prog_1_method_34_code
def yX8_lookOf : MethodName := ⟨RX8, "lookOf", "(I)I"⟩
abbrev cX8_eventOf : ByteArray := prog_1_method_35_code
def yX8_eventOf : MethodName := ⟨RX8, "eventOf", "(I)I"⟩
abbrev cX8_has : ByteArray := prog_1_method_36_code
def yX8_has : MethodName := ⟨RX8, "has", "(II)Z"⟩
def RX9 : String := "TenseLinesModel"
def TX9 : u_T := fun k => match k with
  | 0 => ("TenseLinesModel", "thrown", "I", false)
  | 1 => ("TenseLinesModel", "s", "[I", true)
  | 2 => ("TenseLinesModel", "read", "[I", true)
  | 3 => ("TenseLinesModel", "past", "[I", true)
  | 4 => ("TenseLinesModel", "undos", "I", false)
  | 5 => ("TenseLinesModel", "kept", "[I", true)
  | 6 => ("TenseLinesModel", "isKept", "[Z", true)
  | 7 => ("TenseLinesModel", "seen", "I", false)
  | 8 => ("TenseLinesModel", "seenP", "[I", true)
  | 9 => ("TenseLinesModel", "seenQ", "[I", true)
  | 10 => ("TenseLinesModel", "seenIs", "[I", true)
  | 11 => ("TenseLinesModel", "letters", "I", false)
  | 12 => ("TenseLinesModel", "text", "[I", true)
  | 13 => ("TenseLinesModel", "next", "I", false)
  | 14 => ("TenseLinesModel", "times", "I", false)
  | 15 => ("TenseLinesModel", "same", "[I", true)
  | 16 => ("TenseLinesModel", "ahead", "[I", true)
  | 17 => ("TenseLinesModel", "level", "[I", true)
  | 18 => ("TenseLinesModel", "below", "[I", true)
  | 19 => ("TenseLinesModel", "ways", "[I", true)
  | 20 => ("TenseLinesModel", "first", "[I", true)
  | _ => ("TenseLinesModel", "once", "[I", true)
def tyX9 : Nat → FieldType := fun k => match k with
  | 0 => .int
  | 1 => .array .int
  | 2 => .array .int
  | 3 => .array .int
  | 4 => .int
  | 5 => .array .int
  | 6 => .array .boolean
  | 7 => .int
  | 8 => .array .int
  | 9 => .array .int
  | 10 => .array .int
  | 11 => .int
  | 12 => .array .int
  | 13 => .int
  | 14 => .int
  | 15 => .array .int
  | 16 => .array .int
  | 17 => .array .int
  | 18 => .array .int
  | 19 => .array .int
  | 20 => .array .int
  | _ => .array .int
abbrev wsX90 : List Cond := u_ws RX9 TX9 22
theorem nmX9 : ∀ a, a < 22 → ∀ b, b < 22 → a ≠ b → (TX9 a).2.1 ≠ (TX9 b).2.1 := by decide +kernel
theorem tyX9_ok : ∀ k, k < 22 → parseFieldDescriptor (TX9 k).2.2.1 = some (tyX9 k) := by decide +kernel
abbrev cX9_init : ByteArray := prog_11_method_1_code
def yX9_init : MethodName := ⟨RX9, "<init>", "()V"⟩
abbrev cX9_in : ByteArray := prog_11_method_3_code
def yX9_in : MethodName := ⟨RX9, "in", "(III)Z"⟩
abbrev cX9_isClause : ByteArray := prog_11_method_4_code
def yX9_isClause : MethodName := ⟨RX9, "isClause", "(I)Z"⟩
abbrev cX9_isStatement : ByteArray := prog_11_method_5_code
def yX9_isStatement : MethodName := ⟨RX9, "isStatement", "(I)Z"⟩
abbrev cX9_isTime : ByteArray := prog_11_method_6_code
def yX9_isTime : MethodName := ⟨RX9, "isTime", "(I)Z"⟩
abbrev cX9_isSaid : ByteArray := prog_11_method_7_code
def yX9_isSaid : MethodName := ⟨RX9, "isSaid", "(I)Z"⟩
abbrev cX9_ofStatement : ByteArray := prog_11_method_8_code
def yX9_ofStatement : MethodName := ⟨RX9, "ofStatement", "(II)I"⟩
abbrev cX9_sayings : ByteArray := prog_11_method_9_code
def yX9_sayings : MethodName := ⟨RX9, "sayings", "()I"⟩
abbrev cX9_all : ByteArray := prog_11_method_10_code
def yX9_all : MethodName := ⟨RX9, "all", "()I"⟩
abbrev cX9_type : ByteArray := prog_11_method_11_code
def yX9_type : MethodName := ⟨RX9, "type", "(I)I"⟩
abbrev cX9_clear : ByteArray := prog_11_method_12_code
def yX9_clear : MethodName := ⟨RX9, "clear", "()I"⟩
abbrev cX9_here : ByteArray := prog_11_method_13_code
def yX9_here : MethodName := ⟨RX9, "here", "()I"⟩
abbrev cX9_tenseOf : ByteArray := prog_11_method_14_code
def yX9_tenseOf : MethodName := ⟨RX9, "tenseOf", "(I)I"⟩
abbrev cX9_linkOf : ByteArray := prog_11_method_15_code
def yX9_linkOf : MethodName := ⟨RX9, "linkOf", "(I)I"⟩
abbrev cX9_timeOf : ByteArray := prog_11_method_16_code
def yX9_timeOf : MethodName := ⟨RX9, "timeOf", "(I)I"⟩
abbrev cX9_adds : ByteArray := prog_11_method_17_code
def yX9_adds : MethodName := ⟨RX9, "adds", "(IIII)V"⟩
abbrev cX9_readsSaying : ByteArray := prog_11_method_18_code
def yX9_readsSaying : MethodName := ⟨RX9, "readsSaying", "()Z"⟩
abbrev cX9_readsClause : ByteArray := prog_11_method_19_code
def yX9_readsClause : MethodName := ⟨RX9, "readsClause", "()Z"⟩
abbrev cX9_reads : ByteArray := prog_11_method_20_code
def yX9_reads : MethodName := ⟨RX9, "reads", "()I"⟩
abbrev cX9_areSame : ByteArray := prog_11_method_21_code
def yX9_areSame : MethodName := ⟨RX9, "areSame", "(II)V"⟩
abbrev cX9_isAhead : ByteArray := prog_11_method_22_code
def yX9_isAhead : MethodName := ⟨RX9, "isAhead", "(II)V"⟩
abbrev cX9_lays : ByteArray := prog_11_method_23_code
def yX9_lays : MethodName := ⟨RX9, "lays", "(III)V"⟩
abbrev cX9_laysTense : ByteArray := prog_11_method_24_code
def yX9_laysTense : MethodName := ⟨RX9, "laysTense", "(I)V"⟩
abbrev cX9_laysLink : ByteArray := prog_11_method_25_code
def yX9_laysLink : MethodName := ⟨RX9, "laysLink", "(I)V"⟩
abbrev cX9_laysAll : ByteArray := prog_11_method_26_code
def yX9_laysAll : MethodName := ⟨RX9, "laysAll", "(IIII)V"⟩
abbrev cX9_classOf : ByteArray := prog_11_method_27_code
def yX9_classOf : MethodName := ⟨RX9, "classOf", "(I)I"⟩
abbrev cX9_isSound : ByteArray := prog_11_method_28_code
def yX9_isSound : MethodName := ⟨RX9, "isSound", "()Z"⟩
abbrev cX9_laysBelow : ByteArray := prog_11_method_29_code
def yX9_laysBelow : MethodName := ⟨RX9, "laysBelow", "()V"⟩
abbrev cX9_knownBy : ByteArray := prog_11_method_30_code
def yX9_knownBy : MethodName := ⟨RX9, "knownBy", "(III)I"⟩
abbrev cX9_clause : ByteArray := prog_11_method_31_code
def yX9_clause : MethodName := ⟨RX9, "clause", "(II)I"⟩
abbrev cX9_statement : ByteArray := prog_11_method_32_code
def yX9_statement : MethodName := ⟨RX9, "statement", "(II)I"⟩
abbrev cX9_sound : ByteArray := prog_11_method_33_code
def yX9_sound : MethodName := ⟨RX9, "sound", "()I"⟩
abbrev cX9_ones : ByteArray := prog_11_method_34_code
def yX9_ones : MethodName := ⟨RX9, "ones", "(I)I"⟩
abbrev cX9_clash : ByteArray := prog_11_method_35_code
def yX9_clash : MethodName := ⟨RX9, "clash", "(I)I"⟩
abbrev cX9_known : ByteArray := prog_11_method_36_code
def yX9_known : MethodName := ⟨RX9, "known", "(II)I"⟩
abbrev cX9_line : ByteArray := prog_11_method_37_code
def yX9_line : MethodName := ⟨RX9, "line", "(I)I"⟩
abbrev cX9_would : ByteArray := prog_11_method_38_code
def yX9_would : MethodName := ⟨RX9, "would", "(III)I"⟩
abbrev cX9_canCome : ByteArray := prog_11_method_39_code
def yX9_canCome : MethodName := ⟨RX9, "canCome", "(II)Z"⟩
abbrev cX9_ordersWith : ByteArray := prog_11_method_40_code
def yX9_ordersWith : MethodName := ⟨RX9, "ordersWith", "(III)I"⟩
abbrev cX9_orders : ByteArray := prog_11_method_41_code
def yX9_orders : MethodName := ⟨RX9, "orders", "()I"⟩
abbrev cX9_leftBy : ByteArray := prog_11_method_42_code
def yX9_leftBy : MethodName := ⟨RX9, "leftBy", "(III)I"⟩
abbrev cX9_left : ByteArray := prog_11_method_43_code
def yX9_left : MethodName := ⟨RX9, "left", "(III)I"⟩
abbrev cX9_best : ByteArray := prog_11_method_44_code
def yX9_best : MethodName := ⟨RX9, "best", "(I)I"⟩
abbrev cX9_notes : ByteArray := prog_11_method_45_code
def yX9_notes : MethodName := ⟨RX9, "notes", "()V"⟩
abbrev cX9_says : ByteArray := prog_11_method_46_code
def yX9_says : MethodName := ⟨RX9, "says", "(III)I"⟩
abbrev cX9_takes : ByteArray := prog_11_method_47_code
def yX9_takes : MethodName := ⟨RX9, "takes", "(I)I"⟩
abbrev cX9_becomes : ByteArray := prog_11_method_48_code
def yX9_becomes : MethodName := ⟨RX9, "becomes", "(II)I"⟩
abbrev cX9_tenses : ByteArray := prog_11_method_49_code
def yX9_tenses : MethodName := ⟨RX9, "tenses", "(II)I"⟩
abbrev cX9_links : ByteArray := prog_11_method_50_code
def yX9_links : MethodName := ⟨RX9, "links", "(II)I"⟩
abbrev cX9_undo : ByteArray := prog_11_method_51_code
def yX9_undo : MethodName := ⟨RX9, "undo", "()I"⟩
abbrev cX9_sees : ByteArray := prog_11_method_52_code
def yX9_sees : MethodName := ⟨RX9, "sees", "(III)I"⟩
abbrev cX9_forget : ByteArray := prog_11_method_53_code
def yX9_forget : MethodName := ⟨RX9, "forget", "()I"⟩
abbrev cX9_unseen : ByteArray := prog_11_method_54_code
def yX9_unseen : MethodName := ⟨RX9, "unseen", "()I"⟩
abbrev cX9_keep : ByteArray := prog_11_method_55_code
def yX9_keep : MethodName := ⟨RX9, "keep", "(I)I"⟩
abbrev cX9_back : ByteArray := prog_11_method_56_code
def yX9_back : MethodName := ⟨RX9, "back", "(I)I"⟩
abbrev cX9_count : ByteArray := prog_11_method_57_code
def yX9_count : MethodName := ⟨RX9, "count", "(I)I"⟩
def RJ11 : String := "java/lang/Character"
def TJ11 : u_T := fun k => match k with
  | _ => ("", "", "", false)
def tyJ11 : Nat → FieldType := fun k => match k with
  | _ => .int
abbrev wsJ110 : List Cond := u_ws RJ11 TJ11 0
theorem nmJ11 : ∀ a, a < 0 → ∀ b, b < 0 → a ≠ b → (TJ11 a).2.1 ≠ (TJ11 b).2.1 := by decide +kernel
theorem tyJ11_ok : ∀ k, k < 0 → parseFieldDescriptor (TJ11 k).2.2.1 = some (tyJ11 k) := by decide +kernel
abbrev cJ11_isValidCodePoint_9a6ad : ByteArray := prog_12_method_11_code
def yJ11_isValidCodePoint_9a6ad : MethodName := ⟨RJ11, "isValidCodePoint", "(I)Z"⟩
abbrev cJ11_highSurrogate_5068e : ByteArray := prog_12_method_28_code
def yJ11_highSurrogate_5068e : MethodName := ⟨RJ11, "highSurrogate", "(I)C"⟩
abbrev cJ11_lowSurrogate_5068e : ByteArray := prog_12_method_29_code
def yJ11_lowSurrogate_5068e : MethodName := ⟨RJ11, "lowSurrogate", "(I)C"⟩
def RJ6 : String := "java/lang/Integer"
def TJ6 : u_T := fun k => match k with
  | _ => ("", "", "", false)
def tyJ6 : Nat → FieldType := fun k => match k with
  | _ => .int
abbrev wsJ60 : List Cond := u_ws RJ6 TJ6 0
theorem nmJ6 : ∀ a, a < 0 → ∀ b, b < 0 → a ≠ b → (TJ6 a).2.1 ≠ (TJ6 b).2.1 := by decide +kernel
theorem tyJ6_ok : ∀ k, k < 0 → parseFieldDescriptor (TJ6 k).2.2.1 = some (tyJ6 k) := by decide +kernel
abbrev cJ6_bitCount_0f7a4 : ByteArray := prog_13_method_49_code
def yJ6_bitCount_0f7a4 : MethodName := ⟨RJ6, "bitCount", "(I)I"⟩
def RJ9 : String := "java/lang/Math"
def TJ9 : u_T := fun k => match k with
  | _ => ("", "", "", false)
def tyJ9 : Nat → FieldType := fun k => match k with
  | _ => .int
abbrev wsJ90 : List Cond := u_ws RJ9 TJ9 0
theorem nmJ9 : ∀ a, a < 0 → ∀ b, b < 0 → a ≠ b → (TJ9 a).2.1 ≠ (TJ9 b).2.1 := by decide +kernel
theorem tyJ9_ok : ∀ k, k < 0 → parseFieldDescriptor (TJ9 k).2.2.1 = some (tyJ9 k) := by decide +kernel
abbrev cJ9_max_7cf53 : ByteArray := prog_14_method_65_code
def yJ9_max_7cf53 : MethodName := ⟨RJ9, "max", "(II)I"⟩
abbrev cJ9_min_7cf53 : ByteArray := prog_14_method_69_code
def yJ9_min_7cf53 : MethodName := ⟨RJ9, "min", "(II)I"⟩
def RJ0 : String := "java/lang/String"
def TJ0 : u_T := fun k => match k with
  | _ => ("", "", "", false)
def tyJ0 : Nat → FieldType := fun k => match k with
  | _ => .int
abbrev wsJ00 : List Cond := u_ws RJ0 TJ0 0
theorem nmJ0 : ∀ a, a < 0 → ∀ b, b < 0 → a ≠ b → (TJ0 a).2.1 ≠ (TJ0 b).2.1 := by decide +kernel
theorem tyJ0_ok : ∀ k, k < 0 → parseFieldDescriptor (TJ0 k).2.2.1 = some (tyJ0 k) := by decide +kernel
abbrev cJ0_length_8abf5 : ByteArray := prog_15_method_54_code
def yJ0_length_8abf5 : MethodName := ⟨RJ0, "length", "()I"⟩
abbrev cJ0_indexOf_0f7a4 : ByteArray := prog_15_method_79_code
def yJ0_indexOf_0f7a4 : MethodName := ⟨RJ0, "indexOf", "(I)I"⟩
abbrev cJ0_indexOf_7cf53 : ByteArray := prog_15_method_80_code
def yJ0_indexOf_7cf53 : MethodName := ⟨RJ0, "indexOf", "(II)I"⟩
abbrev cJ0_coder_7d493 : ByteArray := prog_15_method_152_code
def yJ0_coder_7d493 : MethodName := ⟨RJ0, "coder", "()B"⟩
abbrev cJ0_isLatin1_aae02 : ByteArray := prog_15_method_154_code
def yJ0_isLatin1_aae02 : MethodName := ⟨RJ0, "isLatin1", "()Z"⟩
abbrev cJ0_checkBoundsBeginEnd_23922 : ByteArray := prog_15_method_158_code
def yJ0_checkBoundsBeginEnd_23922 : MethodName := ⟨RJ0, "checkBoundsBeginEnd", "(III)V"⟩
def RJ1 : String := "java/lang/StringLatin1"
def TJ1 : u_T := fun k => match k with
  | _ => ("", "", "", false)
def tyJ1 : Nat → FieldType := fun k => match k with
  | _ => .int
abbrev wsJ10 : List Cond := u_ws RJ1 TJ1 0
theorem nmJ1 : ∀ a, a < 0 → ∀ b, b < 0 → a ≠ b → (TJ1 a).2.1 ≠ (TJ1 b).2.1 := by decide +kernel
theorem tyJ1_ok : ∀ k, k < 0 → parseFieldDescriptor (TJ1 k).2.2.1 = some (tyJ1 k) := by decide +kernel
abbrev cJ1_canEncode_9a6ad : ByteArray := prog_16_method_4_code
def yJ1_canEncode_9a6ad : MethodName := ⟨RJ1, "canEncode", "(I)Z"⟩
abbrev cJ1_indexOf_4cfef : ByteArray := prog_16_method_22_code
def yJ1_indexOf_4cfef : MethodName := ⟨RJ1, "indexOf", "([BIII)I"⟩
abbrev cJ1_indexOfChar_4cfef : ByteArray := prog_16_method_23_code
def yJ1_indexOfChar_4cfef : MethodName := ⟨RJ1, "indexOfChar", "([BIII)I"⟩
def RJ2 : String := "java/lang/StringUTF16"
def TJ2 : u_T := fun k => match k with
  | _ => ("", "", "", false)
def tyJ2 : Nat → FieldType := fun k => match k with
  | _ => .int
abbrev wsJ20 : List Cond := u_ws RJ2 TJ2 0
theorem nmJ2 : ∀ a, a < 0 → ∀ b, b < 0 → a ≠ b → (TJ2 a).2.1 ≠ (TJ2 b).2.1 := by decide +kernel
theorem tyJ2_ok : ∀ k, k < 0 → parseFieldDescriptor (TJ2 k).2.2.1 = some (tyJ2 k) := by decide +kernel
abbrev cJ2_getChar_3b067 : ByteArray := prog_17_method_5_code
def yJ2_getChar_3b067 : MethodName := ⟨RJ2, "getChar", "([BI)C"⟩
abbrev cJ2_length_9d52b : ByteArray := prog_17_method_6_code
def yJ2_length_9d52b : MethodName := ⟨RJ2, "length", "([B)I"⟩
abbrev cJ2_indexOf_4cfef : ByteArray := prog_17_method_40_code
def yJ2_indexOf_4cfef : MethodName := ⟨RJ2, "indexOf", "([BIII)I"⟩
abbrev cJ2_indexOfChar_4cfef : ByteArray := prog_17_method_47_code
def yJ2_indexOfChar_4cfef : MethodName := ⟨RJ2, "indexOfChar", "([BIII)I"⟩
abbrev cJ2_indexOfCharUnsafe_4cfef : ByteArray := prog_17_method_48_code
def yJ2_indexOfCharUnsafe_4cfef : MethodName := ⟨RJ2, "indexOfCharUnsafe", "([BIII)I"⟩
abbrev cJ2_indexOfSupplementary_4cfef : ByteArray := prog_17_method_49_code
def yJ2_indexOfSupplementary_4cfef : MethodName := ⟨RJ2, "indexOfSupplementary", "([BIII)I"⟩
abbrev cJ2_checkBoundsBeginEnd_d044e : ByteArray := prog_17_method_93_code
def yJ2_checkBoundsBeginEnd_d044e : MethodName := ⟨RJ2, "checkBoundsBeginEnd", "(II[B)V"⟩
def RJ3 : String := "jdk/internal/util/Preconditions"
def TJ3 : u_T := fun k => match k with
  | _ => ("", "", "", false)
def tyJ3 : Nat → FieldType := fun k => match k with
  | _ => .int
abbrev wsJ30 : List Cond := u_ws RJ3 TJ3 0
theorem nmJ3 : ∀ a, a < 0 → ∀ b, b < 0 → a ≠ b → (TJ3 a).2.1 ≠ (TJ3 b).2.1 := by decide +kernel
theorem tyJ3_ok : ∀ k, k < 0 → parseFieldDescriptor (TJ3 k).2.2.1 = some (tyJ3 k) := by decide +kernel
abbrev cJ3_checkFromToIndex_8c36e : ByteArray := prog_18_method_12_code
def yJ3_checkFromToIndex_8c36e : MethodName := ⟨RJ3, "checkFromToIndex", "(IIILjava/util/function/BiFunction;)I"⟩
def RL : String := "TenseLinesLaw"
abbrev cL_law : ByteArray := code
def yL_law : MethodName := ⟨RL, "law", "([I)Z"⟩
abbrev vwCl : List vw_C := [(RX0, TX0, 2), (RX1, TX1, 2), (RX2, TX2, 3), (RX3, TX3, 5), (RX4, TX4, 4), (RX5, TX5, 8), (RX6, TX6, 1), (RX7, TX7, 8), (RX8, TX8, 9), (RX9, TX9, 22)]
/-! THE CLAIM OUT OF ONE WALK OF THE LAW'S BODY. Your part is whole_start (and what it stands on); all else here is the same for every law, but numbers. -/
def R_law : String := "TenseLinesLaw"
def lw_P (b : Addr) (xs : List Int32) (args : Array Value) (s : State) : Prop := args = #[.ref b] ∧ s.IntsAt b xs ∧ xs.length ≤ 2048 ∧ (Jvm.Cond.and given_1 narrow_1).before args s = true
def lw_Q (_ : Array Value) (s : State) (o : Outcome) (t : State) : Prop := o = .returned (some (.int 1)) ∧ Framed s o t [] 600000 7302249
def lw_Z (below : List Frame) (a : Array Value) (s : State) : State → Prop := fun t => ∃ o, t.status = .running ∧ Ended t below o ∧ lw_Q a s o t
/-- the law's own end, with 1 on the stack, nothing written that was there before, its room as the claim has it -/
theorem lw_ret {p : Program} {l : Launch} {e : Env} {s : State} {m : MethodId} {below : List Frame} {meth : Method} {c : Code} {b : Nat} (hx : p.tables.exec = Jvm.exec) (hb : c.code = code) (hr : meth.sig.returnType = ret) (hlocks : meth.locks = false) {pc : Nat} {H : Heap} {ls : Array Slot} (hdg : decode code pc = .ok (.ireturn, 1)) : W p l e room_1 s m #[Value.ref b] below meth c H [] 600000 7302249 (lw_Z below #[Value.ref b] s) (F0 m pc ls [.int 1]) := by
  intro T hT X
  obtain ⟨fs, hret, hrun, hended, hW, hframe⟩ := X.leave (v := some (.int 1)) (hlocks := hlocks) (fun h => by rw [hr] at h; cases h)
  have hmeth' : T.vm.method? m = some meth := X.method'
  refine ⟨T.setFrames fs, ?_, .returned (some (.int 1)), hrun, hended, rfl, ⟨_, rfl⟩, hW, hframe⟩
  jvm_step X.here [X.here.top, hx, hb, hdg, hmeth', hr, ret, narrow_b1]
  (try refine ⟨rfl, ?_⟩); (try refine ⟨rfl, ?_⟩)
  first | (intro acts; rw [hret _ acts rfl rfl rfl]) | rw [hret _ _ rfl rfl rfl]
  exact Steps.refl _
/-- what holds at the law's entry: the machine, the code, the tables' words (any of lw_tbl by 'hts w (by decide +kernel)'), the script of L ints xs at the cell b, what the Statement gives of the start (any of its parts by flat_of_before) -/
def lw_At (p : Program) (s : State) (m : MethodId) (meth : Method) (c : Code) (b L : Nat) (xs : Nat → Int32) : Prop :=
  p.tables.exec = Jvm.exec ∧ c.code = code ∧ meth.sig.returnType = ret ∧ c.maxLocals = 4 ∧ s.vm.findClass R_law = some m.cls ∧ (∀ w ∈ lw_tbl, w.before #[Value.ref b] s = true) ∧ va_X b L xs s s.heap ∧ b < s.heap.size ∧ meth.locks = false ∧ (Jvm.Cond.and given_1 narrow_1).before #[Value.ref b] s = true
end
section
theorem dX0_init_0 : decode cX0_init 0 = .ok (.aload_n 0, 1) := by decide +kernel
theorem dX0_init_1 : decode cX0_init 1 = .ok (.invokespecial 3, 3) := by decide +kernel
theorem dX0_init_4 : decode cX0_init 4 = .ok (.aload_n 0, 1) := by decide +kernel
theorem dX0_init_5 : decode cX0_init 5 = .ok (.iconst 2, 1) := by decide +kernel
theorem dX0_init_6 : decode cX0_init 6 = .ok (.bipush 74, 2) := by decide +kernel
theorem dX0_init_8 : decode cX0_init 8 = .ok (.multianewarray 11 2, 4) := by decide +kernel
theorem dX0_init_12 : decode cX0_init 12 = .ok (.putfield 13, 3) := by decide +kernel
theorem dX0_init_15 : decode cX0_init 15 = .ok (.return_, 1) := by decide +kernel
theorem dX0_lose_0 : decode cX0_lose 0 = .ok (.aload_n 0, 1) := by decide +kernel
theorem dX0_lose_1 : decode cX0_lose 1 = .ok (.iconst 0, 1) := by decide +kernel
theorem dX0_lose_2 : decode cX0_lose 2 = .ok (.putfield 18, 3) := by decide +kernel
theorem dX0_lose_5 : decode cX0_lose 5 = .ok (.return_, 1) := by decide +kernel
theorem dX0_isKept_0 : decode cX0_isKept 0 = .ok (.aload_n 0, 1) := by decide +kernel
theorem dX0_isKept_1 : decode cX0_isKept 1 = .ok (.getfield 18, 3) := by decide +kernel
theorem dX0_isKept_4 : decode cX0_isKept 4 = .ok (.iload_n 1, 1) := by decide +kernel
theorem dX0_isKept_5 : decode cX0_isKept 5 = .ok (.invokestatic 22, 3) := by decide +kernel
theorem dX0_isKept_8 : decode cX0_isKept 8 = .ok (.ireturn, 1) := by decide +kernel
theorem dX0_store_0 : decode cX0_store 0 = .ok (.iload_n 1, 1) := by decide +kernel
theorem dX0_store_1 : decode cX0_store 1 = .ok (.ifCond .lt 34, 3) := by decide +kernel
theorem dX0_store_4 : decode cX0_store 4 = .ok (.iload_n 1, 1) := by decide +kernel
theorem dX0_store_5 : decode cX0_store 5 = .ok (.aload_n 0, 1) := by decide +kernel
theorem dX0_store_6 : decode cX0_store 6 = .ok (.getfield 13, 3) := by decide +kernel
theorem dX0_store_9 : decode cX0_store 9 = .ok (.arraylength, 1) := by decide +kernel
theorem dX0_store_10 : decode cX0_store 10 = .ok (.if_icmp .ge 25, 3) := by decide +kernel
theorem dX0_store_13 : decode cX0_store 13 = .ok (.aload_n 2, 1) := by decide +kernel
theorem dX0_store_14 : decode cX0_store 14 = .ok (.aload_n 0, 1) := by decide +kernel
theorem dX0_store_15 : decode cX0_store 15 = .ok (.getfield 13, 3) := by decide +kernel
theorem dX0_store_18 : decode cX0_store 18 = .ok (.iload_n 1, 1) := by decide +kernel
theorem dX0_store_19 : decode cX0_store 19 = .ok (.aaload, 1) := by decide +kernel
theorem dX0_store_20 : decode cX0_store 20 = .ok (.invokevirtual 26, 3) := by decide +kernel
theorem dX0_store_23 : decode cX0_store 23 = .ok (.aload_n 0, 1) := by decide +kernel
theorem dX0_store_24 : decode cX0_store 24 = .ok (.dup, 1) := by decide +kernel
theorem dX0_store_25 : decode cX0_store 25 = .ok (.getfield 18, 3) := by decide +kernel
theorem dX0_store_28 : decode cX0_store 28 = .ok (.iconst 1, 1) := by decide +kernel
theorem dX0_store_29 : decode cX0_store 29 = .ok (.iload_n 1, 1) := by decide +kernel
theorem dX0_store_30 : decode cX0_store 30 = .ok (.ishl, 1) := by decide +kernel
theorem dX0_store_31 : decode cX0_store 31 = .ok (.ior, 1) := by decide +kernel
theorem dX0_store_32 : decode cX0_store 32 = .ok (.putfield 18, 3) := by decide +kernel
theorem dX0_store_35 : decode cX0_store 35 = .ok (.return_, 1) := by decide +kernel
theorem dX0_restore_0 : decode cX0_restore 0 = .ok (.iload_n 1, 1) := by decide +kernel
theorem dX0_restore_1 : decode cX0_restore 1 = .ok (.ifCond .lt 22, 3) := by decide +kernel
theorem dX0_restore_4 : decode cX0_restore 4 = .ok (.iload_n 1, 1) := by decide +kernel
theorem dX0_restore_5 : decode cX0_restore 5 = .ok (.aload_n 0, 1) := by decide +kernel
theorem dX0_restore_6 : decode cX0_restore 6 = .ok (.getfield 13, 3) := by decide +kernel
theorem dX0_restore_9 : decode cX0_restore 9 = .ok (.arraylength, 1) := by decide +kernel
theorem dX0_restore_10 : decode cX0_restore 10 = .ok (.if_icmp .ge 13, 3) := by decide +kernel
theorem dX0_restore_13 : decode cX0_restore 13 = .ok (.aload_n 2, 1) := by decide +kernel
theorem dX0_restore_14 : decode cX0_restore 14 = .ok (.aload_n 0, 1) := by decide +kernel
theorem dX0_restore_15 : decode cX0_restore 15 = .ok (.getfield 13, 3) := by decide +kernel
theorem dX0_restore_18 : decode cX0_restore 18 = .ok (.iload_n 1, 1) := by decide +kernel
theorem dX0_restore_19 : decode cX0_restore 19 = .ok (.aaload, 1) := by decide +kernel
theorem dX0_restore_20 : decode cX0_restore 20 = .ok (.invokevirtual 30, 3) := by decide +kernel
theorem dX0_restore_23 : decode cX0_restore 23 = .ok (.return_, 1) := by decide +kernel
theorem dX1_init_0 : decode cX1_init 0 = .ok (.aload_n 0, 1) := by decide +kernel
theorem dX1_init_1 : decode cX1_init 1 = .ok (.invokespecial 3, 3) := by decide +kernel
theorem dX1_init_4 : decode cX1_init 4 = .ok (.aload_n 0, 1) := by decide +kernel
theorem dX1_init_5 : decode cX1_init 5 = .ok (.bipush 17, 2) := by decide +kernel
theorem dX1_init_7 : decode cX1_init 7 = .ok (.newarray .int, 2) := by decide +kernel
theorem dX1_init_9 : decode cX1_init 9 = .ok (.putfield 9, 3) := by decide +kernel
theorem dX1_init_12 : decode cX1_init 12 = .ok (.aload_n 0, 1) := by decide +kernel
theorem dX1_init_13 : decode cX1_init 13 = .ok (.bipush 17, 2) := by decide +kernel
theorem dX1_init_15 : decode cX1_init 15 = .ok (.newarray .int, 2) := by decide +kernel
theorem dX1_init_17 : decode cX1_init 17 = .ok (.putfield 15, 3) := by decide +kernel
theorem dX1_init_20 : decode cX1_init 20 = .ok (.return_, 1) := by decide +kernel
theorem dX1_empty_0 : decode cX1_empty 0 = .ok (.iconst 0, 1) := by decide +kernel
theorem dX1_empty_1 : decode cX1_empty 1 = .ok (.istore_n 1, 1) := by decide +kernel
theorem dX1_empty_2 : decode cX1_empty 2 = .ok (.iload_n 1, 1) := by decide +kernel
theorem dX1_empty_3 : decode cX1_empty 3 = .ok (.bipush 17, 2) := by decide +kernel
theorem dX1_empty_5 : decode cX1_empty 5 = .ok (.if_icmp .ge 25, 3) := by decide +kernel
theorem dX1_empty_8 : decode cX1_empty 8 = .ok (.aload_n 0, 1) := by decide +kernel
theorem dX1_empty_9 : decode cX1_empty 9 = .ok (.getfield 9, 3) := by decide +kernel
theorem dX1_empty_12 : decode cX1_empty 12 = .ok (.iload_n 1, 1) := by decide +kernel
theorem dX1_empty_13 : decode cX1_empty 13 = .ok (.iconst 1, 1) := by decide +kernel
theorem dX1_empty_14 : decode cX1_empty 14 = .ok (.iload_n 1, 1) := by decide +kernel
theorem dX1_empty_15 : decode cX1_empty 15 = .ok (.ishl, 1) := by decide +kernel
theorem dX1_empty_16 : decode cX1_empty 16 = .ok (.iastore, 1) := by decide +kernel
theorem dX1_empty_17 : decode cX1_empty 17 = .ok (.aload_n 0, 1) := by decide +kernel
theorem dX1_empty_18 : decode cX1_empty 18 = .ok (.getfield 15, 3) := by decide +kernel
theorem dX1_empty_21 : decode cX1_empty 21 = .ok (.iload_n 1, 1) := by decide +kernel
theorem dX1_empty_22 : decode cX1_empty 22 = .ok (.iconst 0, 1) := by decide +kernel
theorem dX1_empty_23 : decode cX1_empty 23 = .ok (.iastore, 1) := by decide +kernel
theorem dX1_empty_24 : decode cX1_empty 24 = .ok (.iinc 1 1, 3) := by decide +kernel
theorem dX1_empty_27 : decode cX1_empty 27 = .ok (.goto (-25), 3) := by decide +kernel
theorem dX1_empty_30 : decode cX1_empty 30 = .ok (.return_, 1) := by decide +kernel
theorem dX1_relate_0 : decode cX1_relate 0 = .ok (.iload_n 1, 1) := by decide +kernel
theorem dX1_relate_1 : decode cX1_relate 1 = .ok (.invokestatic 18, 3) := by decide +kernel
theorem dX1_relate_4 : decode cX1_relate 4 = .ok (.ifCond .eq 10, 3) := by decide +kernel
theorem dX1_relate_7 : decode cX1_relate 7 = .ok (.iload_n 3, 1) := by decide +kernel
theorem dX1_relate_8 : decode cX1_relate 8 = .ok (.invokestatic 18, 3) := by decide +kernel
theorem dX1_relate_11 : decode cX1_relate 11 = .ok (.ifCond .ne 4, 3) := by decide +kernel
theorem dX1_relate_14 : decode cX1_relate 14 = .ok (.return_, 1) := by decide +kernel
theorem dX1_relate_15 : decode cX1_relate 15 = .ok (.iload_n 2, 1) := by decide +kernel
theorem dX1_relate_16 : decode cX1_relate 16 = .ok (.ifCond .ne 18, 3) := by decide +kernel
theorem dX1_relate_19 : decode cX1_relate 19 = .ok (.aload_n 0, 1) := by decide +kernel
theorem dX1_relate_20 : decode cX1_relate 20 = .ok (.iload_n 1, 1) := by decide +kernel
theorem dX1_relate_21 : decode cX1_relate 21 = .ok (.iload_n 3, 1) := by decide +kernel
theorem dX1_relate_22 : decode cX1_relate 22 = .ok (.aload_n 0, 1) := by decide +kernel
theorem dX1_relate_23 : decode cX1_relate 23 = .ok (.getfield 9, 3) := by decide +kernel
theorem dX1_relate_26 : decode cX1_relate 26 = .ok (.iload_n 3, 1) := by decide +kernel
theorem dX1_relate_27 : decode cX1_relate 27 = .ok (.iaload, 1) := by decide +kernel
theorem dX1_relate_28 : decode cX1_relate 28 = .ok (.invokevirtual 22, 3) := by decide +kernel
theorem dX1_relate_31 : decode cX1_relate 31 = .ok (.goto 52, 3) := by decide +kernel
theorem dX1_relate_34 : decode cX1_relate 34 = .ok (.iload_n 2, 1) := by decide +kernel
theorem dX1_relate_35 : decode cX1_relate 35 = .ok (.iconst 2, 1) := by decide +kernel
theorem dX1_relate_36 : decode cX1_relate 36 = .ok (.if_icmp .ne 18, 3) := by decide +kernel
theorem dX1_relate_39 : decode cX1_relate 39 = .ok (.aload_n 0, 1) := by decide +kernel
theorem dX1_relate_40 : decode cX1_relate 40 = .ok (.iload_n 3, 1) := by decide +kernel
theorem dX1_relate_41 : decode cX1_relate 41 = .ok (.iload_n 1, 1) := by decide +kernel
theorem dX1_relate_42 : decode cX1_relate 42 = .ok (.aload_n 0, 1) := by decide +kernel
theorem dX1_relate_43 : decode cX1_relate 43 = .ok (.getfield 9, 3) := by decide +kernel
theorem dX1_relate_46 : decode cX1_relate 46 = .ok (.iload_n 1, 1) := by decide +kernel
theorem dX1_relate_47 : decode cX1_relate 47 = .ok (.iaload, 1) := by decide +kernel
theorem dX1_relate_48 : decode cX1_relate 48 = .ok (.invokevirtual 22, 3) := by decide +kernel
theorem dX1_relate_51 : decode cX1_relate 51 = .ok (.goto 32, 3) := by decide +kernel
theorem dX1_relate_54 : decode cX1_relate 54 = .ok (.iload_n 2, 1) := by decide +kernel
theorem dX1_relate_55 : decode cX1_relate 55 = .ok (.iconst 1, 1) := by decide +kernel
theorem dX1_relate_56 : decode cX1_relate 56 = .ok (.if_icmp .ne 27, 3) := by decide +kernel
theorem dX1_relate_59 : decode cX1_relate 59 = .ok (.aload_n 0, 1) := by decide +kernel
theorem dX1_relate_60 : decode cX1_relate 60 = .ok (.iload_n 1, 1) := by decide +kernel
theorem dX1_relate_61 : decode cX1_relate 61 = .ok (.iload_n 3, 1) := by decide +kernel
theorem dX1_relate_62 : decode cX1_relate 62 = .ok (.aload_n 0, 1) := by decide +kernel
theorem dX1_relate_63 : decode cX1_relate 63 = .ok (.getfield 15, 3) := by decide +kernel
theorem dX1_relate_66 : decode cX1_relate 66 = .ok (.iload_n 3, 1) := by decide +kernel
theorem dX1_relate_67 : decode cX1_relate 67 = .ok (.iaload, 1) := by decide +kernel
theorem dX1_relate_68 : decode cX1_relate 68 = .ok (.invokevirtual 22, 3) := by decide +kernel
theorem dX1_relate_71 : decode cX1_relate 71 = .ok (.aload_n 0, 1) := by decide +kernel
theorem dX1_relate_72 : decode cX1_relate 72 = .ok (.iload_n 3, 1) := by decide +kernel
theorem dX1_relate_73 : decode cX1_relate 73 = .ok (.iload_n 1, 1) := by decide +kernel
theorem dX1_relate_74 : decode cX1_relate 74 = .ok (.aload_n 0, 1) := by decide +kernel
theorem dX1_relate_75 : decode cX1_relate 75 = .ok (.getfield 15, 3) := by decide +kernel
theorem dX1_relate_78 : decode cX1_relate 78 = .ok (.iload_n 1, 1) := by decide +kernel
theorem dX1_relate_79 : decode cX1_relate 79 = .ok (.iaload, 1) := by decide +kernel
theorem dX1_relate_80 : decode cX1_relate 80 = .ok (.invokevirtual 22, 3) := by decide +kernel
theorem dX1_relate_83 : decode cX1_relate 83 = .ok (.return_, 1) := by decide +kernel
theorem dX1_chain_0 : decode cX1_chain 0 = .ok (.iload_n 1, 1) := by decide +kernel
theorem dX1_chain_1 : decode cX1_chain 1 = .ok (.invokestatic 18, 3) := by decide +kernel
theorem dX1_chain_4 : decode cX1_chain 4 = .ok (.ifCond .eq 10, 3) := by decide +kernel
theorem dX1_chain_7 : decode cX1_chain 7 = .ok (.iload_n 2, 1) := by decide +kernel
theorem dX1_chain_8 : decode cX1_chain 8 = .ok (.invokestatic 18, 3) := by decide +kernel
theorem dX1_chain_11 : decode cX1_chain 11 = .ok (.ifCond .ne 4, 3) := by decide +kernel
theorem dX1_chain_14 : decode cX1_chain 14 = .ok (.return_, 1) := by decide +kernel
theorem dX1_chain_15 : decode cX1_chain 15 = .ok (.aload_n 0, 1) := by decide +kernel
theorem dX1_chain_16 : decode cX1_chain 16 = .ok (.getfield 9, 3) := by decide +kernel
theorem dX1_chain_19 : decode cX1_chain 19 = .ok (.iload_n 2, 1) := by decide +kernel
theorem dX1_chain_20 : decode cX1_chain 20 = .ok (.iaload, 1) := by decide +kernel
theorem dX1_chain_21 : decode cX1_chain 21 = .ok (.istore 4, 2) := by decide +kernel
theorem dX1_chain_23 : decode cX1_chain 23 = .ok (.iconst 0, 1) := by decide +kernel
theorem dX1_chain_24 : decode cX1_chain 24 = .ok (.istore 5, 2) := by decide +kernel
theorem dX1_chain_26 : decode cX1_chain 26 = .ok (.iload 5, 2) := by decide +kernel
theorem dX1_chain_28 : decode cX1_chain 28 = .ok (.bipush 17, 2) := by decide +kernel
theorem dX1_chain_30 : decode cX1_chain 30 = .ok (.if_icmp .ge 65, 3) := by decide +kernel
theorem dX1_chain_33 : decode cX1_chain 33 = .ok (.aload_n 0, 1) := by decide +kernel
theorem dX1_chain_34 : decode cX1_chain 34 = .ok (.getfield 9, 3) := by decide +kernel
theorem dX1_chain_37 : decode cX1_chain 37 = .ok (.iload 5, 2) := by decide +kernel
theorem dX1_chain_39 : decode cX1_chain 39 = .ok (.iaload, 1) := by decide +kernel
theorem dX1_chain_40 : decode cX1_chain 40 = .ok (.iload_n 1, 1) := by decide +kernel
theorem dX1_chain_41 : decode cX1_chain 41 = .ok (.invokestatic 26, 3) := by decide +kernel
theorem dX1_chain_44 : decode cX1_chain 44 = .ok (.ifCond .eq 45, 3) := by decide +kernel
theorem dX1_chain_47 : decode cX1_chain 47 = .ok (.aload_n 0, 1) := by decide +kernel
theorem dX1_chain_48 : decode cX1_chain 48 = .ok (.getfield 15, 3) := by decide +kernel
theorem dX1_chain_51 : decode cX1_chain 51 = .ok (.iload 5, 2) := by decide +kernel
theorem dX1_chain_53 : decode cX1_chain 53 = .ok (.dup2, 1) := by decide +kernel
theorem dX1_chain_54 : decode cX1_chain 54 = .ok (.iaload, 1) := by decide +kernel
theorem dX1_chain_55 : decode cX1_chain 55 = .ok (.aload_n 0, 1) := by decide +kernel
theorem dX1_chain_56 : decode cX1_chain 56 = .ok (.getfield 15, 3) := by decide +kernel
theorem dX1_chain_59 : decode cX1_chain 59 = .ok (.iload 5, 2) := by decide +kernel
theorem dX1_chain_61 : decode cX1_chain 61 = .ok (.iaload, 1) := by decide +kernel
theorem dX1_chain_62 : decode cX1_chain 62 = .ok (.iload_n 1, 1) := by decide +kernel
theorem dX1_chain_63 : decode cX1_chain 63 = .ok (.invokestatic 26, 3) := by decide +kernel
theorem dX1_chain_66 : decode cX1_chain 66 = .ok (.ifCond .eq 8, 3) := by decide +kernel
theorem dX1_chain_69 : decode cX1_chain 69 = .ok (.iload 4, 2) := by decide +kernel
theorem dX1_chain_71 : decode cX1_chain 71 = .ok (.goto 4, 3) := by decide +kernel
theorem dX1_chain_74 : decode cX1_chain 74 = .ok (.iload_n 3, 1) := by decide +kernel
theorem dX1_chain_75 : decode cX1_chain 75 = .ok (.ior, 1) := by decide +kernel
theorem dX1_chain_76 : decode cX1_chain 76 = .ok (.iastore, 1) := by decide +kernel
theorem dX1_chain_77 : decode cX1_chain 77 = .ok (.aload_n 0, 1) := by decide +kernel
theorem dX1_chain_78 : decode cX1_chain 78 = .ok (.getfield 9, 3) := by decide +kernel
theorem dX1_chain_81 : decode cX1_chain 81 = .ok (.iload 5, 2) := by decide +kernel
theorem dX1_chain_83 : decode cX1_chain 83 = .ok (.dup2, 1) := by decide +kernel
theorem dX1_chain_84 : decode cX1_chain 84 = .ok (.iaload, 1) := by decide +kernel
theorem dX1_chain_85 : decode cX1_chain 85 = .ok (.iload 4, 2) := by decide +kernel
theorem dX1_chain_87 : decode cX1_chain 87 = .ok (.ior, 1) := by decide +kernel
theorem dX1_chain_88 : decode cX1_chain 88 = .ok (.iastore, 1) := by decide +kernel
theorem dX1_chain_89 : decode cX1_chain 89 = .ok (.iinc 5 1, 3) := by decide +kernel
theorem dX1_chain_92 : decode cX1_chain 92 = .ok (.goto (-66), 3) := by decide +kernel
theorem dX1_chain_95 : decode cX1_chain 95 = .ok (.return_, 1) := by decide +kernel
theorem dX1_isSound_0 : decode cX1_isSound 0 = .ok (.iconst 0, 1) := by decide +kernel
theorem dX1_isSound_1 : decode cX1_isSound 1 = .ok (.istore_n 1, 1) := by decide +kernel
theorem dX1_isSound_2 : decode cX1_isSound 2 = .ok (.iload_n 1, 1) := by decide +kernel
theorem dX1_isSound_3 : decode cX1_isSound 3 = .ok (.bipush 17, 2) := by decide +kernel
theorem dX1_isSound_5 : decode cX1_isSound 5 = .ok (.if_icmp .ge 24, 3) := by decide +kernel
theorem dX1_isSound_8 : decode cX1_isSound 8 = .ok (.aload_n 0, 1) := by decide +kernel
theorem dX1_isSound_9 : decode cX1_isSound 9 = .ok (.getfield 15, 3) := by decide +kernel
theorem dX1_isSound_12 : decode cX1_isSound 12 = .ok (.iload_n 1, 1) := by decide +kernel
theorem dX1_isSound_13 : decode cX1_isSound 13 = .ok (.iaload, 1) := by decide +kernel
theorem dX1_isSound_14 : decode cX1_isSound 14 = .ok (.iload_n 1, 1) := by decide +kernel
theorem dX1_isSound_15 : decode cX1_isSound 15 = .ok (.invokestatic 26, 3) := by decide +kernel
theorem dX1_isSound_18 : decode cX1_isSound 18 = .ok (.ifCond .eq 5, 3) := by decide +kernel
theorem dX1_isSound_21 : decode cX1_isSound 21 = .ok (.iconst 0, 1) := by decide +kernel
theorem dX1_isSound_22 : decode cX1_isSound 22 = .ok (.ireturn, 1) := by decide +kernel
theorem dX1_isSound_23 : decode cX1_isSound 23 = .ok (.iinc 1 1, 3) := by decide +kernel
theorem dX1_isSound_26 : decode cX1_isSound 26 = .ok (.goto (-24), 3) := by decide +kernel
theorem dX1_isSound_29 : decode cX1_isSound 29 = .ok (.iconst 1, 1) := by decide +kernel
theorem dX1_isSound_30 : decode cX1_isSound 30 = .ok (.ireturn, 1) := by decide +kernel
theorem dX1_tells_0 : decode cX1_tells 0 = .ok (.aload_n 0, 1) := by decide +kernel
theorem dX1_tells_1 : decode cX1_tells 1 = .ok (.invokevirtual 30, 3) := by decide +kernel
theorem dX1_tells_4 : decode cX1_tells 4 = .ok (.ifCond .ne 5, 3) := by decide +kernel
theorem dX1_tells_7 : decode cX1_tells 7 = .ok (.iconst 4, 1) := by decide +kernel
theorem dX1_tells_8 : decode cX1_tells 8 = .ok (.ireturn, 1) := by decide +kernel
theorem dX1_tells_9 : decode cX1_tells 9 = .ok (.aload_n 0, 1) := by decide +kernel
theorem dX1_tells_10 : decode cX1_tells 10 = .ok (.iload_n 1, 1) := by decide +kernel
theorem dX1_tells_11 : decode cX1_tells 11 = .ok (.iload_n 2, 1) := by decide +kernel
theorem dX1_tells_12 : decode cX1_tells 12 = .ok (.invokevirtual 34, 3) := by decide +kernel
theorem dX1_tells_15 : decode cX1_tells 15 = .ok (.ifCond .eq 5, 3) := by decide +kernel
theorem dX1_tells_18 : decode cX1_tells 18 = .ok (.iconst 1, 1) := by decide +kernel
theorem dX1_tells_19 : decode cX1_tells 19 = .ok (.ireturn, 1) := by decide +kernel
theorem dX1_tells_20 : decode cX1_tells 20 = .ok (.aload_n 0, 1) := by decide +kernel
theorem dX1_tells_21 : decode cX1_tells 21 = .ok (.iload_n 2, 1) := by decide +kernel
theorem dX1_tells_22 : decode cX1_tells 22 = .ok (.iload_n 1, 1) := by decide +kernel
theorem dX1_tells_23 : decode cX1_tells 23 = .ok (.invokevirtual 34, 3) := by decide +kernel
theorem dX1_tells_26 : decode cX1_tells 26 = .ok (.ifCond .eq 5, 3) := by decide +kernel
theorem dX1_tells_29 : decode cX1_tells 29 = .ok (.iconst 3, 1) := by decide +kernel
theorem dX1_tells_30 : decode cX1_tells 30 = .ok (.ireturn, 1) := by decide +kernel
theorem dX1_tells_31 : decode cX1_tells 31 = .ok (.iload_n 1, 1) := by decide +kernel
theorem dX1_tells_32 : decode cX1_tells 32 = .ok (.invokestatic 18, 3) := by decide +kernel
theorem dX1_tells_35 : decode cX1_tells 35 = .ok (.ifCond .eq 20, 3) := by decide +kernel
theorem dX1_tells_38 : decode cX1_tells 38 = .ok (.aload_n 0, 1) := by decide +kernel
theorem dX1_tells_39 : decode cX1_tells 39 = .ok (.getfield 9, 3) := by decide +kernel
theorem dX1_tells_42 : decode cX1_tells 42 = .ok (.iload_n 1, 1) := by decide +kernel
theorem dX1_tells_43 : decode cX1_tells 43 = .ok (.iaload, 1) := by decide +kernel
theorem dX1_tells_44 : decode cX1_tells 44 = .ok (.iload_n 2, 1) := by decide +kernel
theorem dX1_tells_45 : decode cX1_tells 45 = .ok (.invokestatic 26, 3) := by decide +kernel
theorem dX1_tells_48 : decode cX1_tells 48 = .ok (.ifCond .eq 7, 3) := by decide +kernel
theorem dX1_tells_51 : decode cX1_tells 51 = .ok (.iconst 2, 1) := by decide +kernel
theorem dX1_tells_52 : decode cX1_tells 52 = .ok (.goto 4, 3) := by decide +kernel
theorem dX1_tells_55 : decode cX1_tells 55 = .ok (.iconst 0, 1) := by decide +kernel
theorem dX1_tells_56 : decode cX1_tells 56 = .ok (.ireturn, 1) := by decide +kernel
theorem dX1_isAhead_0 : decode cX1_isAhead 0 = .ok (.iload_n 1, 1) := by decide +kernel
theorem dX1_isAhead_1 : decode cX1_isAhead 1 = .ok (.invokestatic 18, 3) := by decide +kernel
theorem dX1_isAhead_4 : decode cX1_isAhead 4 = .ok (.ifCond .eq 20, 3) := by decide +kernel
theorem dX1_isAhead_7 : decode cX1_isAhead 7 = .ok (.aload_n 0, 1) := by decide +kernel
theorem dX1_isAhead_8 : decode cX1_isAhead 8 = .ok (.getfield 15, 3) := by decide +kernel
theorem dX1_isAhead_11 : decode cX1_isAhead 11 = .ok (.iload_n 1, 1) := by decide +kernel
theorem dX1_isAhead_12 : decode cX1_isAhead 12 = .ok (.iaload, 1) := by decide +kernel
theorem dX1_isAhead_13 : decode cX1_isAhead 13 = .ok (.iload_n 2, 1) := by decide +kernel
theorem dX1_isAhead_14 : decode cX1_isAhead 14 = .ok (.invokestatic 26, 3) := by decide +kernel
theorem dX1_isAhead_17 : decode cX1_isAhead 17 = .ok (.ifCond .eq 7, 3) := by decide +kernel
theorem dX1_isAhead_20 : decode cX1_isAhead 20 = .ok (.iconst 1, 1) := by decide +kernel
theorem dX1_isAhead_21 : decode cX1_isAhead 21 = .ok (.goto 4, 3) := by decide +kernel
theorem dX1_isAhead_24 : decode cX1_isAhead 24 = .ok (.iconst 0, 1) := by decide +kernel
theorem dX1_isAhead_25 : decode cX1_isAhead 25 = .ok (.ireturn, 1) := by decide +kernel
theorem dX1_earliest_0 : decode cX1_earliest 0 = .ok (.ldc 37, 2) := by decide +kernel
theorem dX1_earliest_2 : decode cX1_earliest 2 = .ok (.istore_n 2, 1) := by decide +kernel
theorem dX1_earliest_3 : decode cX1_earliest 3 = .ok (.iconst 0, 1) := by decide +kernel
theorem dX1_earliest_4 : decode cX1_earliest 4 = .ok (.istore_n 3, 1) := by decide +kernel
theorem dX1_earliest_5 : decode cX1_earliest 5 = .ok (.iload_n 3, 1) := by decide +kernel
theorem dX1_earliest_6 : decode cX1_earliest 6 = .ok (.bipush 17, 2) := by decide +kernel
theorem dX1_earliest_8 : decode cX1_earliest 8 = .ok (.if_icmp .ge 27, 3) := by decide +kernel
theorem dX1_earliest_11 : decode cX1_earliest 11 = .ok (.iload_n 2, 1) := by decide +kernel
theorem dX1_earliest_12 : decode cX1_earliest 12 = .ok (.aload_n 0, 1) := by decide +kernel
theorem dX1_earliest_13 : decode cX1_earliest 13 = .ok (.iload_n 2, 1) := by decide +kernel
theorem dX1_earliest_14 : decode cX1_earliest 14 = .ok (.invokevirtual 38, 3) := by decide +kernel
theorem dX1_earliest_17 : decode cX1_earliest 17 = .ok (.iand, 1) := by decide +kernel
theorem dX1_earliest_18 : decode cX1_earliest 18 = .ok (.istore_n 2, 1) := by decide +kernel
theorem dX1_earliest_19 : decode cX1_earliest 19 = .ok (.iload_n 2, 1) := by decide +kernel
theorem dX1_earliest_20 : decode cX1_earliest 20 = .ok (.iload_n 1, 1) := by decide +kernel
theorem dX1_earliest_21 : decode cX1_earliest 21 = .ok (.invokestatic 26, 3) := by decide +kernel
theorem dX1_earliest_24 : decode cX1_earliest 24 = .ok (.ifCond .ne 5, 3) := by decide +kernel
theorem dX1_earliest_27 : decode cX1_earliest 27 = .ok (.iload_n 3, 1) := by decide +kernel
theorem dX1_earliest_28 : decode cX1_earliest 28 = .ok (.ireturn, 1) := by decide +kernel
theorem dX1_earliest_29 : decode cX1_earliest 29 = .ok (.iinc 3 1, 3) := by decide +kernel
theorem dX1_earliest_32 : decode cX1_earliest 32 = .ok (.goto (-27), 3) := by decide +kernel
theorem dX1_earliest_35 : decode cX1_earliest 35 = .ok (.bipush (-9), 2) := by decide +kernel
theorem dX1_earliest_37 : decode cX1_earliest 37 = .ok (.ireturn, 1) := by decide +kernel
theorem dX1_behindSome_0 : decode cX1_behindSome 0 = .ok (.iconst 0, 1) := by decide +kernel
theorem dX1_behindSome_1 : decode cX1_behindSome 1 = .ok (.istore_n 2, 1) := by decide +kernel
theorem dX1_behindSome_2 : decode cX1_behindSome 2 = .ok (.iconst 0, 1) := by decide +kernel
theorem dX1_behindSome_3 : decode cX1_behindSome 3 = .ok (.istore_n 3, 1) := by decide +kernel
theorem dX1_behindSome_4 : decode cX1_behindSome 4 = .ok (.iload_n 3, 1) := by decide +kernel
theorem dX1_behindSome_5 : decode cX1_behindSome 5 = .ok (.bipush 17, 2) := by decide +kernel
theorem dX1_behindSome_7 : decode cX1_behindSome 7 = .ok (.if_icmp .ge 26, 3) := by decide +kernel
theorem dX1_behindSome_10 : decode cX1_behindSome 10 = .ok (.iload_n 1, 1) := by decide +kernel
theorem dX1_behindSome_11 : decode cX1_behindSome 11 = .ok (.iload_n 3, 1) := by decide +kernel
theorem dX1_behindSome_12 : decode cX1_behindSome 12 = .ok (.invokestatic 26, 3) := by decide +kernel
theorem dX1_behindSome_15 : decode cX1_behindSome 15 = .ok (.ifCond .eq 12, 3) := by decide +kernel
theorem dX1_behindSome_18 : decode cX1_behindSome 18 = .ok (.iload_n 2, 1) := by decide +kernel
theorem dX1_behindSome_19 : decode cX1_behindSome 19 = .ok (.aload_n 0, 1) := by decide +kernel
theorem dX1_behindSome_20 : decode cX1_behindSome 20 = .ok (.getfield 15, 3) := by decide +kernel
theorem dX1_behindSome_23 : decode cX1_behindSome 23 = .ok (.iload_n 3, 1) := by decide +kernel
theorem dX1_behindSome_24 : decode cX1_behindSome 24 = .ok (.iaload, 1) := by decide +kernel
theorem dX1_behindSome_25 : decode cX1_behindSome 25 = .ok (.ior, 1) := by decide +kernel
theorem dX1_behindSome_26 : decode cX1_behindSome 26 = .ok (.istore_n 2, 1) := by decide +kernel
theorem dX1_behindSome_27 : decode cX1_behindSome 27 = .ok (.iinc 3 1, 3) := by decide +kernel
theorem dX1_behindSome_30 : decode cX1_behindSome 30 = .ok (.goto (-26), 3) := by decide +kernel
theorem dX1_behindSome_33 : decode cX1_behindSome 33 = .ok (.iload_n 2, 1) := by decide +kernel
theorem dX1_behindSome_34 : decode cX1_behindSome 34 = .ok (.ireturn, 1) := by decide +kernel
theorem dX1_aheadRow_0 : decode cX1_aheadRow 0 = .ok (.iload_n 1, 1) := by decide +kernel
theorem dX1_aheadRow_1 : decode cX1_aheadRow 1 = .ok (.invokestatic 18, 3) := by decide +kernel
theorem dX1_aheadRow_4 : decode cX1_aheadRow 4 = .ok (.ifCond .eq 12, 3) := by decide +kernel
theorem dX1_aheadRow_7 : decode cX1_aheadRow 7 = .ok (.aload_n 0, 1) := by decide +kernel
theorem dX1_aheadRow_8 : decode cX1_aheadRow 8 = .ok (.getfield 15, 3) := by decide +kernel
theorem dX1_aheadRow_11 : decode cX1_aheadRow 11 = .ok (.iload_n 1, 1) := by decide +kernel
theorem dX1_aheadRow_12 : decode cX1_aheadRow 12 = .ok (.iaload, 1) := by decide +kernel
theorem dX1_aheadRow_13 : decode cX1_aheadRow 13 = .ok (.goto 4, 3) := by decide +kernel
theorem dX1_aheadRow_16 : decode cX1_aheadRow 16 = .ok (.iconst 0, 1) := by decide +kernel
theorem dX1_aheadRow_17 : decode cX1_aheadRow 17 = .ok (.ireturn, 1) := by decide +kernel
theorem dX1_notBehindRow_0 : decode cX1_notBehindRow 0 = .ok (.iload_n 1, 1) := by decide +kernel
theorem dX1_notBehindRow_1 : decode cX1_notBehindRow 1 = .ok (.invokestatic 18, 3) := by decide +kernel
theorem dX1_notBehindRow_4 : decode cX1_notBehindRow 4 = .ok (.ifCond .eq 12, 3) := by decide +kernel
theorem dX1_notBehindRow_7 : decode cX1_notBehindRow 7 = .ok (.aload_n 0, 1) := by decide +kernel
theorem dX1_notBehindRow_8 : decode cX1_notBehindRow 8 = .ok (.getfield 9, 3) := by decide +kernel
theorem dX1_notBehindRow_11 : decode cX1_notBehindRow 11 = .ok (.iload_n 1, 1) := by decide +kernel
theorem dX1_notBehindRow_12 : decode cX1_notBehindRow 12 = .ok (.iaload, 1) := by decide +kernel
theorem dX1_notBehindRow_13 : decode cX1_notBehindRow 13 = .ok (.goto 4, 3) := by decide +kernel
theorem dX1_notBehindRow_16 : decode cX1_notBehindRow 16 = .ok (.iconst 0, 1) := by decide +kernel
theorem dX1_notBehindRow_17 : decode cX1_notBehindRow 17 = .ok (.ireturn, 1) := by decide +kernel
theorem dX1_isWithin_0 : decode cX1_isWithin 0 = .ok (.iload_n 0, 1) := by decide +kernel
theorem dX1_isWithin_1 : decode cX1_isWithin 1 = .ok (.ifCond .lt 13, 3) := by decide +kernel
theorem dX1_isWithin_4 : decode cX1_isWithin 4 = .ok (.iload_n 0, 1) := by decide +kernel
theorem dX1_isWithin_5 : decode cX1_isWithin 5 = .ok (.bipush 17, 2) := by decide +kernel
theorem dX1_isWithin_7 : decode cX1_isWithin 7 = .ok (.if_icmp .ge 7, 3) := by decide +kernel
theorem dX1_isWithin_10 : decode cX1_isWithin 10 = .ok (.iconst 1, 1) := by decide +kernel
theorem dX1_isWithin_11 : decode cX1_isWithin 11 = .ok (.goto 4, 3) := by decide +kernel
theorem dX1_isWithin_14 : decode cX1_isWithin 14 = .ok (.iconst 0, 1) := by decide +kernel
theorem dX1_isWithin_15 : decode cX1_isWithin 15 = .ok (.ireturn, 1) := by decide +kernel
theorem dX2_init_0 : decode cX2_init 0 = .ok (.aload_n 0, 1) := by decide +kernel
theorem dX2_init_1 : decode cX2_init 1 = .ok (.invokespecial 3, 3) := by decide +kernel
theorem dX2_init_4 : decode cX2_init 4 = .ok (.aload_n 0, 1) := by decide +kernel
theorem dX2_init_5 : decode cX2_init 5 = .ok (.bipush 10, 2) := by decide +kernel
theorem dX2_init_7 : decode cX2_init 7 = .ok (.bipush 74, 2) := by decide +kernel
theorem dX2_init_9 : decode cX2_init 9 = .ok (.multianewarray 11 2, 4) := by decide +kernel
theorem dX2_init_13 : decode cX2_init 13 = .ok (.putfield 13, 3) := by decide +kernel
theorem dX2_init_16 : decode cX2_init 16 = .ok (.return_, 1) := by decide +kernel
theorem dX2_size_0 : decode cX2_size 0 = .ok (.aload_n 0, 1) := by decide +kernel
theorem dX2_size_1 : decode cX2_size 1 = .ok (.getfield 18, 3) := by decide +kernel
theorem dX2_size_4 : decode cX2_size 4 = .ok (.ireturn, 1) := by decide +kernel
theorem dX2_lose_0 : decode cX2_lose 0 = .ok (.aload_n 0, 1) := by decide +kernel
theorem dX2_lose_1 : decode cX2_lose 1 = .ok (.iconst 0, 1) := by decide +kernel
theorem dX2_lose_2 : decode cX2_lose 2 = .ok (.putfield 18, 3) := by decide +kernel
theorem dX2_lose_5 : decode cX2_lose 5 = .ok (.return_, 1) := by decide +kernel
theorem dX2_note_0 : decode cX2_note 0 = .ok (.aload_n 0, 1) := by decide +kernel
theorem dX2_note_1 : decode cX2_note 1 = .ok (.getfield 22, 3) := by decide +kernel
theorem dX2_note_4 : decode cX2_note 4 = .ok (.ifCond .lt 15, 3) := by decide +kernel
theorem dX2_note_7 : decode cX2_note 7 = .ok (.aload_n 0, 1) := by decide +kernel
theorem dX2_note_8 : decode cX2_note 8 = .ok (.getfield 22, 3) := by decide +kernel
theorem dX2_note_11 : decode cX2_note 11 = .ok (.aload_n 0, 1) := by decide +kernel
theorem dX2_note_12 : decode cX2_note 12 = .ok (.getfield 13, 3) := by decide +kernel
theorem dX2_note_15 : decode cX2_note 15 = .ok (.arraylength, 1) := by decide +kernel
theorem dX2_note_16 : decode cX2_note 16 = .ok (.if_icmp .lt 4, 3) := by decide +kernel
theorem dX2_note_19 : decode cX2_note 19 = .ok (.return_, 1) := by decide +kernel
theorem dX2_note_20 : decode cX2_note 20 = .ok (.aload_n 1, 1) := by decide +kernel
theorem dX2_note_21 : decode cX2_note 21 = .ok (.aload_n 0, 1) := by decide +kernel
theorem dX2_note_22 : decode cX2_note 22 = .ok (.getfield 13, 3) := by decide +kernel
theorem dX2_note_25 : decode cX2_note 25 = .ok (.aload_n 0, 1) := by decide +kernel
theorem dX2_note_26 : decode cX2_note 26 = .ok (.getfield 22, 3) := by decide +kernel
theorem dX2_note_29 : decode cX2_note 29 = .ok (.aaload, 1) := by decide +kernel
theorem dX2_note_30 : decode cX2_note 30 = .ok (.invokevirtual 25, 3) := by decide +kernel
theorem dX2_note_33 : decode cX2_note 33 = .ok (.aload_n 0, 1) := by decide +kernel
theorem dX2_note_34 : decode cX2_note 34 = .ok (.aload_n 0, 1) := by decide +kernel
theorem dX2_note_35 : decode cX2_note 35 = .ok (.getfield 22, 3) := by decide +kernel
theorem dX2_note_38 : decode cX2_note 38 = .ok (.iconst 1, 1) := by decide +kernel
theorem dX2_note_39 : decode cX2_note 39 = .ok (.iadd, 1) := by decide +kernel
theorem dX2_note_40 : decode cX2_note 40 = .ok (.aload_n 0, 1) := by decide +kernel
theorem dX2_note_41 : decode cX2_note 41 = .ok (.getfield 13, 3) := by decide +kernel
theorem dX2_note_44 : decode cX2_note 44 = .ok (.arraylength, 1) := by decide +kernel
theorem dX2_note_45 : decode cX2_note 45 = .ok (.if_icmp .ge 12, 3) := by decide +kernel
theorem dX2_note_48 : decode cX2_note 48 = .ok (.aload_n 0, 1) := by decide +kernel
theorem dX2_note_49 : decode cX2_note 49 = .ok (.getfield 22, 3) := by decide +kernel
theorem dX2_note_52 : decode cX2_note 52 = .ok (.iconst 1, 1) := by decide +kernel
theorem dX2_note_53 : decode cX2_note 53 = .ok (.iadd, 1) := by decide +kernel
theorem dX2_note_54 : decode cX2_note 54 = .ok (.goto 4, 3) := by decide +kernel
theorem dX2_note_57 : decode cX2_note 57 = .ok (.iconst 0, 1) := by decide +kernel
theorem dX2_note_58 : decode cX2_note 58 = .ok (.putfield 22, 3) := by decide +kernel
theorem dX2_note_61 : decode cX2_note 61 = .ok (.aload_n 0, 1) := by decide +kernel
theorem dX2_note_62 : decode cX2_note 62 = .ok (.aload_n 0, 1) := by decide +kernel
theorem dX2_note_63 : decode cX2_note 63 = .ok (.getfield 18, 3) := by decide +kernel
theorem dX2_note_66 : decode cX2_note 66 = .ok (.iconst 1, 1) := by decide +kernel
theorem dX2_note_67 : decode cX2_note 67 = .ok (.iadd, 1) := by decide +kernel
theorem dX2_note_68 : decode cX2_note 68 = .ok (.aload_n 0, 1) := by decide +kernel
theorem dX2_note_69 : decode cX2_note 69 = .ok (.getfield 13, 3) := by decide +kernel
theorem dX2_note_72 : decode cX2_note 72 = .ok (.arraylength, 1) := by decide +kernel
theorem dX2_note_73 : decode cX2_note 73 = .ok (.invokestatic 29, 3) := by decide +kernel
theorem dX2_note_76 : decode cX2_note 76 = .ok (.putfield 18, 3) := by decide +kernel
theorem dX2_note_79 : decode cX2_note 79 = .ok (.return_, 1) := by decide +kernel
theorem dX2_restore_0 : decode cX2_restore 0 = .ok (.aload_n 0, 1) := by decide +kernel
theorem dX2_restore_1 : decode cX2_restore 1 = .ok (.getfield 22, 3) := by decide +kernel
theorem dX2_restore_4 : decode cX2_restore 4 = .ok (.ifCond .le 12, 3) := by decide +kernel
theorem dX2_restore_7 : decode cX2_restore 7 = .ok (.aload_n 0, 1) := by decide +kernel
theorem dX2_restore_8 : decode cX2_restore 8 = .ok (.getfield 22, 3) := by decide +kernel
theorem dX2_restore_11 : decode cX2_restore 11 = .ok (.iconst 1, 1) := by decide +kernel
theorem dX2_restore_12 : decode cX2_restore 12 = .ok (.isub, 1) := by decide +kernel
theorem dX2_restore_13 : decode cX2_restore 13 = .ok (.goto 10, 3) := by decide +kernel
theorem dX2_restore_16 : decode cX2_restore 16 = .ok (.aload_n 0, 1) := by decide +kernel
theorem dX2_restore_17 : decode cX2_restore 17 = .ok (.getfield 13, 3) := by decide +kernel
theorem dX2_restore_20 : decode cX2_restore 20 = .ok (.arraylength, 1) := by decide +kernel
theorem dX2_restore_21 : decode cX2_restore 21 = .ok (.iconst 1, 1) := by decide +kernel
theorem dX2_restore_22 : decode cX2_restore 22 = .ok (.isub, 1) := by decide +kernel
theorem dX2_restore_23 : decode cX2_restore 23 = .ok (.istore_n 2, 1) := by decide +kernel
theorem dX2_restore_24 : decode cX2_restore 24 = .ok (.aload_n 0, 1) := by decide +kernel
theorem dX2_restore_25 : decode cX2_restore 25 = .ok (.getfield 18, 3) := by decide +kernel
theorem dX2_restore_28 : decode cX2_restore 28 = .ok (.ifCond .le 12, 3) := by decide +kernel
theorem dX2_restore_31 : decode cX2_restore 31 = .ok (.iload_n 2, 1) := by decide +kernel
theorem dX2_restore_32 : decode cX2_restore 32 = .ok (.aload_n 0, 1) := by decide +kernel
theorem dX2_restore_33 : decode cX2_restore 33 = .ok (.getfield 13, 3) := by decide +kernel
theorem dX2_restore_36 : decode cX2_restore 36 = .ok (.arraylength, 1) := by decide +kernel
theorem dX2_restore_37 : decode cX2_restore 37 = .ok (.if_icmp .lt 4, 3) := by decide +kernel
theorem dX2_restore_40 : decode cX2_restore 40 = .ok (.return_, 1) := by decide +kernel
theorem dX2_restore_41 : decode cX2_restore 41 = .ok (.aload_n 1, 1) := by decide +kernel
theorem dX2_restore_42 : decode cX2_restore 42 = .ok (.aload_n 0, 1) := by decide +kernel
theorem dX2_restore_43 : decode cX2_restore 43 = .ok (.getfield 13, 3) := by decide +kernel
theorem dX2_restore_46 : decode cX2_restore 46 = .ok (.iload_n 2, 1) := by decide +kernel
theorem dX2_restore_47 : decode cX2_restore 47 = .ok (.aaload, 1) := by decide +kernel
theorem dX2_restore_48 : decode cX2_restore 48 = .ok (.invokevirtual 35, 3) := by decide +kernel
theorem dX2_restore_51 : decode cX2_restore 51 = .ok (.aload_n 0, 1) := by decide +kernel
theorem dX2_restore_52 : decode cX2_restore 52 = .ok (.iload_n 2, 1) := by decide +kernel
theorem dX2_restore_53 : decode cX2_restore 53 = .ok (.putfield 22, 3) := by decide +kernel
theorem dX2_restore_56 : decode cX2_restore 56 = .ok (.aload_n 0, 1) := by decide +kernel
theorem dX2_restore_57 : decode cX2_restore 57 = .ok (.dup, 1) := by decide +kernel
theorem dX2_restore_58 : decode cX2_restore 58 = .ok (.getfield 18, 3) := by decide +kernel
theorem dX2_restore_61 : decode cX2_restore 61 = .ok (.iconst 1, 1) := by decide +kernel
theorem dX2_restore_62 : decode cX2_restore 62 = .ok (.isub, 1) := by decide +kernel
theorem dX2_restore_63 : decode cX2_restore 63 = .ok (.putfield 18, 3) := by decide +kernel
theorem dX2_restore_66 : decode cX2_restore 66 = .ok (.return_, 1) := by decide +kernel
theorem dX3_init_0 : decode cX3_init 0 = .ok (.aload_n 0, 1) := by decide +kernel
theorem dX3_init_1 : decode cX3_init 1 = .ok (.invokespecial 3, 3) := by decide +kernel
theorem dX3_init_4 : decode cX3_init 4 = .ok (.aload_n 0, 1) := by decide +kernel
theorem dX3_init_5 : decode cX3_init 5 = .ok (.new 9, 3) := by decide +kernel
theorem dX3_init_8 : decode cX3_init 8 = .ok (.dup, 1) := by decide +kernel
theorem dX3_init_9 : decode cX3_init 9 = .ok (.invokespecial 11, 3) := by decide +kernel
theorem dX3_init_12 : decode cX3_init 12 = .ok (.putfield 12, 3) := by decide +kernel
theorem dX3_init_15 : decode cX3_init 15 = .ok (.aload_n 0, 1) := by decide +kernel
theorem dX3_init_16 : decode cX3_init 16 = .ok (.bipush 14, 2) := by decide +kernel
theorem dX3_init_18 : decode cX3_init 18 = .ok (.bipush 17, 2) := by decide +kernel
theorem dX3_init_20 : decode cX3_init 20 = .ok (.multianewarray 18 2, 4) := by decide +kernel
theorem dX3_init_24 : decode cX3_init 24 = .ok (.putfield 20, 3) := by decide +kernel
theorem dX3_init_27 : decode cX3_init 27 = .ok (.aload_n 0, 1) := by decide +kernel
theorem dX3_init_28 : decode cX3_init 28 = .ok (.bipush 14, 2) := by decide +kernel
theorem dX3_init_30 : decode cX3_init 30 = .ok (.bipush 17, 2) := by decide +kernel
theorem dX3_init_32 : decode cX3_init 32 = .ok (.multianewarray 18 2, 4) := by decide +kernel
theorem dX3_init_36 : decode cX3_init 36 = .ok (.putfield 23, 3) := by decide +kernel
theorem dX3_init_39 : decode cX3_init 39 = .ok (.aload_n 0, 1) := by decide +kernel
theorem dX3_init_40 : decode cX3_init 40 = .ok (.bipush 17, 2) := by decide +kernel
theorem dX3_init_42 : decode cX3_init 42 = .ok (.newarray .int, 2) := by decide +kernel
theorem dX3_init_44 : decode cX3_init 44 = .ok (.putfield 26, 3) := by decide +kernel
theorem dX3_init_47 : decode cX3_init 47 = .ok (.aload_n 0, 1) := by decide +kernel
theorem dX3_init_48 : decode cX3_init 48 = .ok (.bipush 17, 2) := by decide +kernel
theorem dX3_init_50 : decode cX3_init 50 = .ok (.newarray .int, 2) := by decide +kernel
theorem dX3_init_52 : decode cX3_init 52 = .ok (.putfield 30, 3) := by decide +kernel
theorem dX3_init_55 : decode cX3_init 55 = .ok (.return_, 1) := by decide +kernel
theorem dX3_fewest_0 : decode cX3_fewest 0 = .ok (.aload_n 1, 1) := by decide +kernel
theorem dX3_fewest_1 : decode cX3_fewest 1 = .ok (.invokevirtual 33, 3) := by decide +kernel
theorem dX3_fewest_4 : decode cX3_fewest 4 = .ok (.bipush 14, 2) := by decide +kernel
theorem dX3_fewest_6 : decode cX3_fewest 6 = .ok (.invokestatic 39, 3) := by decide +kernel
theorem dX3_fewest_9 : decode cX3_fewest 9 = .ok (.istore_n 2, 1) := by decide +kernel
theorem dX3_fewest_10 : decode cX3_fewest 10 = .ok (.aload_n 0, 1) := by decide +kernel
theorem dX3_fewest_11 : decode cX3_fewest 11 = .ok (.aload_n 1, 1) := by decide +kernel
theorem dX3_fewest_12 : decode cX3_fewest 12 = .ok (.iload_n 2, 1) := by decide +kernel
theorem dX3_fewest_13 : decode cX3_fewest 13 = .ok (.invokevirtual 45, 3) := by decide +kernel
theorem dX3_fewest_16 : decode cX3_fewest 16 = .ok (.aload_n 1, 1) := by decide +kernel
theorem dX3_fewest_17 : decode cX3_fewest 17 = .ok (.invokevirtual 49, 3) := by decide +kernel
theorem dX3_fewest_20 : decode cX3_fewest 20 = .ok (.istore_n 3, 1) := by decide +kernel
theorem dX3_fewest_21 : decode cX3_fewest 21 = .ok (.aload_n 0, 1) := by decide +kernel
theorem dX3_fewest_22 : decode cX3_fewest 22 = .ok (.iload_n 3, 1) := by decide +kernel
theorem dX3_fewest_23 : decode cX3_fewest 23 = .ok (.iload_n 2, 1) := by decide +kernel
theorem dX3_fewest_24 : decode cX3_fewest 24 = .ok (.invokevirtual 52, 3) := by decide +kernel
theorem dX3_fewest_27 : decode cX3_fewest 27 = .ok (.istore 4, 2) := by decide +kernel
theorem dX3_fewest_29 : decode cX3_fewest 29 = .ok (.iload 4, 2) := by decide +kernel
theorem dX3_fewest_31 : decode cX3_fewest 31 = .ok (.ifCond .ne 5, 3) := by decide +kernel
theorem dX3_fewest_34 : decode cX3_fewest 34 = .ok (.iconst 0, 1) := by decide +kernel
theorem dX3_fewest_35 : decode cX3_fewest 35 = .ok (.ireturn, 1) := by decide +kernel
theorem dX3_fewest_36 : decode cX3_fewest 36 = .ok (.iload_n 2, 1) := by decide +kernel
theorem dX3_fewest_37 : decode cX3_fewest 37 = .ok (.iconst 1, 1) := by decide +kernel
theorem dX3_fewest_38 : decode cX3_fewest 38 = .ok (.isub, 1) := by decide +kernel
theorem dX3_fewest_39 : decode cX3_fewest 39 = .ok (.istore 5, 2) := by decide +kernel
theorem dX3_fewest_41 : decode cX3_fewest 41 = .ok (.iload 5, 2) := by decide +kernel
theorem dX3_fewest_43 : decode cX3_fewest 43 = .ok (.ifCond .lt 33, 3) := by decide +kernel
theorem dX3_fewest_46 : decode cX3_fewest 46 = .ok (.iload_n 3, 1) := by decide +kernel
theorem dX3_fewest_47 : decode cX3_fewest 47 = .ok (.iconst 1, 1) := by decide +kernel
theorem dX3_fewest_48 : decode cX3_fewest 48 = .ok (.iload 5, 2) := by decide +kernel
theorem dX3_fewest_50 : decode cX3_fewest 50 = .ok (.ishl, 1) := by decide +kernel
theorem dX3_fewest_51 : decode cX3_fewest 51 = .ok (.iconst (-1), 1) := by decide +kernel
theorem dX3_fewest_52 : decode cX3_fewest 52 = .ok (.ixor, 1) := by decide +kernel
theorem dX3_fewest_53 : decode cX3_fewest 53 = .ok (.iand, 1) := by decide +kernel
theorem dX3_fewest_54 : decode cX3_fewest 54 = .ok (.istore 6, 2) := by decide +kernel
theorem dX3_fewest_56 : decode cX3_fewest 56 = .ok (.aload_n 0, 1) := by decide +kernel
theorem dX3_fewest_57 : decode cX3_fewest 57 = .ok (.iload 6, 2) := by decide +kernel
theorem dX3_fewest_59 : decode cX3_fewest 59 = .ok (.iload 4, 2) := by decide +kernel
theorem dX3_fewest_61 : decode cX3_fewest 61 = .ok (.invokevirtual 52, 3) := by decide +kernel
theorem dX3_fewest_64 : decode cX3_fewest 64 = .ok (.ifCond .eq 6, 3) := by decide +kernel
theorem dX3_fewest_67 : decode cX3_fewest 67 = .ok (.iload 6, 2) := by decide +kernel
theorem dX3_fewest_69 : decode cX3_fewest 69 = .ok (.istore_n 3, 1) := by decide +kernel
theorem dX3_fewest_70 : decode cX3_fewest 70 = .ok (.iinc 5 (-1), 3) := by decide +kernel
theorem dX3_fewest_73 : decode cX3_fewest 73 = .ok (.goto (-32), 3) := by decide +kernel
theorem dX3_fewest_76 : decode cX3_fewest 76 = .ok (.iload_n 3, 1) := by decide +kernel
theorem dX3_fewest_77 : decode cX3_fewest 77 = .ok (.ireturn, 1) := by decide +kernel
theorem dX3_noteSteps_0 : decode cX3_noteSteps 0 = .ok (.iconst 0, 1) := by decide +kernel
theorem dX3_noteSteps_1 : decode cX3_noteSteps 1 = .ok (.istore_n 3, 1) := by decide +kernel
theorem dX3_noteSteps_2 : decode cX3_noteSteps 2 = .ok (.iload_n 3, 1) := by decide +kernel
theorem dX3_noteSteps_3 : decode cX3_noteSteps 3 = .ok (.iload_n 2, 1) := by decide +kernel
theorem dX3_noteSteps_4 : decode cX3_noteSteps 4 = .ok (.if_icmp .ge 83, 3) := by decide +kernel
theorem dX3_noteSteps_7 : decode cX3_noteSteps 7 = .ok (.iload_n 3, 1) := by decide +kernel
theorem dX3_noteSteps_8 : decode cX3_noteSteps 8 = .ok (.bipush 14, 2) := by decide +kernel
theorem dX3_noteSteps_10 : decode cX3_noteSteps 10 = .ok (.if_icmp .ge 77, 3) := by decide +kernel
theorem dX3_noteSteps_13 : decode cX3_noteSteps 13 = .ok (.aload_n 0, 1) := by decide +kernel
theorem dX3_noteSteps_14 : decode cX3_noteSteps 14 = .ok (.getfield 12, 3) := by decide +kernel
theorem dX3_noteSteps_17 : decode cX3_noteSteps 17 = .ok (.invokevirtual 55, 3) := by decide +kernel
theorem dX3_noteSteps_20 : decode cX3_noteSteps 20 = .ok (.aload_n 1, 1) := by decide +kernel
theorem dX3_noteSteps_21 : decode cX3_noteSteps 21 = .ok (.iload_n 3, 1) := by decide +kernel
theorem dX3_noteSteps_22 : decode cX3_noteSteps 22 = .ok (.aload_n 0, 1) := by decide +kernel
theorem dX3_noteSteps_23 : decode cX3_noteSteps 23 = .ok (.getfield 12, 3) := by decide +kernel
theorem dX3_noteSteps_26 : decode cX3_noteSteps 26 = .ok (.invokevirtual 58, 3) := by decide +kernel
theorem dX3_noteSteps_29 : decode cX3_noteSteps 29 = .ok (.iconst 0, 1) := by decide +kernel
theorem dX3_noteSteps_30 : decode cX3_noteSteps 30 = .ok (.istore 4, 2) := by decide +kernel
theorem dX3_noteSteps_32 : decode cX3_noteSteps 32 = .ok (.iload 4, 2) := by decide +kernel
theorem dX3_noteSteps_34 : decode cX3_noteSteps 34 = .ok (.bipush 17, 2) := by decide +kernel
theorem dX3_noteSteps_36 : decode cX3_noteSteps 36 = .ok (.if_icmp .ge 45, 3) := by decide +kernel
theorem dX3_noteSteps_39 : decode cX3_noteSteps 39 = .ok (.aload_n 0, 1) := by decide +kernel
theorem dX3_noteSteps_40 : decode cX3_noteSteps 40 = .ok (.getfield 20, 3) := by decide +kernel
theorem dX3_noteSteps_43 : decode cX3_noteSteps 43 = .ok (.iload_n 3, 1) := by decide +kernel
theorem dX3_noteSteps_44 : decode cX3_noteSteps 44 = .ok (.aaload, 1) := by decide +kernel
theorem dX3_noteSteps_45 : decode cX3_noteSteps 45 = .ok (.iload 4, 2) := by decide +kernel
theorem dX3_noteSteps_47 : decode cX3_noteSteps 47 = .ok (.aload_n 0, 1) := by decide +kernel
theorem dX3_noteSteps_48 : decode cX3_noteSteps 48 = .ok (.getfield 12, 3) := by decide +kernel
theorem dX3_noteSteps_51 : decode cX3_noteSteps 51 = .ok (.iload 4, 2) := by decide +kernel
theorem dX3_noteSteps_53 : decode cX3_noteSteps 53 = .ok (.invokevirtual 62, 3) := by decide +kernel
theorem dX3_noteSteps_56 : decode cX3_noteSteps 56 = .ok (.iastore, 1) := by decide +kernel
theorem dX3_noteSteps_57 : decode cX3_noteSteps 57 = .ok (.aload_n 0, 1) := by decide +kernel
theorem dX3_noteSteps_58 : decode cX3_noteSteps 58 = .ok (.getfield 23, 3) := by decide +kernel
theorem dX3_noteSteps_61 : decode cX3_noteSteps 61 = .ok (.iload_n 3, 1) := by decide +kernel
theorem dX3_noteSteps_62 : decode cX3_noteSteps 62 = .ok (.aaload, 1) := by decide +kernel
theorem dX3_noteSteps_63 : decode cX3_noteSteps 63 = .ok (.iload 4, 2) := by decide +kernel
theorem dX3_noteSteps_65 : decode cX3_noteSteps 65 = .ok (.aload_n 0, 1) := by decide +kernel
theorem dX3_noteSteps_66 : decode cX3_noteSteps 66 = .ok (.getfield 12, 3) := by decide +kernel
theorem dX3_noteSteps_69 : decode cX3_noteSteps 69 = .ok (.iload 4, 2) := by decide +kernel
theorem dX3_noteSteps_71 : decode cX3_noteSteps 71 = .ok (.invokevirtual 66, 3) := by decide +kernel
theorem dX3_noteSteps_74 : decode cX3_noteSteps 74 = .ok (.iastore, 1) := by decide +kernel
theorem dX3_noteSteps_75 : decode cX3_noteSteps 75 = .ok (.iinc 4 1, 3) := by decide +kernel
theorem dX3_noteSteps_78 : decode cX3_noteSteps 78 = .ok (.goto (-46), 3) := by decide +kernel
theorem dX3_noteSteps_81 : decode cX3_noteSteps 81 = .ok (.iinc 3 1, 3) := by decide +kernel
theorem dX3_noteSteps_84 : decode cX3_noteSteps 84 = .ok (.goto (-82), 3) := by decide +kernel
theorem dX3_noteSteps_87 : decode cX3_noteSteps 87 = .ok (.return_, 1) := by decide +kernel
theorem dX3_shortestRing_0 : decode cX3_shortestRing 0 = .ok (.aload_n 0, 1) := by decide +kernel
theorem dX3_shortestRing_1 : decode cX3_shortestRing 1 = .ok (.iload_n 1, 1) := by decide +kernel
theorem dX3_shortestRing_2 : decode cX3_shortestRing 2 = .ok (.invokevirtual 69, 3) := by decide +kernel
theorem dX3_shortestRing_5 : decode cX3_shortestRing 5 = .ok (.iconst 0, 1) := by decide +kernel
theorem dX3_shortestRing_6 : decode cX3_shortestRing 6 = .ok (.istore_n 3, 1) := by decide +kernel
theorem dX3_shortestRing_7 : decode cX3_shortestRing 7 = .ok (.iload_n 2, 1) := by decide +kernel
theorem dX3_shortestRing_8 : decode cX3_shortestRing 8 = .ok (.istore 4, 2) := by decide +kernel
theorem dX3_shortestRing_10 : decode cX3_shortestRing 10 = .ok (.iconst 0, 1) := by decide +kernel
theorem dX3_shortestRing_11 : decode cX3_shortestRing 11 = .ok (.istore 5, 2) := by decide +kernel
theorem dX3_shortestRing_13 : decode cX3_shortestRing 13 = .ok (.iload 5, 2) := by decide +kernel
theorem dX3_shortestRing_15 : decode cX3_shortestRing 15 = .ok (.bipush 17, 2) := by decide +kernel
theorem dX3_shortestRing_17 : decode cX3_shortestRing 17 = .ok (.if_icmp .ge 33, 3) := by decide +kernel
theorem dX3_shortestRing_20 : decode cX3_shortestRing 20 = .ok (.aload_n 0, 1) := by decide +kernel
theorem dX3_shortestRing_21 : decode cX3_shortestRing 21 = .ok (.iload 5, 2) := by decide +kernel
theorem dX3_shortestRing_23 : decode cX3_shortestRing 23 = .ok (.iload 4, 2) := by decide +kernel
theorem dX3_shortestRing_25 : decode cX3_shortestRing 25 = .ok (.invokevirtual 73, 3) := by decide +kernel
theorem dX3_shortestRing_28 : decode cX3_shortestRing 28 = .ok (.istore 6, 2) := by decide +kernel
theorem dX3_shortestRing_30 : decode cX3_shortestRing 30 = .ok (.iload 6, 2) := by decide +kernel
theorem dX3_shortestRing_32 : decode cX3_shortestRing 32 = .ok (.ifCond .eq 12, 3) := by decide +kernel
theorem dX3_shortestRing_35 : decode cX3_shortestRing 35 = .ok (.iload 6, 2) := by decide +kernel
theorem dX3_shortestRing_37 : decode cX3_shortestRing 37 = .ok (.istore_n 3, 1) := by decide +kernel
theorem dX3_shortestRing_38 : decode cX3_shortestRing 38 = .ok (.iload 6, 2) := by decide +kernel
theorem dX3_shortestRing_40 : decode cX3_shortestRing 40 = .ok (.iconst 1, 1) := by decide +kernel
theorem dX3_shortestRing_41 : decode cX3_shortestRing 41 = .ok (.isub, 1) := by decide +kernel
theorem dX3_shortestRing_42 : decode cX3_shortestRing 42 = .ok (.istore 4, 2) := by decide +kernel
theorem dX3_shortestRing_44 : decode cX3_shortestRing 44 = .ok (.iinc 5 1, 3) := by decide +kernel
theorem dX3_shortestRing_47 : decode cX3_shortestRing 47 = .ok (.goto (-34), 3) := by decide +kernel
theorem dX3_shortestRing_50 : decode cX3_shortestRing 50 = .ok (.iload_n 3, 1) := by decide +kernel
theorem dX3_shortestRing_51 : decode cX3_shortestRing 51 = .ok (.ireturn, 1) := by decide +kernel
theorem dX3_joinSteps_0 : decode cX3_joinSteps 0 = .ok (.iconst 0, 1) := by decide +kernel
theorem dX3_joinSteps_1 : decode cX3_joinSteps 1 = .ok (.istore_n 2, 1) := by decide +kernel
theorem dX3_joinSteps_2 : decode cX3_joinSteps 2 = .ok (.iload_n 2, 1) := by decide +kernel
theorem dX3_joinSteps_3 : decode cX3_joinSteps 3 = .ok (.bipush 17, 2) := by decide +kernel
theorem dX3_joinSteps_5 : decode cX3_joinSteps 5 = .ok (.if_icmp .ge 81, 3) := by decide +kernel
theorem dX3_joinSteps_8 : decode cX3_joinSteps 8 = .ok (.aload_n 0, 1) := by decide +kernel
theorem dX3_joinSteps_9 : decode cX3_joinSteps 9 = .ok (.getfield 26, 3) := by decide +kernel
theorem dX3_joinSteps_12 : decode cX3_joinSteps 12 = .ok (.iload_n 2, 1) := by decide +kernel
theorem dX3_joinSteps_13 : decode cX3_joinSteps 13 = .ok (.iconst 1, 1) := by decide +kernel
theorem dX3_joinSteps_14 : decode cX3_joinSteps 14 = .ok (.iload_n 2, 1) := by decide +kernel
theorem dX3_joinSteps_15 : decode cX3_joinSteps 15 = .ok (.ishl, 1) := by decide +kernel
theorem dX3_joinSteps_16 : decode cX3_joinSteps 16 = .ok (.iastore, 1) := by decide +kernel
theorem dX3_joinSteps_17 : decode cX3_joinSteps 17 = .ok (.aload_n 0, 1) := by decide +kernel
theorem dX3_joinSteps_18 : decode cX3_joinSteps 18 = .ok (.getfield 30, 3) := by decide +kernel
theorem dX3_joinSteps_21 : decode cX3_joinSteps 21 = .ok (.iload_n 2, 1) := by decide +kernel
theorem dX3_joinSteps_22 : decode cX3_joinSteps 22 = .ok (.iconst 0, 1) := by decide +kernel
theorem dX3_joinSteps_23 : decode cX3_joinSteps 23 = .ok (.iastore, 1) := by decide +kernel
theorem dX3_joinSteps_24 : decode cX3_joinSteps 24 = .ok (.iconst 0, 1) := by decide +kernel
theorem dX3_joinSteps_25 : decode cX3_joinSteps 25 = .ok (.istore_n 3, 1) := by decide +kernel
theorem dX3_joinSteps_26 : decode cX3_joinSteps 26 = .ok (.iload_n 3, 1) := by decide +kernel
theorem dX3_joinSteps_27 : decode cX3_joinSteps 27 = .ok (.bipush 14, 2) := by decide +kernel
theorem dX3_joinSteps_29 : decode cX3_joinSteps 29 = .ok (.if_icmp .ge 51, 3) := by decide +kernel
theorem dX3_joinSteps_32 : decode cX3_joinSteps 32 = .ok (.iload_n 1, 1) := by decide +kernel
theorem dX3_joinSteps_33 : decode cX3_joinSteps 33 = .ok (.iload_n 3, 1) := by decide +kernel
theorem dX3_joinSteps_34 : decode cX3_joinSteps 34 = .ok (.invokestatic 76, 3) := by decide +kernel
theorem dX3_joinSteps_37 : decode cX3_joinSteps 37 = .ok (.ifCond .eq 37, 3) := by decide +kernel
theorem dX3_joinSteps_40 : decode cX3_joinSteps 40 = .ok (.aload_n 0, 1) := by decide +kernel
theorem dX3_joinSteps_41 : decode cX3_joinSteps 41 = .ok (.getfield 26, 3) := by decide +kernel
theorem dX3_joinSteps_44 : decode cX3_joinSteps 44 = .ok (.iload_n 2, 1) := by decide +kernel
theorem dX3_joinSteps_45 : decode cX3_joinSteps 45 = .ok (.dup2, 1) := by decide +kernel
theorem dX3_joinSteps_46 : decode cX3_joinSteps 46 = .ok (.iaload, 1) := by decide +kernel
theorem dX3_joinSteps_47 : decode cX3_joinSteps 47 = .ok (.aload_n 0, 1) := by decide +kernel
theorem dX3_joinSteps_48 : decode cX3_joinSteps 48 = .ok (.getfield 20, 3) := by decide +kernel
theorem dX3_joinSteps_51 : decode cX3_joinSteps 51 = .ok (.iload_n 3, 1) := by decide +kernel
theorem dX3_joinSteps_52 : decode cX3_joinSteps 52 = .ok (.aaload, 1) := by decide +kernel
theorem dX3_joinSteps_53 : decode cX3_joinSteps 53 = .ok (.iload_n 2, 1) := by decide +kernel
theorem dX3_joinSteps_54 : decode cX3_joinSteps 54 = .ok (.iaload, 1) := by decide +kernel
theorem dX3_joinSteps_55 : decode cX3_joinSteps 55 = .ok (.ior, 1) := by decide +kernel
theorem dX3_joinSteps_56 : decode cX3_joinSteps 56 = .ok (.iastore, 1) := by decide +kernel
theorem dX3_joinSteps_57 : decode cX3_joinSteps 57 = .ok (.aload_n 0, 1) := by decide +kernel
theorem dX3_joinSteps_58 : decode cX3_joinSteps 58 = .ok (.getfield 30, 3) := by decide +kernel
theorem dX3_joinSteps_61 : decode cX3_joinSteps 61 = .ok (.iload_n 2, 1) := by decide +kernel
theorem dX3_joinSteps_62 : decode cX3_joinSteps 62 = .ok (.dup2, 1) := by decide +kernel
theorem dX3_joinSteps_63 : decode cX3_joinSteps 63 = .ok (.iaload, 1) := by decide +kernel
theorem dX3_joinSteps_64 : decode cX3_joinSteps 64 = .ok (.aload_n 0, 1) := by decide +kernel
theorem dX3_joinSteps_65 : decode cX3_joinSteps 65 = .ok (.getfield 23, 3) := by decide +kernel
theorem dX3_joinSteps_68 : decode cX3_joinSteps 68 = .ok (.iload_n 3, 1) := by decide +kernel
theorem dX3_joinSteps_69 : decode cX3_joinSteps 69 = .ok (.aaload, 1) := by decide +kernel
theorem dX3_joinSteps_70 : decode cX3_joinSteps 70 = .ok (.iload_n 2, 1) := by decide +kernel
theorem dX3_joinSteps_71 : decode cX3_joinSteps 71 = .ok (.iaload, 1) := by decide +kernel
theorem dX3_joinSteps_72 : decode cX3_joinSteps 72 = .ok (.ior, 1) := by decide +kernel
theorem dX3_joinSteps_73 : decode cX3_joinSteps 73 = .ok (.iastore, 1) := by decide +kernel
theorem dX3_joinSteps_74 : decode cX3_joinSteps 74 = .ok (.iinc 3 1, 3) := by decide +kernel
theorem dX3_joinSteps_77 : decode cX3_joinSteps 77 = .ok (.goto (-51), 3) := by decide +kernel
theorem dX3_joinSteps_80 : decode cX3_joinSteps 80 = .ok (.iinc 2 1, 3) := by decide +kernel
theorem dX3_joinSteps_83 : decode cX3_joinSteps 83 = .ok (.goto (-81), 3) := by decide +kernel
theorem dX3_joinSteps_86 : decode cX3_joinSteps 86 = .ok (.return_, 1) := by decide +kernel
theorem dX3_stepsBackTo_0 : decode cX3_stepsBackTo 0 = .ok (.iconst 1, 1) := by decide +kernel
theorem dX3_stepsBackTo_1 : decode cX3_stepsBackTo 1 = .ok (.iload_n 1, 1) := by decide +kernel
theorem dX3_stepsBackTo_2 : decode cX3_stepsBackTo 2 = .ok (.ishl, 1) := by decide +kernel
theorem dX3_stepsBackTo_3 : decode cX3_stepsBackTo 3 = .ok (.istore_n 3, 1) := by decide +kernel
theorem dX3_stepsBackTo_4 : decode cX3_stepsBackTo 4 = .ok (.iconst 0, 1) := by decide +kernel
theorem dX3_stepsBackTo_5 : decode cX3_stepsBackTo 5 = .ok (.istore 4, 2) := by decide +kernel
theorem dX3_stepsBackTo_7 : decode cX3_stepsBackTo 7 = .ok (.iconst 1, 1) := by decide +kernel
theorem dX3_stepsBackTo_8 : decode cX3_stepsBackTo 8 = .ok (.istore 5, 2) := by decide +kernel
theorem dX3_stepsBackTo_10 : decode cX3_stepsBackTo 10 = .ok (.iload 5, 2) := by decide +kernel
theorem dX3_stepsBackTo_12 : decode cX3_stepsBackTo 12 = .ok (.iload_n 2, 1) := by decide +kernel
theorem dX3_stepsBackTo_13 : decode cX3_stepsBackTo 13 = .ok (.if_icmp .gt 103, 3) := by decide +kernel
theorem dX3_stepsBackTo_16 : decode cX3_stepsBackTo 16 = .ok (.iconst 0, 1) := by decide +kernel
theorem dX3_stepsBackTo_17 : decode cX3_stepsBackTo 17 = .ok (.istore 6, 2) := by decide +kernel
theorem dX3_stepsBackTo_19 : decode cX3_stepsBackTo 19 = .ok (.iconst 0, 1) := by decide +kernel
theorem dX3_stepsBackTo_20 : decode cX3_stepsBackTo 20 = .ok (.istore 7, 2) := by decide +kernel
theorem dX3_stepsBackTo_22 : decode cX3_stepsBackTo 22 = .ok (.iconst 0, 1) := by decide +kernel
theorem dX3_stepsBackTo_23 : decode cX3_stepsBackTo 23 = .ok (.istore 8, 2) := by decide +kernel
theorem dX3_stepsBackTo_25 : decode cX3_stepsBackTo 25 = .ok (.iload 8, 2) := by decide +kernel
theorem dX3_stepsBackTo_27 : decode cX3_stepsBackTo 27 = .ok (.bipush 17, 2) := by decide +kernel
theorem dX3_stepsBackTo_29 : decode cX3_stepsBackTo 29 = .ok (.if_icmp .ge 62, 3) := by decide +kernel
theorem dX3_stepsBackTo_32 : decode cX3_stepsBackTo 32 = .ok (.iload_n 3, 1) := by decide +kernel
theorem dX3_stepsBackTo_33 : decode cX3_stepsBackTo 33 = .ok (.iload 8, 2) := by decide +kernel
theorem dX3_stepsBackTo_35 : decode cX3_stepsBackTo 35 = .ok (.invokestatic 76, 3) := by decide +kernel
theorem dX3_stepsBackTo_38 : decode cX3_stepsBackTo 38 = .ok (.ifCond .eq 47, 3) := by decide +kernel
theorem dX3_stepsBackTo_41 : decode cX3_stepsBackTo 41 = .ok (.iload 6, 2) := by decide +kernel
theorem dX3_stepsBackTo_43 : decode cX3_stepsBackTo 43 = .ok (.aload_n 0, 1) := by decide +kernel
theorem dX3_stepsBackTo_44 : decode cX3_stepsBackTo 44 = .ok (.getfield 26, 3) := by decide +kernel
theorem dX3_stepsBackTo_47 : decode cX3_stepsBackTo 47 = .ok (.iload 8, 2) := by decide +kernel
theorem dX3_stepsBackTo_49 : decode cX3_stepsBackTo 49 = .ok (.iaload, 1) := by decide +kernel
theorem dX3_stepsBackTo_50 : decode cX3_stepsBackTo 50 = .ok (.ior, 1) := by decide +kernel
theorem dX3_stepsBackTo_51 : decode cX3_stepsBackTo 51 = .ok (.istore 6, 2) := by decide +kernel
theorem dX3_stepsBackTo_53 : decode cX3_stepsBackTo 53 = .ok (.iload 7, 2) := by decide +kernel
theorem dX3_stepsBackTo_55 : decode cX3_stepsBackTo 55 = .ok (.iload 4, 2) := by decide +kernel
theorem dX3_stepsBackTo_57 : decode cX3_stepsBackTo 57 = .ok (.iload 8, 2) := by decide +kernel
theorem dX3_stepsBackTo_59 : decode cX3_stepsBackTo 59 = .ok (.invokestatic 76, 3) := by decide +kernel
theorem dX3_stepsBackTo_62 : decode cX3_stepsBackTo 62 = .ok (.ifCond .eq 13, 3) := by decide +kernel
theorem dX3_stepsBackTo_65 : decode cX3_stepsBackTo 65 = .ok (.aload_n 0, 1) := by decide +kernel
theorem dX3_stepsBackTo_66 : decode cX3_stepsBackTo 66 = .ok (.getfield 26, 3) := by decide +kernel
theorem dX3_stepsBackTo_69 : decode cX3_stepsBackTo 69 = .ok (.iload 8, 2) := by decide +kernel
theorem dX3_stepsBackTo_71 : decode cX3_stepsBackTo 71 = .ok (.iaload, 1) := by decide +kernel
theorem dX3_stepsBackTo_72 : decode cX3_stepsBackTo 72 = .ok (.goto 10, 3) := by decide +kernel
theorem dX3_stepsBackTo_75 : decode cX3_stepsBackTo 75 = .ok (.aload_n 0, 1) := by decide +kernel
theorem dX3_stepsBackTo_76 : decode cX3_stepsBackTo 76 = .ok (.getfield 30, 3) := by decide +kernel
theorem dX3_stepsBackTo_79 : decode cX3_stepsBackTo 79 = .ok (.iload 8, 2) := by decide +kernel
theorem dX3_stepsBackTo_81 : decode cX3_stepsBackTo 81 = .ok (.iaload, 1) := by decide +kernel
theorem dX3_stepsBackTo_82 : decode cX3_stepsBackTo 82 = .ok (.ior, 1) := by decide +kernel
theorem dX3_stepsBackTo_83 : decode cX3_stepsBackTo 83 = .ok (.istore 7, 2) := by decide +kernel
theorem dX3_stepsBackTo_85 : decode cX3_stepsBackTo 85 = .ok (.iinc 8 1, 3) := by decide +kernel
theorem dX3_stepsBackTo_88 : decode cX3_stepsBackTo 88 = .ok (.goto (-63), 3) := by decide +kernel
theorem dX3_stepsBackTo_91 : decode cX3_stepsBackTo 91 = .ok (.iload 7, 2) := by decide +kernel
theorem dX3_stepsBackTo_93 : decode cX3_stepsBackTo 93 = .ok (.iload_n 1, 1) := by decide +kernel
theorem dX3_stepsBackTo_94 : decode cX3_stepsBackTo 94 = .ok (.invokestatic 76, 3) := by decide +kernel
theorem dX3_stepsBackTo_97 : decode cX3_stepsBackTo 97 = .ok (.ifCond .eq 6, 3) := by decide +kernel
theorem dX3_stepsBackTo_100 : decode cX3_stepsBackTo 100 = .ok (.iload 5, 2) := by decide +kernel
theorem dX3_stepsBackTo_102 : decode cX3_stepsBackTo 102 = .ok (.ireturn, 1) := by decide +kernel
theorem dX3_stepsBackTo_103 : decode cX3_stepsBackTo 103 = .ok (.iload 6, 2) := by decide +kernel
theorem dX3_stepsBackTo_105 : decode cX3_stepsBackTo 105 = .ok (.istore_n 3, 1) := by decide +kernel
theorem dX3_stepsBackTo_106 : decode cX3_stepsBackTo 106 = .ok (.iload 7, 2) := by decide +kernel
theorem dX3_stepsBackTo_108 : decode cX3_stepsBackTo 108 = .ok (.istore 4, 2) := by decide +kernel
theorem dX3_stepsBackTo_110 : decode cX3_stepsBackTo 110 = .ok (.iinc 5 1, 3) := by decide +kernel
theorem dX3_stepsBackTo_113 : decode cX3_stepsBackTo 113 = .ok (.goto (-103), 3) := by decide +kernel
theorem dX3_stepsBackTo_116 : decode cX3_stepsBackTo 116 = .ok (.iconst 0, 1) := by decide +kernel
theorem dX3_stepsBackTo_117 : decode cX3_stepsBackTo 117 = .ok (.ireturn, 1) := by decide +kernel
theorem dX4_init_0 : decode cX4_init 0 = .ok (.aload_n 0, 1) := by decide +kernel
theorem dX4_init_1 : decode cX4_init 1 = .ok (.invokespecial 3, 3) := by decide +kernel
theorem dX4_init_4 : decode cX4_init 4 = .ok (.aload_n 0, 1) := by decide +kernel
theorem dX4_init_5 : decode cX4_init 5 = .ok (.bipush 6, 2) := by decide +kernel
theorem dX4_init_7 : decode cX4_init 7 = .ok (.newarray .int, 2) := by decide +kernel
theorem dX4_init_9 : decode cX4_init 9 = .ok (.putfield 9, 3) := by decide +kernel
theorem dX4_init_12 : decode cX4_init 12 = .ok (.aload_n 0, 1) := by decide +kernel
theorem dX4_init_13 : decode cX4_init 13 = .ok (.bipush 6, 2) := by decide +kernel
theorem dX4_init_15 : decode cX4_init 15 = .ok (.newarray .int, 2) := by decide +kernel
theorem dX4_init_17 : decode cX4_init 17 = .ok (.putfield 15, 3) := by decide +kernel
theorem dX4_init_20 : decode cX4_init 20 = .ok (.aload_n 0, 1) := by decide +kernel
theorem dX4_init_21 : decode cX4_init 21 = .ok (.bipush 6, 2) := by decide +kernel
theorem dX4_init_23 : decode cX4_init 23 = .ok (.newarray .int, 2) := by decide +kernel
theorem dX4_init_25 : decode cX4_init 25 = .ok (.putfield 18, 3) := by decide +kernel
theorem dX4_init_28 : decode cX4_init 28 = .ok (.return_, 1) := by decide +kernel
theorem dX4_size_0 : decode cX4_size 0 = .ok (.aload_n 0, 1) := by decide +kernel
theorem dX4_size_1 : decode cX4_size 1 = .ok (.getfield 21, 3) := by decide +kernel
theorem dX4_size_4 : decode cX4_size 4 = .ok (.ireturn, 1) := by decide +kernel
theorem dX4_empty_0 : decode cX4_empty 0 = .ok (.aload_n 0, 1) := by decide +kernel
theorem dX4_empty_1 : decode cX4_empty 1 = .ok (.iconst 0, 1) := by decide +kernel
theorem dX4_empty_2 : decode cX4_empty 2 = .ok (.putfield 21, 3) := by decide +kernel
theorem dX4_empty_5 : decode cX4_empty 5 = .ok (.return_, 1) := by decide +kernel
theorem dX4_add_0 : decode cX4_add 0 = .ok (.aload_n 0, 1) := by decide +kernel
theorem dX4_add_1 : decode cX4_add 1 = .ok (.getfield 21, 3) := by decide +kernel
theorem dX4_add_4 : decode cX4_add 4 = .ok (.ifCond .lt 12, 3) := by decide +kernel
theorem dX4_add_7 : decode cX4_add 7 = .ok (.aload_n 0, 1) := by decide +kernel
theorem dX4_add_8 : decode cX4_add 8 = .ok (.getfield 21, 3) := by decide +kernel
theorem dX4_add_11 : decode cX4_add 11 = .ok (.bipush 6, 2) := by decide +kernel
theorem dX4_add_13 : decode cX4_add 13 = .ok (.if_icmp .lt 5, 3) := by decide +kernel
theorem dX4_add_16 : decode cX4_add 16 = .ok (.iconst 0, 1) := by decide +kernel
theorem dX4_add_17 : decode cX4_add 17 = .ok (.ireturn, 1) := by decide +kernel
theorem dX4_add_18 : decode cX4_add 18 = .ok (.aload_n 0, 1) := by decide +kernel
theorem dX4_add_19 : decode cX4_add 19 = .ok (.getfield 9, 3) := by decide +kernel
theorem dX4_add_22 : decode cX4_add 22 = .ok (.aload_n 0, 1) := by decide +kernel
theorem dX4_add_23 : decode cX4_add 23 = .ok (.getfield 21, 3) := by decide +kernel
theorem dX4_add_26 : decode cX4_add 26 = .ok (.iload_n 1, 1) := by decide +kernel
theorem dX4_add_27 : decode cX4_add 27 = .ok (.iastore, 1) := by decide +kernel
theorem dX4_add_28 : decode cX4_add 28 = .ok (.aload_n 0, 1) := by decide +kernel
theorem dX4_add_29 : decode cX4_add 29 = .ok (.getfield 15, 3) := by decide +kernel
theorem dX4_add_32 : decode cX4_add 32 = .ok (.aload_n 0, 1) := by decide +kernel
theorem dX4_add_33 : decode cX4_add 33 = .ok (.getfield 21, 3) := by decide +kernel
theorem dX4_add_36 : decode cX4_add 36 = .ok (.iload_n 2, 1) := by decide +kernel
theorem dX4_add_37 : decode cX4_add 37 = .ok (.iastore, 1) := by decide +kernel
theorem dX4_add_38 : decode cX4_add 38 = .ok (.aload_n 0, 1) := by decide +kernel
theorem dX4_add_39 : decode cX4_add 39 = .ok (.getfield 18, 3) := by decide +kernel
theorem dX4_add_42 : decode cX4_add 42 = .ok (.aload_n 0, 1) := by decide +kernel
theorem dX4_add_43 : decode cX4_add 43 = .ok (.getfield 21, 3) := by decide +kernel
theorem dX4_add_46 : decode cX4_add 46 = .ok (.iload_n 3, 1) := by decide +kernel
theorem dX4_add_47 : decode cX4_add 47 = .ok (.iastore, 1) := by decide +kernel
theorem dX4_add_48 : decode cX4_add 48 = .ok (.aload_n 0, 1) := by decide +kernel
theorem dX4_add_49 : decode cX4_add 49 = .ok (.dup, 1) := by decide +kernel
theorem dX4_add_50 : decode cX4_add 50 = .ok (.getfield 21, 3) := by decide +kernel
theorem dX4_add_53 : decode cX4_add 53 = .ok (.iconst 1, 1) := by decide +kernel
theorem dX4_add_54 : decode cX4_add 54 = .ok (.iadd, 1) := by decide +kernel
theorem dX4_add_55 : decode cX4_add 55 = .ok (.putfield 21, 3) := by decide +kernel
theorem dX4_add_58 : decode cX4_add 58 = .ok (.iconst 1, 1) := by decide +kernel
theorem dX4_add_59 : decode cX4_add 59 = .ok (.ireturn, 1) := by decide +kernel
theorem dX4_isSoBy_0 : decode cX4_isSoBy 0 = .ok (.iconst 0, 1) := by decide +kernel
theorem dX4_isSoBy_1 : decode cX4_isSoBy 1 = .ok (.istore_n 2, 1) := by decide +kernel
theorem dX4_isSoBy_2 : decode cX4_isSoBy 2 = .ok (.iload_n 2, 1) := by decide +kernel
theorem dX4_isSoBy_3 : decode cX4_isSoBy 3 = .ok (.aload_n 0, 1) := by decide +kernel
theorem dX4_isSoBy_4 : decode cX4_isSoBy 4 = .ok (.getfield 21, 3) := by decide +kernel
theorem dX4_isSoBy_7 : decode cX4_isSoBy 7 = .ok (.if_icmp .ge 42, 3) := by decide +kernel
theorem dX4_isSoBy_10 : decode cX4_isSoBy 10 = .ok (.iload_n 2, 1) := by decide +kernel
theorem dX4_isSoBy_11 : decode cX4_isSoBy 11 = .ok (.bipush 6, 2) := by decide +kernel
theorem dX4_isSoBy_13 : decode cX4_isSoBy 13 = .ok (.if_icmp .ge 36, 3) := by decide +kernel
theorem dX4_isSoBy_16 : decode cX4_isSoBy 16 = .ok (.aload_n 1, 1) := by decide +kernel
theorem dX4_isSoBy_17 : decode cX4_isSoBy 17 = .ok (.aload_n 0, 1) := by decide +kernel
theorem dX4_isSoBy_18 : decode cX4_isSoBy 18 = .ok (.getfield 9, 3) := by decide +kernel
theorem dX4_isSoBy_21 : decode cX4_isSoBy 21 = .ok (.iload_n 2, 1) := by decide +kernel
theorem dX4_isSoBy_22 : decode cX4_isSoBy 22 = .ok (.iaload, 1) := by decide +kernel
theorem dX4_isSoBy_23 : decode cX4_isSoBy 23 = .ok (.aload_n 0, 1) := by decide +kernel
theorem dX4_isSoBy_24 : decode cX4_isSoBy 24 = .ok (.getfield 15, 3) := by decide +kernel
theorem dX4_isSoBy_27 : decode cX4_isSoBy 27 = .ok (.iload_n 2, 1) := by decide +kernel
theorem dX4_isSoBy_28 : decode cX4_isSoBy 28 = .ok (.iaload, 1) := by decide +kernel
theorem dX4_isSoBy_29 : decode cX4_isSoBy 29 = .ok (.invokevirtual 25, 3) := by decide +kernel
theorem dX4_isSoBy_32 : decode cX4_isSoBy 32 = .ok (.aload_n 0, 1) := by decide +kernel
theorem dX4_isSoBy_33 : decode cX4_isSoBy 33 = .ok (.getfield 18, 3) := by decide +kernel
theorem dX4_isSoBy_36 : decode cX4_isSoBy 36 = .ok (.iload_n 2, 1) := by decide +kernel
theorem dX4_isSoBy_37 : decode cX4_isSoBy 37 = .ok (.iaload, 1) := by decide +kernel
theorem dX4_isSoBy_38 : decode cX4_isSoBy 38 = .ok (.if_icmp .eq 5, 3) := by decide +kernel
theorem dX4_isSoBy_41 : decode cX4_isSoBy 41 = .ok (.iconst 0, 1) := by decide +kernel
theorem dX4_isSoBy_42 : decode cX4_isSoBy 42 = .ok (.ireturn, 1) := by decide +kernel
theorem dX4_isSoBy_43 : decode cX4_isSoBy 43 = .ok (.iinc 2 1, 3) := by decide +kernel
theorem dX4_isSoBy_46 : decode cX4_isSoBy 46 = .ok (.goto (-44), 3) := by decide +kernel
theorem dX4_isSoBy_49 : decode cX4_isSoBy 49 = .ok (.iconst 1, 1) := by decide +kernel
theorem dX4_isSoBy_50 : decode cX4_isSoBy 50 = .ok (.ireturn, 1) := by decide +kernel
end
section
theorem dX6_init_0 : decode cX6_init 0 = .ok (.aload_n 0, 1) := by decide +kernel
theorem dX6_init_1 : decode cX6_init 1 = .ok (.invokespecial 5, 3) := by decide +kernel
theorem dX6_init_4 : decode cX6_init 4 = .ok (.aload_n 0, 1) := by decide +kernel
theorem dX6_init_5 : decode cX6_init 5 = .ok (.bipush 74, 2) := by decide +kernel
theorem dX6_init_7 : decode cX6_init 7 = .ok (.newarray .int, 2) := by decide +kernel
theorem dX6_init_9 : decode cX6_init 9 = .ok (.putfield 11, 3) := by decide +kernel
theorem dX6_init_12 : decode cX6_init 12 = .ok (.return_, 1) := by decide +kernel
theorem dX6_empty_0 : decode cX6_empty 0 = .ok (.aload_n 0, 1) := by decide +kernel
theorem dX6_empty_1 : decode cX6_empty 1 = .ok (.getfield 11, 3) := by decide +kernel
theorem dX6_empty_4 : decode cX6_empty 4 = .ok (.iconst 0, 1) := by decide +kernel
theorem dX6_empty_5 : decode cX6_empty 5 = .ok (.iconst 0, 1) := by decide +kernel
theorem dX6_empty_6 : decode cX6_empty 6 = .ok (.iastore, 1) := by decide +kernel
theorem dX6_empty_7 : decode cX6_empty 7 = .ok (.aload_n 0, 1) := by decide +kernel
theorem dX6_empty_8 : decode cX6_empty 8 = .ok (.getfield 11, 3) := by decide +kernel
theorem dX6_empty_11 : decode cX6_empty 11 = .ok (.iconst 1, 1) := by decide +kernel
theorem dX6_empty_12 : decode cX6_empty 12 = .ok (.iconst 0, 1) := by decide +kernel
theorem dX6_empty_13 : decode cX6_empty 13 = .ok (.iastore, 1) := by decide +kernel
theorem dX6_empty_14 : decode cX6_empty 14 = .ok (.return_, 1) := by decide +kernel
theorem dX6_become_0 : decode cX6_become 0 = .ok (.aload_n 1, 1) := by decide +kernel
theorem dX6_become_1 : decode cX6_become 1 = .ok (.getfield 11, 3) := by decide +kernel
theorem dX6_become_4 : decode cX6_become 4 = .ok (.aload_n 0, 1) := by decide +kernel
theorem dX6_become_5 : decode cX6_become 5 = .ok (.getfield 11, 3) := by decide +kernel
theorem dX6_become_8 : decode cX6_become 8 = .ok (.invokestatic 15, 3) := by decide +kernel
theorem dX6_become_11 : decode cX6_become 11 = .ok (.return_, 1) := by decide +kernel
theorem dX6_copyFrom_0 : decode cX6_copyFrom 0 = .ok (.aload_n 1, 1) := by decide +kernel
theorem dX6_copyFrom_1 : decode cX6_copyFrom 1 = .ok (.aload_n 0, 1) := by decide +kernel
theorem dX6_copyFrom_2 : decode cX6_copyFrom 2 = .ok (.getfield 11, 3) := by decide +kernel
theorem dX6_copyFrom_5 : decode cX6_copyFrom 5 = .ok (.invokestatic 15, 3) := by decide +kernel
theorem dX6_copyFrom_8 : decode cX6_copyFrom 8 = .ok (.return_, 1) := by decide +kernel
theorem dX6_copyTo_0 : decode cX6_copyTo 0 = .ok (.aload_n 0, 1) := by decide +kernel
theorem dX6_copyTo_1 : decode cX6_copyTo 1 = .ok (.getfield 11, 3) := by decide +kernel
theorem dX6_copyTo_4 : decode cX6_copyTo 4 = .ok (.aload_n 1, 1) := by decide +kernel
theorem dX6_copyTo_5 : decode cX6_copyTo 5 = .ok (.invokestatic 15, 3) := by decide +kernel
theorem dX6_copyTo_8 : decode cX6_copyTo 8 = .ok (.return_, 1) := by decide +kernel
theorem dX6_copyRow_0 : decode cX6_copyRow 0 = .ok (.iconst 0, 1) := by decide +kernel
theorem dX6_copyRow_1 : decode cX6_copyRow 1 = .ok (.istore_n 2, 1) := by decide +kernel
theorem dX6_copyRow_2 : decode cX6_copyRow 2 = .ok (.iload_n 2, 1) := by decide +kernel
theorem dX6_copyRow_3 : decode cX6_copyRow 3 = .ok (.bipush 74, 2) := by decide +kernel
theorem dX6_copyRow_5 : decode cX6_copyRow 5 = .ok (.if_icmp .ge 27, 3) := by decide +kernel
theorem dX6_copyRow_8 : decode cX6_copyRow 8 = .ok (.iload_n 2, 1) := by decide +kernel
theorem dX6_copyRow_9 : decode cX6_copyRow 9 = .ok (.aload_n 0, 1) := by decide +kernel
theorem dX6_copyRow_10 : decode cX6_copyRow 10 = .ok (.arraylength, 1) := by decide +kernel
theorem dX6_copyRow_11 : decode cX6_copyRow 11 = .ok (.if_icmp .ge 21, 3) := by decide +kernel
theorem dX6_copyRow_14 : decode cX6_copyRow 14 = .ok (.iload_n 2, 1) := by decide +kernel
theorem dX6_copyRow_15 : decode cX6_copyRow 15 = .ok (.aload_n 1, 1) := by decide +kernel
theorem dX6_copyRow_16 : decode cX6_copyRow 16 = .ok (.arraylength, 1) := by decide +kernel
theorem dX6_copyRow_17 : decode cX6_copyRow 17 = .ok (.if_icmp .ge 15, 3) := by decide +kernel
theorem dX6_copyRow_20 : decode cX6_copyRow 20 = .ok (.aload_n 1, 1) := by decide +kernel
theorem dX6_copyRow_21 : decode cX6_copyRow 21 = .ok (.iload_n 2, 1) := by decide +kernel
theorem dX6_copyRow_22 : decode cX6_copyRow 22 = .ok (.aload_n 0, 1) := by decide +kernel
theorem dX6_copyRow_23 : decode cX6_copyRow 23 = .ok (.iload_n 2, 1) := by decide +kernel
theorem dX6_copyRow_24 : decode cX6_copyRow 24 = .ok (.iaload, 1) := by decide +kernel
theorem dX6_copyRow_25 : decode cX6_copyRow 25 = .ok (.iastore, 1) := by decide +kernel
theorem dX6_copyRow_26 : decode cX6_copyRow 26 = .ok (.iinc 2 1, 3) := by decide +kernel
theorem dX6_copyRow_29 : decode cX6_copyRow 29 = .ok (.goto (-27), 3) := by decide +kernel
theorem dX6_copyRow_32 : decode cX6_copyRow 32 = .ok (.return_, 1) := by decide +kernel
theorem dX6_clauses_0 : decode cX6_clauses 0 = .ok (.aload_n 0, 1) := by decide +kernel
theorem dX6_clauses_1 : decode cX6_clauses 1 = .ok (.getfield 11, 3) := by decide +kernel
theorem dX6_clauses_4 : decode cX6_clauses 4 = .ok (.iconst 0, 1) := by decide +kernel
theorem dX6_clauses_5 : decode cX6_clauses 5 = .ok (.iaload, 1) := by decide +kernel
theorem dX6_clauses_6 : decode cX6_clauses 6 = .ok (.ireturn, 1) := by decide +kernel
theorem dX6_statements_0 : decode cX6_statements 0 = .ok (.aload_n 0, 1) := by decide +kernel
theorem dX6_statements_1 : decode cX6_statements 1 = .ok (.getfield 11, 3) := by decide +kernel
theorem dX6_statements_4 : decode cX6_statements 4 = .ok (.iconst 1, 1) := by decide +kernel
theorem dX6_statements_5 : decode cX6_statements 5 = .ok (.iaload, 1) := by decide +kernel
theorem dX6_statements_6 : decode cX6_statements 6 = .ok (.ireturn, 1) := by decide +kernel
theorem dX6_sayings_0 : decode cX6_sayings 0 = .ok (.aload_n 0, 1) := by decide +kernel
theorem dX6_sayings_1 : decode cX6_sayings 1 = .ok (.invokevirtual 19, 3) := by decide +kernel
theorem dX6_sayings_4 : decode cX6_sayings 4 = .ok (.aload_n 0, 1) := by decide +kernel
theorem dX6_sayings_5 : decode cX6_sayings 5 = .ok (.invokevirtual 23, 3) := by decide +kernel
theorem dX6_sayings_8 : decode cX6_sayings 8 = .ok (.isub, 1) := by decide +kernel
theorem dX6_sayings_9 : decode cX6_sayings 9 = .ok (.ireturn, 1) := by decide +kernel
theorem dX6_everything_0 : decode cX6_everything 0 = .ok (.iconst 1, 1) := by decide +kernel
theorem dX6_everything_1 : decode cX6_everything 1 = .ok (.aload_n 0, 1) := by decide +kernel
theorem dX6_everything_2 : decode cX6_everything 2 = .ok (.invokevirtual 19, 3) := by decide +kernel
theorem dX6_everything_5 : decode cX6_everything 5 = .ok (.ishl, 1) := by decide +kernel
theorem dX6_everything_6 : decode cX6_everything 6 = .ok (.iconst 1, 1) := by decide +kernel
theorem dX6_everything_7 : decode cX6_everything 7 = .ok (.isub, 1) := by decide +kernel
theorem dX6_everything_8 : decode cX6_everything 8 = .ok (.ireturn, 1) := by decide +kernel
theorem dX6_tenseOf_0 : decode cX6_tenseOf 0 = .ok (.aload_n 0, 1) := by decide +kernel
theorem dX6_tenseOf_1 : decode cX6_tenseOf 1 = .ok (.iconst 2, 1) := by decide +kernel
theorem dX6_tenseOf_2 : decode cX6_tenseOf 2 = .ok (.iload_n 1, 1) := by decide +kernel
theorem dX6_tenseOf_3 : decode cX6_tenseOf 3 = .ok (.invokevirtual 26, 3) := by decide +kernel
theorem dX6_tenseOf_6 : decode cX6_tenseOf 6 = .ok (.ireturn, 1) := by decide +kernel
theorem dX6_linkOf_0 : decode cX6_linkOf 0 = .ok (.aload_n 0, 1) := by decide +kernel
theorem dX6_linkOf_1 : decode cX6_linkOf 1 = .ok (.bipush 10, 2) := by decide +kernel
theorem dX6_linkOf_3 : decode cX6_linkOf 3 = .ok (.iload_n 1, 1) := by decide +kernel
theorem dX6_linkOf_4 : decode cX6_linkOf 4 = .ok (.invokevirtual 26, 3) := by decide +kernel
theorem dX6_linkOf_7 : decode cX6_linkOf 7 = .ok (.ireturn, 1) := by decide +kernel
theorem dX6_placeOf_0 : decode cX6_placeOf 0 = .ok (.iconst 0, 1) := by decide +kernel
theorem dX6_placeOf_1 : decode cX6_placeOf 1 = .ok (.istore_n 2, 1) := by decide +kernel
theorem dX6_placeOf_2 : decode cX6_placeOf 2 = .ok (.iload_n 2, 1) := by decide +kernel
theorem dX6_placeOf_3 : decode cX6_placeOf 3 = .ok (.aload_n 0, 1) := by decide +kernel
theorem dX6_placeOf_4 : decode cX6_placeOf 4 = .ok (.invokevirtual 19, 3) := by decide +kernel
theorem dX6_placeOf_7 : decode cX6_placeOf 7 = .ok (.if_icmp .ge 20, 3) := by decide +kernel
theorem dX6_placeOf_10 : decode cX6_placeOf 10 = .ok (.aload_n 0, 1) := by decide +kernel
theorem dX6_placeOf_11 : decode cX6_placeOf 11 = .ok (.iload_n 2, 1) := by decide +kernel
theorem dX6_placeOf_12 : decode cX6_placeOf 12 = .ok (.invokevirtual 30, 3) := by decide +kernel
theorem dX6_placeOf_15 : decode cX6_placeOf 15 = .ok (.iload_n 1, 1) := by decide +kernel
theorem dX6_placeOf_16 : decode cX6_placeOf 16 = .ok (.if_icmp .ne 5, 3) := by decide +kernel
theorem dX6_placeOf_19 : decode cX6_placeOf 19 = .ok (.iload_n 2, 1) := by decide +kernel
theorem dX6_placeOf_20 : decode cX6_placeOf 20 = .ok (.ireturn, 1) := by decide +kernel
theorem dX6_placeOf_21 : decode cX6_placeOf 21 = .ok (.iinc 2 1, 3) := by decide +kernel
theorem dX6_placeOf_24 : decode cX6_placeOf 24 = .ok (.goto (-22), 3) := by decide +kernel
theorem dX6_placeOf_27 : decode cX6_placeOf 27 = .ok (.bipush (-9), 2) := by decide +kernel
theorem dX6_placeOf_29 : decode cX6_placeOf 29 = .ok (.ireturn, 1) := by decide +kernel
theorem dX6_clauseAt_0 : decode cX6_clauseAt 0 = .ok (.aload_n 0, 1) := by decide +kernel
theorem dX6_clauseAt_1 : decode cX6_clauseAt 1 = .ok (.bipush 18, 2) := by decide +kernel
theorem dX6_clauseAt_3 : decode cX6_clauseAt 3 = .ok (.iload_n 1, 1) := by decide +kernel
theorem dX6_clauseAt_4 : decode cX6_clauseAt 4 = .ok (.invokevirtual 34, 3) := by decide +kernel
theorem dX6_clauseAt_7 : decode cX6_clauseAt 7 = .ok (.ireturn, 1) := by decide +kernel
theorem dX6_firstAt_0 : decode cX6_firstAt 0 = .ok (.aload_n 0, 1) := by decide +kernel
theorem dX6_firstAt_1 : decode cX6_firstAt 1 = .ok (.bipush 32, 2) := by decide +kernel
theorem dX6_firstAt_3 : decode cX6_firstAt 3 = .ok (.iload_n 1, 1) := by decide +kernel
theorem dX6_firstAt_4 : decode cX6_firstAt 4 = .ok (.invokevirtual 34, 3) := by decide +kernel
theorem dX6_firstAt_7 : decode cX6_firstAt 7 = .ok (.ireturn, 1) := by decide +kernel
theorem dX6_signAt_0 : decode cX6_signAt 0 = .ok (.aload_n 0, 1) := by decide +kernel
theorem dX6_signAt_1 : decode cX6_signAt 1 = .ok (.bipush 46, 2) := by decide +kernel
theorem dX6_signAt_3 : decode cX6_signAt 3 = .ok (.iload_n 1, 1) := by decide +kernel
theorem dX6_signAt_4 : decode cX6_signAt 4 = .ok (.invokevirtual 34, 3) := by decide +kernel
theorem dX6_signAt_7 : decode cX6_signAt 7 = .ok (.ireturn, 1) := by decide +kernel
theorem dX6_secondAt_0 : decode cX6_secondAt 0 = .ok (.aload_n 0, 1) := by decide +kernel
theorem dX6_secondAt_1 : decode cX6_secondAt 1 = .ok (.bipush 60, 2) := by decide +kernel
theorem dX6_secondAt_3 : decode cX6_secondAt 3 = .ok (.iload_n 1, 1) := by decide +kernel
theorem dX6_secondAt_4 : decode cX6_secondAt 4 = .ok (.invokevirtual 34, 3) := by decide +kernel
theorem dX6_secondAt_7 : decode cX6_secondAt 7 = .ok (.ireturn, 1) := by decide +kernel
theorem dX6_clauseCell_0 : decode cX6_clauseCell 0 = .ok (.iload_n 2, 1) := by decide +kernel
theorem dX6_clauseCell_1 : decode cX6_clauseCell 1 = .ok (.ifCond .lt 20, 3) := by decide +kernel
theorem dX6_clauseCell_4 : decode cX6_clauseCell 4 = .ok (.iload_n 2, 1) := by decide +kernel
theorem dX6_clauseCell_5 : decode cX6_clauseCell 5 = .ok (.bipush 8, 2) := by decide +kernel
theorem dX6_clauseCell_7 : decode cX6_clauseCell 7 = .ok (.if_icmp .ge 14, 3) := by decide +kernel
theorem dX6_clauseCell_10 : decode cX6_clauseCell 10 = .ok (.aload_n 0, 1) := by decide +kernel
theorem dX6_clauseCell_11 : decode cX6_clauseCell 11 = .ok (.getfield 11, 3) := by decide +kernel
theorem dX6_clauseCell_14 : decode cX6_clauseCell 14 = .ok (.iload_n 1, 1) := by decide +kernel
theorem dX6_clauseCell_15 : decode cX6_clauseCell 15 = .ok (.iload_n 2, 1) := by decide +kernel
theorem dX6_clauseCell_16 : decode cX6_clauseCell 16 = .ok (.iadd, 1) := by decide +kernel
theorem dX6_clauseCell_17 : decode cX6_clauseCell 17 = .ok (.iaload, 1) := by decide +kernel
theorem dX6_clauseCell_18 : decode cX6_clauseCell 18 = .ok (.goto 5, 3) := by decide +kernel
theorem dX6_clauseCell_21 : decode cX6_clauseCell 21 = .ok (.bipush (-9), 2) := by decide +kernel
theorem dX6_clauseCell_23 : decode cX6_clauseCell 23 = .ok (.ireturn, 1) := by decide +kernel
theorem dX6_statementCell_0 : decode cX6_statementCell 0 = .ok (.iload_n 2, 1) := by decide +kernel
theorem dX6_statementCell_1 : decode cX6_statementCell 1 = .ok (.ifCond .lt 20, 3) := by decide +kernel
theorem dX6_statementCell_4 : decode cX6_statementCell 4 = .ok (.iload_n 2, 1) := by decide +kernel
theorem dX6_statementCell_5 : decode cX6_statementCell 5 = .ok (.bipush 14, 2) := by decide +kernel
theorem dX6_statementCell_7 : decode cX6_statementCell 7 = .ok (.if_icmp .ge 14, 3) := by decide +kernel
theorem dX6_statementCell_10 : decode cX6_statementCell 10 = .ok (.aload_n 0, 1) := by decide +kernel
theorem dX6_statementCell_11 : decode cX6_statementCell 11 = .ok (.getfield 11, 3) := by decide +kernel
theorem dX6_statementCell_14 : decode cX6_statementCell 14 = .ok (.iload_n 1, 1) := by decide +kernel
theorem dX6_statementCell_15 : decode cX6_statementCell 15 = .ok (.iload_n 2, 1) := by decide +kernel
theorem dX6_statementCell_16 : decode cX6_statementCell 16 = .ok (.iadd, 1) := by decide +kernel
theorem dX6_statementCell_17 : decode cX6_statementCell 17 = .ok (.iaload, 1) := by decide +kernel
theorem dX6_statementCell_18 : decode cX6_statementCell 18 = .ok (.goto 5, 3) := by decide +kernel
theorem dX6_statementCell_21 : decode cX6_statementCell 21 = .ok (.bipush (-9), 2) := by decide +kernel
theorem dX6_statementCell_23 : decode cX6_statementCell 23 = .ok (.ireturn, 1) := by decide +kernel
theorem dX6_setTense_0 : decode cX6_setTense 0 = .ok (.iload_n 1, 1) := by decide +kernel
theorem dX6_setTense_1 : decode cX6_setTense 1 = .ok (.ifCond .lt 18, 3) := by decide +kernel
theorem dX6_setTense_4 : decode cX6_setTense 4 = .ok (.iload_n 1, 1) := by decide +kernel
theorem dX6_setTense_5 : decode cX6_setTense 5 = .ok (.bipush 8, 2) := by decide +kernel
theorem dX6_setTense_7 : decode cX6_setTense 7 = .ok (.if_icmp .ge 12, 3) := by decide +kernel
theorem dX6_setTense_10 : decode cX6_setTense 10 = .ok (.aload_n 0, 1) := by decide +kernel
theorem dX6_setTense_11 : decode cX6_setTense 11 = .ok (.getfield 11, 3) := by decide +kernel
theorem dX6_setTense_14 : decode cX6_setTense 14 = .ok (.iconst 2, 1) := by decide +kernel
theorem dX6_setTense_15 : decode cX6_setTense 15 = .ok (.iload_n 1, 1) := by decide +kernel
theorem dX6_setTense_16 : decode cX6_setTense 16 = .ok (.iadd, 1) := by decide +kernel
theorem dX6_setTense_17 : decode cX6_setTense 17 = .ok (.iload_n 2, 1) := by decide +kernel
theorem dX6_setTense_18 : decode cX6_setTense 18 = .ok (.iastore, 1) := by decide +kernel
theorem dX6_setTense_19 : decode cX6_setTense 19 = .ok (.return_, 1) := by decide +kernel
theorem dX6_setLink_0 : decode cX6_setLink 0 = .ok (.iload_n 1, 1) := by decide +kernel
theorem dX6_setLink_1 : decode cX6_setLink 1 = .ok (.ifCond .lt 19, 3) := by decide +kernel
theorem dX6_setLink_4 : decode cX6_setLink 4 = .ok (.iload_n 1, 1) := by decide +kernel
theorem dX6_setLink_5 : decode cX6_setLink 5 = .ok (.bipush 8, 2) := by decide +kernel
theorem dX6_setLink_7 : decode cX6_setLink 7 = .ok (.if_icmp .ge 13, 3) := by decide +kernel
theorem dX6_setLink_10 : decode cX6_setLink 10 = .ok (.aload_n 0, 1) := by decide +kernel
theorem dX6_setLink_11 : decode cX6_setLink 11 = .ok (.getfield 11, 3) := by decide +kernel
theorem dX6_setLink_14 : decode cX6_setLink 14 = .ok (.bipush 10, 2) := by decide +kernel
theorem dX6_setLink_16 : decode cX6_setLink 16 = .ok (.iload_n 1, 1) := by decide +kernel
theorem dX6_setLink_17 : decode cX6_setLink 17 = .ok (.iadd, 1) := by decide +kernel
theorem dX6_setLink_18 : decode cX6_setLink 18 = .ok (.iload_n 2, 1) := by decide +kernel
theorem dX6_setLink_19 : decode cX6_setLink 19 = .ok (.iastore, 1) := by decide +kernel
theorem dX6_setLink_20 : decode cX6_setLink 20 = .ok (.return_, 1) := by decide +kernel
theorem dX6_addClause_0 : decode cX6_addClause 0 = .ok (.aload_n 0, 1) := by decide +kernel
theorem dX6_addClause_1 : decode cX6_addClause 1 = .ok (.invokevirtual 23, 3) := by decide +kernel
theorem dX6_addClause_4 : decode cX6_addClause 4 = .ok (.istore_n 3, 1) := by decide +kernel
theorem dX6_addClause_5 : decode cX6_addClause 5 = .ok (.iload_n 3, 1) := by decide +kernel
theorem dX6_addClause_6 : decode cX6_addClause 6 = .ok (.bipush 8, 2) := by decide +kernel
theorem dX6_addClause_8 : decode cX6_addClause 8 = .ok (.if_icmp .lt 4, 3) := by decide +kernel
theorem dX6_addClause_11 : decode cX6_addClause 11 = .ok (.return_, 1) := by decide +kernel
theorem dX6_addClause_12 : decode cX6_addClause 12 = .ok (.aload_n 0, 1) := by decide +kernel
theorem dX6_addClause_13 : decode cX6_addClause 13 = .ok (.iload_n 3, 1) := by decide +kernel
theorem dX6_addClause_14 : decode cX6_addClause 14 = .ok (.iload_n 1, 1) := by decide +kernel
theorem dX6_addClause_15 : decode cX6_addClause 15 = .ok (.invokevirtual 37, 3) := by decide +kernel
theorem dX6_addClause_18 : decode cX6_addClause 18 = .ok (.aload_n 0, 1) := by decide +kernel
theorem dX6_addClause_19 : decode cX6_addClause 19 = .ok (.iload_n 3, 1) := by decide +kernel
theorem dX6_addClause_20 : decode cX6_addClause 20 = .ok (.iload_n 2, 1) := by decide +kernel
theorem dX6_addClause_21 : decode cX6_addClause 21 = .ok (.invokevirtual 41, 3) := by decide +kernel
theorem dX6_addClause_24 : decode cX6_addClause 24 = .ok (.aload_n 0, 1) := by decide +kernel
theorem dX6_addClause_25 : decode cX6_addClause 25 = .ok (.getfield 11, 3) := by decide +kernel
theorem dX6_addClause_28 : decode cX6_addClause 28 = .ok (.iconst 0, 1) := by decide +kernel
theorem dX6_addClause_29 : decode cX6_addClause 29 = .ok (.iload_n 3, 1) := by decide +kernel
theorem dX6_addClause_30 : decode cX6_addClause 30 = .ok (.iconst 1, 1) := by decide +kernel
theorem dX6_addClause_31 : decode cX6_addClause 31 = .ok (.iadd, 1) := by decide +kernel
theorem dX6_addClause_32 : decode cX6_addClause 32 = .ok (.iastore, 1) := by decide +kernel
theorem dX6_addClause_33 : decode cX6_addClause 33 = .ok (.aload_n 0, 1) := by decide +kernel
theorem dX6_addClause_34 : decode cX6_addClause 34 = .ok (.iload_n 3, 1) := by decide +kernel
theorem dX6_addClause_35 : decode cX6_addClause 35 = .ok (.bipush (-9), 2) := by decide +kernel
theorem dX6_addClause_37 : decode cX6_addClause 37 = .ok (.bipush (-9), 2) := by decide +kernel
theorem dX6_addClause_39 : decode cX6_addClause 39 = .ok (.bipush (-9), 2) := by decide +kernel
theorem dX6_addClause_41 : decode cX6_addClause 41 = .ok (.invokevirtual 44, 3) := by decide +kernel
theorem dX6_addClause_44 : decode cX6_addClause 44 = .ok (.return_, 1) := by decide +kernel
theorem dX6_addSaying_0 : decode cX6_addSaying 0 = .ok (.aload_n 0, 1) := by decide +kernel
theorem dX6_addSaying_1 : decode cX6_addSaying 1 = .ok (.bipush (-9), 2) := by decide +kernel
theorem dX6_addSaying_3 : decode cX6_addSaying 3 = .ok (.iload_n 1, 1) := by decide +kernel
theorem dX6_addSaying_4 : decode cX6_addSaying 4 = .ok (.iload_n 2, 1) := by decide +kernel
theorem dX6_addSaying_5 : decode cX6_addSaying 5 = .ok (.iload_n 3, 1) := by decide +kernel
theorem dX6_addSaying_6 : decode cX6_addSaying 6 = .ok (.invokevirtual 44, 3) := by decide +kernel
theorem dX6_addSaying_9 : decode cX6_addSaying 9 = .ok (.return_, 1) := by decide +kernel
theorem dX6_addStatement_0 : decode cX6_addStatement 0 = .ok (.aload_n 0, 1) := by decide +kernel
theorem dX6_addStatement_1 : decode cX6_addStatement 1 = .ok (.invokevirtual 19, 3) := by decide +kernel
theorem dX6_addStatement_4 : decode cX6_addStatement 4 = .ok (.istore 5, 2) := by decide +kernel
theorem dX6_addStatement_6 : decode cX6_addStatement 6 = .ok (.iload 5, 2) := by decide +kernel
theorem dX6_addStatement_8 : decode cX6_addStatement 8 = .ok (.ifCond .lt 10, 3) := by decide +kernel
theorem dX6_addStatement_11 : decode cX6_addStatement 11 = .ok (.iload 5, 2) := by decide +kernel
theorem dX6_addStatement_13 : decode cX6_addStatement 13 = .ok (.bipush 14, 2) := by decide +kernel
theorem dX6_addStatement_15 : decode cX6_addStatement 15 = .ok (.if_icmp .lt 4, 3) := by decide +kernel
theorem dX6_addStatement_18 : decode cX6_addStatement 18 = .ok (.return_, 1) := by decide +kernel
theorem dX6_addStatement_19 : decode cX6_addStatement 19 = .ok (.aload_n 0, 1) := by decide +kernel
theorem dX6_addStatement_20 : decode cX6_addStatement 20 = .ok (.getfield 11, 3) := by decide +kernel
theorem dX6_addStatement_23 : decode cX6_addStatement 23 = .ok (.bipush 18, 2) := by decide +kernel
theorem dX6_addStatement_25 : decode cX6_addStatement 25 = .ok (.iload 5, 2) := by decide +kernel
theorem dX6_addStatement_27 : decode cX6_addStatement 27 = .ok (.iadd, 1) := by decide +kernel
theorem dX6_addStatement_28 : decode cX6_addStatement 28 = .ok (.iload_n 1, 1) := by decide +kernel
theorem dX6_addStatement_29 : decode cX6_addStatement 29 = .ok (.iastore, 1) := by decide +kernel
theorem dX6_addStatement_30 : decode cX6_addStatement 30 = .ok (.aload_n 0, 1) := by decide +kernel
theorem dX6_addStatement_31 : decode cX6_addStatement 31 = .ok (.getfield 11, 3) := by decide +kernel
theorem dX6_addStatement_34 : decode cX6_addStatement 34 = .ok (.bipush 32, 2) := by decide +kernel
theorem dX6_addStatement_36 : decode cX6_addStatement 36 = .ok (.iload 5, 2) := by decide +kernel
theorem dX6_addStatement_38 : decode cX6_addStatement 38 = .ok (.iadd, 1) := by decide +kernel
theorem dX6_addStatement_39 : decode cX6_addStatement 39 = .ok (.iload_n 2, 1) := by decide +kernel
theorem dX6_addStatement_40 : decode cX6_addStatement 40 = .ok (.iastore, 1) := by decide +kernel
theorem dX6_addStatement_41 : decode cX6_addStatement 41 = .ok (.aload_n 0, 1) := by decide +kernel
theorem dX6_addStatement_42 : decode cX6_addStatement 42 = .ok (.getfield 11, 3) := by decide +kernel
theorem dX6_addStatement_45 : decode cX6_addStatement 45 = .ok (.bipush 46, 2) := by decide +kernel
theorem dX6_addStatement_47 : decode cX6_addStatement 47 = .ok (.iload 5, 2) := by decide +kernel
theorem dX6_addStatement_49 : decode cX6_addStatement 49 = .ok (.iadd, 1) := by decide +kernel
theorem dX6_addStatement_50 : decode cX6_addStatement 50 = .ok (.iload_n 3, 1) := by decide +kernel
theorem dX6_addStatement_51 : decode cX6_addStatement 51 = .ok (.iastore, 1) := by decide +kernel
theorem dX6_addStatement_52 : decode cX6_addStatement 52 = .ok (.aload_n 0, 1) := by decide +kernel
theorem dX6_addStatement_53 : decode cX6_addStatement 53 = .ok (.getfield 11, 3) := by decide +kernel
theorem dX6_addStatement_56 : decode cX6_addStatement 56 = .ok (.bipush 60, 2) := by decide +kernel
theorem dX6_addStatement_58 : decode cX6_addStatement 58 = .ok (.iload 5, 2) := by decide +kernel
theorem dX6_addStatement_60 : decode cX6_addStatement 60 = .ok (.iadd, 1) := by decide +kernel
theorem dX6_addStatement_61 : decode cX6_addStatement 61 = .ok (.iload 4, 2) := by decide +kernel
theorem dX6_addStatement_63 : decode cX6_addStatement 63 = .ok (.iastore, 1) := by decide +kernel
theorem dX6_addStatement_64 : decode cX6_addStatement 64 = .ok (.aload_n 0, 1) := by decide +kernel
theorem dX6_addStatement_65 : decode cX6_addStatement 65 = .ok (.getfield 11, 3) := by decide +kernel
theorem dX6_addStatement_68 : decode cX6_addStatement 68 = .ok (.iconst 1, 1) := by decide +kernel
theorem dX6_addStatement_69 : decode cX6_addStatement 69 = .ok (.iload 5, 2) := by decide +kernel
theorem dX6_addStatement_71 : decode cX6_addStatement 71 = .ok (.iconst 1, 1) := by decide +kernel
theorem dX6_addStatement_72 : decode cX6_addStatement 72 = .ok (.iadd, 1) := by decide +kernel
theorem dX6_addStatement_73 : decode cX6_addStatement 73 = .ok (.iastore, 1) := by decide +kernel
theorem dX6_addStatement_74 : decode cX6_addStatement 74 = .ok (.return_, 1) := by decide +kernel
theorem dX6_removeSaying_0 : decode cX6_removeSaying 0 = .ok (.iload_n 1, 1) := by decide +kernel
theorem dX6_removeSaying_1 : decode cX6_removeSaying 1 = .ok (.ifCond .lt 11, 3) := by decide +kernel
theorem dX6_removeSaying_4 : decode cX6_removeSaying 4 = .ok (.iload_n 1, 1) := by decide +kernel
theorem dX6_removeSaying_5 : decode cX6_removeSaying 5 = .ok (.aload_n 0, 1) := by decide +kernel
theorem dX6_removeSaying_6 : decode cX6_removeSaying 6 = .ok (.invokevirtual 19, 3) := by decide +kernel
theorem dX6_removeSaying_9 : decode cX6_removeSaying 9 = .ok (.if_icmp .lt 4, 3) := by decide +kernel
theorem dX6_removeSaying_12 : decode cX6_removeSaying 12 = .ok (.return_, 1) := by decide +kernel
theorem dX6_removeSaying_13 : decode cX6_removeSaying 13 = .ok (.iload_n 1, 1) := by decide +kernel
theorem dX6_removeSaying_14 : decode cX6_removeSaying 14 = .ok (.istore_n 2, 1) := by decide +kernel
theorem dX6_removeSaying_15 : decode cX6_removeSaying 15 = .ok (.iload_n 2, 1) := by decide +kernel
theorem dX6_removeSaying_16 : decode cX6_removeSaying 16 = .ok (.iconst 1, 1) := by decide +kernel
theorem dX6_removeSaying_17 : decode cX6_removeSaying 17 = .ok (.iadd, 1) := by decide +kernel
theorem dX6_removeSaying_18 : decode cX6_removeSaying 18 = .ok (.bipush 14, 2) := by decide +kernel
theorem dX6_removeSaying_20 : decode cX6_removeSaying 20 = .ok (.if_icmp .ge 89, 3) := by decide +kernel
theorem dX6_removeSaying_23 : decode cX6_removeSaying 23 = .ok (.aload_n 0, 1) := by decide +kernel
theorem dX6_removeSaying_24 : decode cX6_removeSaying 24 = .ok (.getfield 11, 3) := by decide +kernel
theorem dX6_removeSaying_27 : decode cX6_removeSaying 27 = .ok (.bipush 18, 2) := by decide +kernel
theorem dX6_removeSaying_29 : decode cX6_removeSaying 29 = .ok (.iload_n 2, 1) := by decide +kernel
theorem dX6_removeSaying_30 : decode cX6_removeSaying 30 = .ok (.iadd, 1) := by decide +kernel
theorem dX6_removeSaying_31 : decode cX6_removeSaying 31 = .ok (.aload_n 0, 1) := by decide +kernel
theorem dX6_removeSaying_32 : decode cX6_removeSaying 32 = .ok (.getfield 11, 3) := by decide +kernel
theorem dX6_removeSaying_35 : decode cX6_removeSaying 35 = .ok (.bipush 18, 2) := by decide +kernel
theorem dX6_removeSaying_37 : decode cX6_removeSaying 37 = .ok (.iload_n 2, 1) := by decide +kernel
theorem dX6_removeSaying_38 : decode cX6_removeSaying 38 = .ok (.iadd, 1) := by decide +kernel
theorem dX6_removeSaying_39 : decode cX6_removeSaying 39 = .ok (.iconst 1, 1) := by decide +kernel
theorem dX6_removeSaying_40 : decode cX6_removeSaying 40 = .ok (.iadd, 1) := by decide +kernel
theorem dX6_removeSaying_41 : decode cX6_removeSaying 41 = .ok (.iaload, 1) := by decide +kernel
theorem dX6_removeSaying_42 : decode cX6_removeSaying 42 = .ok (.iastore, 1) := by decide +kernel
theorem dX6_removeSaying_43 : decode cX6_removeSaying 43 = .ok (.aload_n 0, 1) := by decide +kernel
theorem dX6_removeSaying_44 : decode cX6_removeSaying 44 = .ok (.getfield 11, 3) := by decide +kernel
theorem dX6_removeSaying_47 : decode cX6_removeSaying 47 = .ok (.bipush 32, 2) := by decide +kernel
theorem dX6_removeSaying_49 : decode cX6_removeSaying 49 = .ok (.iload_n 2, 1) := by decide +kernel
theorem dX6_removeSaying_50 : decode cX6_removeSaying 50 = .ok (.iadd, 1) := by decide +kernel
theorem dX6_removeSaying_51 : decode cX6_removeSaying 51 = .ok (.aload_n 0, 1) := by decide +kernel
theorem dX6_removeSaying_52 : decode cX6_removeSaying 52 = .ok (.getfield 11, 3) := by decide +kernel
theorem dX6_removeSaying_55 : decode cX6_removeSaying 55 = .ok (.bipush 32, 2) := by decide +kernel
theorem dX6_removeSaying_57 : decode cX6_removeSaying 57 = .ok (.iload_n 2, 1) := by decide +kernel
theorem dX6_removeSaying_58 : decode cX6_removeSaying 58 = .ok (.iadd, 1) := by decide +kernel
theorem dX6_removeSaying_59 : decode cX6_removeSaying 59 = .ok (.iconst 1, 1) := by decide +kernel
theorem dX6_removeSaying_60 : decode cX6_removeSaying 60 = .ok (.iadd, 1) := by decide +kernel
theorem dX6_removeSaying_61 : decode cX6_removeSaying 61 = .ok (.iaload, 1) := by decide +kernel
theorem dX6_removeSaying_62 : decode cX6_removeSaying 62 = .ok (.iastore, 1) := by decide +kernel
theorem dX6_removeSaying_63 : decode cX6_removeSaying 63 = .ok (.aload_n 0, 1) := by decide +kernel
theorem dX6_removeSaying_64 : decode cX6_removeSaying 64 = .ok (.getfield 11, 3) := by decide +kernel
theorem dX6_removeSaying_67 : decode cX6_removeSaying 67 = .ok (.bipush 46, 2) := by decide +kernel
theorem dX6_removeSaying_69 : decode cX6_removeSaying 69 = .ok (.iload_n 2, 1) := by decide +kernel
theorem dX6_removeSaying_70 : decode cX6_removeSaying 70 = .ok (.iadd, 1) := by decide +kernel
theorem dX6_removeSaying_71 : decode cX6_removeSaying 71 = .ok (.aload_n 0, 1) := by decide +kernel
theorem dX6_removeSaying_72 : decode cX6_removeSaying 72 = .ok (.getfield 11, 3) := by decide +kernel
theorem dX6_removeSaying_75 : decode cX6_removeSaying 75 = .ok (.bipush 46, 2) := by decide +kernel
theorem dX6_removeSaying_77 : decode cX6_removeSaying 77 = .ok (.iload_n 2, 1) := by decide +kernel
theorem dX6_removeSaying_78 : decode cX6_removeSaying 78 = .ok (.iadd, 1) := by decide +kernel
theorem dX6_removeSaying_79 : decode cX6_removeSaying 79 = .ok (.iconst 1, 1) := by decide +kernel
theorem dX6_removeSaying_80 : decode cX6_removeSaying 80 = .ok (.iadd, 1) := by decide +kernel
theorem dX6_removeSaying_81 : decode cX6_removeSaying 81 = .ok (.iaload, 1) := by decide +kernel
theorem dX6_removeSaying_82 : decode cX6_removeSaying 82 = .ok (.iastore, 1) := by decide +kernel
theorem dX6_removeSaying_83 : decode cX6_removeSaying 83 = .ok (.aload_n 0, 1) := by decide +kernel
theorem dX6_removeSaying_84 : decode cX6_removeSaying 84 = .ok (.getfield 11, 3) := by decide +kernel
theorem dX6_removeSaying_87 : decode cX6_removeSaying 87 = .ok (.bipush 60, 2) := by decide +kernel
theorem dX6_removeSaying_89 : decode cX6_removeSaying 89 = .ok (.iload_n 2, 1) := by decide +kernel
theorem dX6_removeSaying_90 : decode cX6_removeSaying 90 = .ok (.iadd, 1) := by decide +kernel
theorem dX6_removeSaying_91 : decode cX6_removeSaying 91 = .ok (.aload_n 0, 1) := by decide +kernel
theorem dX6_removeSaying_92 : decode cX6_removeSaying 92 = .ok (.getfield 11, 3) := by decide +kernel
theorem dX6_removeSaying_95 : decode cX6_removeSaying 95 = .ok (.bipush 60, 2) := by decide +kernel
theorem dX6_removeSaying_97 : decode cX6_removeSaying 97 = .ok (.iload_n 2, 1) := by decide +kernel
theorem dX6_removeSaying_98 : decode cX6_removeSaying 98 = .ok (.iadd, 1) := by decide +kernel
theorem dX6_removeSaying_99 : decode cX6_removeSaying 99 = .ok (.iconst 1, 1) := by decide +kernel
theorem dX6_removeSaying_100 : decode cX6_removeSaying 100 = .ok (.iadd, 1) := by decide +kernel
theorem dX6_removeSaying_101 : decode cX6_removeSaying 101 = .ok (.iaload, 1) := by decide +kernel
theorem dX6_removeSaying_102 : decode cX6_removeSaying 102 = .ok (.iastore, 1) := by decide +kernel
theorem dX6_removeSaying_103 : decode cX6_removeSaying 103 = .ok (.iinc 2 1, 3) := by decide +kernel
theorem dX6_removeSaying_106 : decode cX6_removeSaying 106 = .ok (.goto (-91), 3) := by decide +kernel
theorem dX6_removeSaying_109 : decode cX6_removeSaying 109 = .ok (.aload_n 0, 1) := by decide +kernel
theorem dX6_removeSaying_110 : decode cX6_removeSaying 110 = .ok (.getfield 11, 3) := by decide +kernel
theorem dX6_removeSaying_113 : decode cX6_removeSaying 113 = .ok (.iconst 1, 1) := by decide +kernel
theorem dX6_removeSaying_114 : decode cX6_removeSaying 114 = .ok (.aload_n 0, 1) := by decide +kernel
theorem dX6_removeSaying_115 : decode cX6_removeSaying 115 = .ok (.invokevirtual 19, 3) := by decide +kernel
theorem dX6_removeSaying_118 : decode cX6_removeSaying 118 = .ok (.iconst 1, 1) := by decide +kernel
theorem dX6_removeSaying_119 : decode cX6_removeSaying 119 = .ok (.isub, 1) := by decide +kernel
theorem dX6_removeSaying_120 : decode cX6_removeSaying 120 = .ok (.iastore, 1) := by decide +kernel
theorem dX6_removeSaying_121 : decode cX6_removeSaying 121 = .ok (.return_, 1) := by decide +kernel
theorem dX6_tellOne_0 : decode cX6_tellOne 0 = .ok (.aload_n 0, 1) := by decide +kernel
theorem dX6_tellOne_1 : decode cX6_tellOne 1 = .ok (.iload_n 1, 1) := by decide +kernel
theorem dX6_tellOne_2 : decode cX6_tellOne 2 = .ok (.invokevirtual 30, 3) := by decide +kernel
theorem dX6_tellOne_5 : decode cX6_tellOne 5 = .ok (.istore_n 3, 1) := by decide +kernel
theorem dX6_tellOne_6 : decode cX6_tellOne 6 = .ok (.iload_n 3, 1) := by decide +kernel
theorem dX6_tellOne_7 : decode cX6_tellOne 7 = .ok (.bipush (-9), 2) := by decide +kernel
theorem dX6_tellOne_9 : decode cX6_tellOne 9 = .ok (.if_icmp .ne 23, 3) := by decide +kernel
theorem dX6_tellOne_12 : decode cX6_tellOne 12 = .ok (.aload_n 2, 1) := by decide +kernel
theorem dX6_tellOne_13 : decode cX6_tellOne 13 = .ok (.aload_n 0, 1) := by decide +kernel
theorem dX6_tellOne_14 : decode cX6_tellOne 14 = .ok (.iload_n 1, 1) := by decide +kernel
theorem dX6_tellOne_15 : decode cX6_tellOne 15 = .ok (.invokevirtual 48, 3) := by decide +kernel
theorem dX6_tellOne_18 : decode cX6_tellOne 18 = .ok (.aload_n 0, 1) := by decide +kernel
theorem dX6_tellOne_19 : decode cX6_tellOne 19 = .ok (.iload_n 1, 1) := by decide +kernel
theorem dX6_tellOne_20 : decode cX6_tellOne 20 = .ok (.invokevirtual 51, 3) := by decide +kernel
theorem dX6_tellOne_23 : decode cX6_tellOne 23 = .ok (.aload_n 0, 1) := by decide +kernel
theorem dX6_tellOne_24 : decode cX6_tellOne 24 = .ok (.iload_n 1, 1) := by decide +kernel
theorem dX6_tellOne_25 : decode cX6_tellOne 25 = .ok (.invokevirtual 54, 3) := by decide +kernel
theorem dX6_tellOne_28 : decode cX6_tellOne 28 = .ok (.invokevirtual 57, 3) := by decide +kernel
theorem dX6_tellOne_31 : decode cX6_tellOne 31 = .ok (.return_, 1) := by decide +kernel
theorem dX6_tellOne_32 : decode cX6_tellOne 32 = .ok (.aload_n 0, 1) := by decide +kernel
theorem dX6_tellOne_33 : decode cX6_tellOne 33 = .ok (.iload_n 3, 1) := by decide +kernel
theorem dX6_tellOne_34 : decode cX6_tellOne 34 = .ok (.invokevirtual 63, 3) := by decide +kernel
theorem dX6_tellOne_37 : decode cX6_tellOne 37 = .ok (.istore 4, 2) := by decide +kernel
theorem dX6_tellOne_39 : decode cX6_tellOne 39 = .ok (.iload 4, 2) := by decide +kernel
theorem dX6_tellOne_41 : decode cX6_tellOne 41 = .ok (.ifCond .lt 10, 3) := by decide +kernel
theorem dX6_tellOne_44 : decode cX6_tellOne 44 = .ok (.iload 4, 2) := by decide +kernel
theorem dX6_tellOne_46 : decode cX6_tellOne 46 = .ok (.bipush 8, 2) := by decide +kernel
theorem dX6_tellOne_48 : decode cX6_tellOne 48 = .ok (.if_icmp .lt 4, 3) := by decide +kernel
theorem dX6_tellOne_51 : decode cX6_tellOne 51 = .ok (.return_, 1) := by decide +kernel
theorem dX6_tellOne_52 : decode cX6_tellOne 52 = .ok (.aload_n 2, 1) := by decide +kernel
theorem dX6_tellOne_53 : decode cX6_tellOne 53 = .ok (.iload_n 3, 1) := by decide +kernel
theorem dX6_tellOne_54 : decode cX6_tellOne 54 = .ok (.invokestatic 66, 3) := by decide +kernel
theorem dX6_tellOne_57 : decode cX6_tellOne 57 = .ok (.getstatic 69, 3) := by decide +kernel
theorem dX6_tellOne_60 : decode cX6_tellOne 60 = .ok (.iload 4, 2) := by decide +kernel
theorem dX6_tellOne_62 : decode cX6_tellOne 62 = .ok (.iaload, 1) := by decide +kernel
theorem dX6_tellOne_63 : decode cX6_tellOne 63 = .ok (.iload_n 3, 1) := by decide +kernel
theorem dX6_tellOne_64 : decode cX6_tellOne 64 = .ok (.invokestatic 72, 3) := by decide +kernel
theorem dX6_tellOne_67 : decode cX6_tellOne 67 = .ok (.invokevirtual 57, 3) := by decide +kernel
theorem dX6_tellOne_70 : decode cX6_tellOne 70 = .ok (.aload_n 2, 1) := by decide +kernel
theorem dX6_tellOne_71 : decode cX6_tellOne 71 = .ok (.iload_n 3, 1) := by decide +kernel
theorem dX6_tellOne_72 : decode cX6_tellOne 72 = .ok (.invokestatic 72, 3) := by decide +kernel
theorem dX6_tellOne_75 : decode cX6_tellOne 75 = .ok (.getstatic 75, 3) := by decide +kernel
theorem dX6_tellOne_78 : decode cX6_tellOne 78 = .ok (.iload 4, 2) := by decide +kernel
theorem dX6_tellOne_80 : decode cX6_tellOne 80 = .ok (.iaload, 1) := by decide +kernel
theorem dX6_tellOne_81 : decode cX6_tellOne 81 = .ok (.iconst 0, 1) := by decide +kernel
theorem dX6_tellOne_82 : decode cX6_tellOne 82 = .ok (.invokevirtual 57, 3) := by decide +kernel
theorem dX6_tellOne_85 : decode cX6_tellOne 85 = .ok (.iload_n 3, 1) := by decide +kernel
theorem dX6_tellOne_86 : decode cX6_tellOne 86 = .ok (.ifCond .le 22, 3) := by decide +kernel
theorem dX6_tellOne_89 : decode cX6_tellOne 89 = .ok (.aload_n 2, 1) := by decide +kernel
theorem dX6_tellOne_90 : decode cX6_tellOne 90 = .ok (.iload_n 3, 1) := by decide +kernel
theorem dX6_tellOne_91 : decode cX6_tellOne 91 = .ok (.iconst 1, 1) := by decide +kernel
theorem dX6_tellOne_92 : decode cX6_tellOne 92 = .ok (.isub, 1) := by decide +kernel
theorem dX6_tellOne_93 : decode cX6_tellOne 93 = .ok (.invokestatic 72, 3) := by decide +kernel
theorem dX6_tellOne_96 : decode cX6_tellOne 96 = .ok (.aload_n 0, 1) := by decide +kernel
theorem dX6_tellOne_97 : decode cX6_tellOne 97 = .ok (.iload_n 3, 1) := by decide +kernel
theorem dX6_tellOne_98 : decode cX6_tellOne 98 = .ok (.invokevirtual 78, 3) := by decide +kernel
theorem dX6_tellOne_101 : decode cX6_tellOne 101 = .ok (.iload_n 3, 1) := by decide +kernel
theorem dX6_tellOne_102 : decode cX6_tellOne 102 = .ok (.invokestatic 72, 3) := by decide +kernel
theorem dX6_tellOne_105 : decode cX6_tellOne 105 = .ok (.invokevirtual 57, 3) := by decide +kernel
theorem dX6_tellOne_108 : decode cX6_tellOne 108 = .ok (.return_, 1) := by decide +kernel
theorem dX7_init_0 : decode cX7_init 0 = .ok (.aload_n 0, 1) := by decide +kernel
theorem dX7_init_1 : decode cX7_init 1 = .ok (.invokespecial 3, 3) := by decide +kernel
theorem dX7_init_4 : decode cX7_init 4 = .ok (.aload_n 0, 1) := by decide +kernel
theorem dX7_init_5 : decode cX7_init 5 = .ok (.bipush 80, 2) := by decide +kernel
theorem dX7_init_7 : decode cX7_init 7 = .ok (.newarray .int, 2) := by decide +kernel
theorem dX7_init_9 : decode cX7_init 9 = .ok (.putfield 9, 3) := by decide +kernel
theorem dX7_init_12 : decode cX7_init 12 = .ok (.return_, 1) := by decide +kernel
theorem dX7_size_0 : decode cX7_size 0 = .ok (.aload_n 0, 1) := by decide +kernel
theorem dX7_size_1 : decode cX7_size 1 = .ok (.getfield 15, 3) := by decide +kernel
theorem dX7_size_4 : decode cX7_size 4 = .ok (.ireturn, 1) := by decide +kernel
theorem dX7_empty_0 : decode cX7_empty 0 = .ok (.aload_n 0, 1) := by decide +kernel
theorem dX7_empty_1 : decode cX7_empty 1 = .ok (.iconst 0, 1) := by decide +kernel
theorem dX7_empty_2 : decode cX7_empty 2 = .ok (.putfield 15, 3) := by decide +kernel
theorem dX7_empty_5 : decode cX7_empty 5 = .ok (.return_, 1) := by decide +kernel
theorem dX7_append_0 : decode cX7_append 0 = .ok (.aload_n 0, 1) := by decide +kernel
theorem dX7_append_1 : decode cX7_append 1 = .ok (.getfield 15, 3) := by decide +kernel
theorem dX7_append_4 : decode cX7_append 4 = .ok (.ifCond .lt 15, 3) := by decide +kernel
theorem dX7_append_7 : decode cX7_append 7 = .ok (.aload_n 0, 1) := by decide +kernel
theorem dX7_append_8 : decode cX7_append 8 = .ok (.getfield 15, 3) := by decide +kernel
theorem dX7_append_11 : decode cX7_append 11 = .ok (.aload_n 0, 1) := by decide +kernel
theorem dX7_append_12 : decode cX7_append 12 = .ok (.getfield 9, 3) := by decide +kernel
theorem dX7_append_15 : decode cX7_append 15 = .ok (.arraylength, 1) := by decide +kernel
theorem dX7_append_16 : decode cX7_append 16 = .ok (.if_icmp .lt 5, 3) := by decide +kernel
theorem dX7_append_19 : decode cX7_append 19 = .ok (.iconst 0, 1) := by decide +kernel
theorem dX7_append_20 : decode cX7_append 20 = .ok (.ireturn, 1) := by decide +kernel
theorem dX7_append_21 : decode cX7_append 21 = .ok (.aload_n 0, 1) := by decide +kernel
theorem dX7_append_22 : decode cX7_append 22 = .ok (.getfield 9, 3) := by decide +kernel
theorem dX7_append_25 : decode cX7_append 25 = .ok (.aload_n 0, 1) := by decide +kernel
theorem dX7_append_26 : decode cX7_append 26 = .ok (.getfield 15, 3) := by decide +kernel
theorem dX7_append_29 : decode cX7_append 29 = .ok (.iload_n 1, 1) := by decide +kernel
theorem dX7_append_30 : decode cX7_append 30 = .ok (.iastore, 1) := by decide +kernel
theorem dX7_append_31 : decode cX7_append 31 = .ok (.aload_n 0, 1) := by decide +kernel
theorem dX7_append_32 : decode cX7_append 32 = .ok (.dup, 1) := by decide +kernel
theorem dX7_append_33 : decode cX7_append 33 = .ok (.getfield 15, 3) := by decide +kernel
theorem dX7_append_36 : decode cX7_append 36 = .ok (.iconst 1, 1) := by decide +kernel
theorem dX7_append_37 : decode cX7_append 37 = .ok (.iadd, 1) := by decide +kernel
theorem dX7_append_38 : decode cX7_append 38 = .ok (.putfield 15, 3) := by decide +kernel
theorem dX7_append_41 : decode cX7_append 41 = .ok (.iconst 1, 1) := by decide +kernel
theorem dX7_append_42 : decode cX7_append 42 = .ok (.ireturn, 1) := by decide +kernel
theorem dX7_readInto_0 : decode cX7_readInto 0 = .ok (.aload_n 1, 1) := by decide +kernel
theorem dX7_readInto_1 : decode cX7_readInto 1 = .ok (.invokevirtual 19, 3) := by decide +kernel
theorem dX7_readInto_4 : decode cX7_readInto 4 = .ok (.aload_n 0, 1) := by decide +kernel
theorem dX7_readInto_5 : decode cX7_readInto 5 = .ok (.iconst 0, 1) := by decide +kernel
theorem dX7_readInto_6 : decode cX7_readInto 6 = .ok (.putfield 24, 3) := by decide +kernel
theorem dX7_readInto_9 : decode cX7_readInto 9 = .ok (.iconst 0, 1) := by decide +kernel
theorem dX7_readInto_10 : decode cX7_readInto 10 = .ok (.istore_n 2, 1) := by decide +kernel
theorem dX7_readInto_11 : decode cX7_readInto 11 = .ok (.iload_n 2, 1) := by decide +kernel
theorem dX7_readInto_12 : decode cX7_readInto 12 = .ok (.aload_n 0, 1) := by decide +kernel
theorem dX7_readInto_13 : decode cX7_readInto 13 = .ok (.getfield 15, 3) := by decide +kernel
theorem dX7_readInto_16 : decode cX7_readInto 16 = .ok (.if_icmp .ge 45, 3) := by decide +kernel
theorem dX7_readInto_19 : decode cX7_readInto 19 = .ok (.iload_n 2, 1) := by decide +kernel
theorem dX7_readInto_20 : decode cX7_readInto 20 = .ok (.aload_n 0, 1) := by decide +kernel
theorem dX7_readInto_21 : decode cX7_readInto 21 = .ok (.getfield 9, 3) := by decide +kernel
theorem dX7_readInto_24 : decode cX7_readInto 24 = .ok (.arraylength, 1) := by decide +kernel
theorem dX7_readInto_25 : decode cX7_readInto 25 = .ok (.if_icmp .ge 36, 3) := by decide +kernel
theorem dX7_readInto_28 : decode cX7_readInto 28 = .ok (.aload_n 0, 1) := by decide +kernel
theorem dX7_readInto_29 : decode cX7_readInto 29 = .ok (.getfield 9, 3) := by decide +kernel
theorem dX7_readInto_32 : decode cX7_readInto 32 = .ok (.iload_n 2, 1) := by decide +kernel
theorem dX7_readInto_33 : decode cX7_readInto 33 = .ok (.iaload, 1) := by decide +kernel
theorem dX7_readInto_34 : decode cX7_readInto 34 = .ok (.bipush 32, 2) := by decide +kernel
theorem dX7_readInto_36 : decode cX7_readInto 36 = .ok (.if_icmp .eq 19, 3) := by decide +kernel
theorem dX7_readInto_39 : decode cX7_readInto 39 = .ok (.aload_n 0, 1) := by decide +kernel
theorem dX7_readInto_40 : decode cX7_readInto 40 = .ok (.aload_n 0, 1) := by decide +kernel
theorem dX7_readInto_41 : decode cX7_readInto 41 = .ok (.getfield 9, 3) := by decide +kernel
theorem dX7_readInto_44 : decode cX7_readInto 44 = .ok (.iload_n 2, 1) := by decide +kernel
theorem dX7_readInto_45 : decode cX7_readInto 45 = .ok (.iaload, 1) := by decide +kernel
theorem dX7_readInto_46 : decode cX7_readInto 46 = .ok (.aload_n 1, 1) := by decide +kernel
theorem dX7_readInto_47 : decode cX7_readInto 47 = .ok (.invokevirtual 27, 3) := by decide +kernel
theorem dX7_readInto_50 : decode cX7_readInto 50 = .ok (.ifCond .ne 5, 3) := by decide +kernel
theorem dX7_readInto_53 : decode cX7_readInto 53 = .ok (.iload_n 2, 1) := by decide +kernel
theorem dX7_readInto_54 : decode cX7_readInto 54 = .ok (.ireturn, 1) := by decide +kernel
theorem dX7_readInto_55 : decode cX7_readInto 55 = .ok (.iinc 2 1, 3) := by decide +kernel
theorem dX7_readInto_58 : decode cX7_readInto 58 = .ok (.goto (-47), 3) := by decide +kernel
theorem dX7_readInto_61 : decode cX7_readInto 61 = .ok (.aload_n 0, 1) := by decide +kernel
theorem dX7_readInto_62 : decode cX7_readInto 62 = .ok (.getfield 24, 3) := by decide +kernel
theorem dX7_readInto_65 : decode cX7_readInto 65 = .ok (.ifCond .ne 8, 3) := by decide +kernel
theorem dX7_readInto_68 : decode cX7_readInto 68 = .ok (.bipush (-9), 2) := by decide +kernel
theorem dX7_readInto_70 : decode cX7_readInto 70 = .ok (.goto 7, 3) := by decide +kernel
theorem dX7_readInto_73 : decode cX7_readInto 73 = .ok (.aload_n 0, 1) := by decide +kernel
theorem dX7_readInto_74 : decode cX7_readInto 74 = .ok (.getfield 15, 3) := by decide +kernel
theorem dX7_readInto_77 : decode cX7_readInto 77 = .ok (.ireturn, 1) := by decide +kernel
theorem dX7_passes_0 : decode cX7_passes 0 = .ok (.aload_n 0, 1) := by decide +kernel
theorem dX7_passes_1 : decode cX7_passes 1 = .ok (.getfield 24, 3) := by decide +kernel
theorem dX7_passes_4 : decode cX7_passes 4 = .ok (.tableswitch 58 0 3 #[32, 39, 45, 51], 32) := by decide +kernel
theorem dX7_passes_36 : decode cX7_passes 36 = .ok (.aload_n 0, 1) := by decide +kernel
theorem dX7_passes_37 : decode cX7_passes 37 = .ok (.iload_n 1, 1) := by decide +kernel
theorem dX7_passes_38 : decode cX7_passes 38 = .ok (.aload_n 2, 1) := by decide +kernel
theorem dX7_passes_39 : decode cX7_passes 39 = .ok (.invokevirtual 31, 3) := by decide +kernel
theorem dX7_passes_42 : decode cX7_passes 42 = .ok (.ireturn, 1) := by decide +kernel
theorem dX7_passes_43 : decode cX7_passes 43 = .ok (.aload_n 0, 1) := by decide +kernel
theorem dX7_passes_44 : decode cX7_passes 44 = .ok (.iload_n 1, 1) := by decide +kernel
theorem dX7_passes_45 : decode cX7_passes 45 = .ok (.invokevirtual 34, 3) := by decide +kernel
theorem dX7_passes_48 : decode cX7_passes 48 = .ok (.ireturn, 1) := by decide +kernel
theorem dX7_passes_49 : decode cX7_passes 49 = .ok (.aload_n 0, 1) := by decide +kernel
theorem dX7_passes_50 : decode cX7_passes 50 = .ok (.iload_n 1, 1) := by decide +kernel
theorem dX7_passes_51 : decode cX7_passes 51 = .ok (.invokevirtual 38, 3) := by decide +kernel
theorem dX7_passes_54 : decode cX7_passes 54 = .ok (.ireturn, 1) := by decide +kernel
theorem dX7_passes_55 : decode cX7_passes 55 = .ok (.aload_n 0, 1) := by decide +kernel
theorem dX7_passes_56 : decode cX7_passes 56 = .ok (.iload_n 1, 1) := by decide +kernel
theorem dX7_passes_57 : decode cX7_passes 57 = .ok (.aload_n 2, 1) := by decide +kernel
theorem dX7_passes_58 : decode cX7_passes 58 = .ok (.invokevirtual 41, 3) := by decide +kernel
theorem dX7_passes_61 : decode cX7_passes 61 = .ok (.ireturn, 1) := by decide +kernel
theorem dX7_passes_62 : decode cX7_passes 62 = .ok (.aload_n 0, 1) := by decide +kernel
theorem dX7_passes_63 : decode cX7_passes 63 = .ok (.iload_n 1, 1) := by decide +kernel
theorem dX7_passes_64 : decode cX7_passes 64 = .ok (.aload_n 2, 1) := by decide +kernel
theorem dX7_passes_65 : decode cX7_passes 65 = .ok (.invokevirtual 44, 3) := by decide +kernel
theorem dX7_passes_68 : decode cX7_passes 68 = .ok (.ireturn, 1) := by decide +kernel
theorem dX7_beginsItem_0 : decode cX7_beginsItem 0 = .ok (.aload_n 0, 1) := by decide +kernel
theorem dX7_beginsItem_1 : decode cX7_beginsItem 1 = .ok (.iload_n 1, 1) := by decide +kernel
theorem dX7_beginsItem_2 : decode cX7_beginsItem 2 = .ok (.aload_n 2, 1) := by decide +kernel
theorem dX7_beginsItem_3 : decode cX7_beginsItem 3 = .ok (.invokevirtual 47, 3) := by decide +kernel
theorem dX7_beginsItem_6 : decode cX7_beginsItem 6 = .ok (.ifCond .eq 5, 3) := by decide +kernel
theorem dX7_beginsItem_9 : decode cX7_beginsItem 9 = .ok (.iconst 1, 1) := by decide +kernel
theorem dX7_beginsItem_10 : decode cX7_beginsItem 10 = .ok (.ireturn, 1) := by decide +kernel
theorem dX7_beginsItem_11 : decode cX7_beginsItem 11 = .ok (.aload_n 2, 1) := by decide +kernel
theorem dX7_beginsItem_12 : decode cX7_beginsItem 12 = .ok (.invokevirtual 50, 3) := by decide +kernel
theorem dX7_beginsItem_15 : decode cX7_beginsItem 15 = .ok (.ifCond .ne 15, 3) := by decide +kernel
theorem dX7_beginsItem_18 : decode cX7_beginsItem 18 = .ok (.aload_n 0, 1) := by decide +kernel
theorem dX7_beginsItem_19 : decode cX7_beginsItem 19 = .ok (.bipush (-9), 2) := by decide +kernel
theorem dX7_beginsItem_21 : decode cX7_beginsItem 21 = .ok (.putfield 54, 3) := by decide +kernel
theorem dX7_beginsItem_24 : decode cX7_beginsItem 24 = .ok (.aload_n 0, 1) := by decide +kernel
theorem dX7_beginsItem_25 : decode cX7_beginsItem 25 = .ok (.iload_n 1, 1) := by decide +kernel
theorem dX7_beginsItem_26 : decode cX7_beginsItem 26 = .ok (.invokevirtual 34, 3) := by decide +kernel
theorem dX7_beginsItem_29 : decode cX7_beginsItem 29 = .ok (.ireturn, 1) := by decide +kernel
theorem dX7_beginsItem_30 : decode cX7_beginsItem 30 = .ok (.aload_n 0, 1) := by decide +kernel
theorem dX7_beginsItem_31 : decode cX7_beginsItem 31 = .ok (.ldc 57, 2) := by decide +kernel
theorem dX7_beginsItem_33 : decode cX7_beginsItem 33 = .ok (.iload_n 1, 1) := by decide +kernel
theorem dX7_beginsItem_34 : decode cX7_beginsItem 34 = .ok (.i2c, 1) := by decide +kernel
theorem dX7_beginsItem_35 : decode cX7_beginsItem 35 = .ok (.invokevirtual 59, 3) := by decide +kernel
theorem dX7_beginsItem_38 : decode cX7_beginsItem 38 = .ok (.putfield 54, 3) := by decide +kernel
theorem dX7_beginsItem_41 : decode cX7_beginsItem 41 = .ok (.aload_n 0, 1) := by decide +kernel
theorem dX7_beginsItem_42 : decode cX7_beginsItem 42 = .ok (.iconst 1, 1) := by decide +kernel
theorem dX7_beginsItem_43 : decode cX7_beginsItem 43 = .ok (.putfield 24, 3) := by decide +kernel
theorem dX7_beginsItem_46 : decode cX7_beginsItem 46 = .ok (.aload_n 0, 1) := by decide +kernel
theorem dX7_beginsItem_47 : decode cX7_beginsItem 47 = .ok (.getfield 54, 3) := by decide +kernel
theorem dX7_beginsItem_50 : decode cX7_beginsItem 50 = .ok (.ifCond .lt 16, 3) := by decide +kernel
theorem dX7_beginsItem_53 : decode cX7_beginsItem 53 = .ok (.aload_n 2, 1) := by decide +kernel
theorem dX7_beginsItem_54 : decode cX7_beginsItem 54 = .ok (.invokevirtual 50, 3) := by decide +kernel
theorem dX7_beginsItem_57 : decode cX7_beginsItem 57 = .ok (.bipush 8, 2) := by decide +kernel
theorem dX7_beginsItem_59 : decode cX7_beginsItem 59 = .ok (.if_icmp .ge 7, 3) := by decide +kernel
theorem dX7_beginsItem_62 : decode cX7_beginsItem 62 = .ok (.iconst 1, 1) := by decide +kernel
theorem dX7_beginsItem_63 : decode cX7_beginsItem 63 = .ok (.goto 4, 3) := by decide +kernel
theorem dX7_beginsItem_66 : decode cX7_beginsItem 66 = .ok (.iconst 0, 1) := by decide +kernel
theorem dX7_beginsItem_67 : decode cX7_beginsItem 67 = .ok (.ireturn, 1) := by decide +kernel
theorem dX7_beginsSaying_0 : decode cX7_beginsSaying 0 = .ok (.aload_n 0, 1) := by decide +kernel
theorem dX7_beginsSaying_1 : decode cX7_beginsSaying 1 = .ok (.iload_n 1, 1) := by decide +kernel
theorem dX7_beginsSaying_2 : decode cX7_beginsSaying 2 = .ok (.aload_n 2, 1) := by decide +kernel
theorem dX7_beginsSaying_3 : decode cX7_beginsSaying 3 = .ok (.invokestatic 65, 3) := by decide +kernel
theorem dX7_beginsSaying_6 : decode cX7_beginsSaying 6 = .ok (.putfield 69, 3) := by decide +kernel
theorem dX7_beginsSaying_9 : decode cX7_beginsSaying 9 = .ok (.aload_n 0, 1) := by decide +kernel
theorem dX7_beginsSaying_10 : decode cX7_beginsSaying 10 = .ok (.iconst 2, 1) := by decide +kernel
theorem dX7_beginsSaying_11 : decode cX7_beginsSaying 11 = .ok (.putfield 24, 3) := by decide +kernel
theorem dX7_beginsSaying_14 : decode cX7_beginsSaying 14 = .ok (.aload_n 0, 1) := by decide +kernel
theorem dX7_beginsSaying_15 : decode cX7_beginsSaying 15 = .ok (.getfield 69, 3) := by decide +kernel
theorem dX7_beginsSaying_18 : decode cX7_beginsSaying 18 = .ok (.bipush (-9), 2) := by decide +kernel
theorem dX7_beginsSaying_20 : decode cX7_beginsSaying 20 = .ok (.if_icmp .eq 16, 3) := by decide +kernel
theorem dX7_beginsSaying_23 : decode cX7_beginsSaying 23 = .ok (.aload_n 2, 1) := by decide +kernel
theorem dX7_beginsSaying_24 : decode cX7_beginsSaying 24 = .ok (.invokevirtual 72, 3) := by decide +kernel
theorem dX7_beginsSaying_27 : decode cX7_beginsSaying 27 = .ok (.bipush 6, 2) := by decide +kernel
theorem dX7_beginsSaying_29 : decode cX7_beginsSaying 29 = .ok (.if_icmp .ge 7, 3) := by decide +kernel
theorem dX7_beginsSaying_32 : decode cX7_beginsSaying 32 = .ok (.iconst 1, 1) := by decide +kernel
theorem dX7_beginsSaying_33 : decode cX7_beginsSaying 33 = .ok (.goto 4, 3) := by decide +kernel
theorem dX7_beginsSaying_36 : decode cX7_beginsSaying 36 = .ok (.iconst 0, 1) := by decide +kernel
theorem dX7_beginsSaying_37 : decode cX7_beginsSaying 37 = .ok (.ireturn, 1) := by decide +kernel
theorem dX7_givesTense_0 : decode cX7_givesTense 0 = .ok (.aload_n 0, 1) := by decide +kernel
theorem dX7_givesTense_1 : decode cX7_givesTense 1 = .ok (.ldc 75, 2) := by decide +kernel
theorem dX7_givesTense_3 : decode cX7_givesTense 3 = .ok (.iload_n 1, 1) := by decide +kernel
theorem dX7_givesTense_4 : decode cX7_givesTense 4 = .ok (.i2c, 1) := by decide +kernel
theorem dX7_givesTense_5 : decode cX7_givesTense 5 = .ok (.invokevirtual 59, 3) := by decide +kernel
theorem dX7_givesTense_8 : decode cX7_givesTense 8 = .ok (.putfield 77, 3) := by decide +kernel
theorem dX7_givesTense_11 : decode cX7_givesTense 11 = .ok (.aload_n 0, 1) := by decide +kernel
theorem dX7_givesTense_12 : decode cX7_givesTense 12 = .ok (.iconst 4, 1) := by decide +kernel
theorem dX7_givesTense_13 : decode cX7_givesTense 13 = .ok (.putfield 24, 3) := by decide +kernel
theorem dX7_givesTense_16 : decode cX7_givesTense 16 = .ok (.aload_n 0, 1) := by decide +kernel
theorem dX7_givesTense_17 : decode cX7_givesTense 17 = .ok (.getfield 77, 3) := by decide +kernel
theorem dX7_givesTense_20 : decode cX7_givesTense 20 = .ok (.ifCond .lt 7, 3) := by decide +kernel
theorem dX7_givesTense_23 : decode cX7_givesTense 23 = .ok (.iconst 1, 1) := by decide +kernel
theorem dX7_givesTense_24 : decode cX7_givesTense 24 = .ok (.goto 4, 3) := by decide +kernel
theorem dX7_givesTense_27 : decode cX7_givesTense 27 = .ok (.iconst 0, 1) := by decide +kernel
theorem dX7_givesTense_28 : decode cX7_givesTense 28 = .ok (.ireturn, 1) := by decide +kernel
theorem dX7_givesSign_0 : decode cX7_givesSign 0 = .ok (.aload_n 0, 1) := by decide +kernel
theorem dX7_givesSign_1 : decode cX7_givesSign 1 = .ok (.ldc 80, 2) := by decide +kernel
theorem dX7_givesSign_3 : decode cX7_givesSign 3 = .ok (.iload_n 1, 1) := by decide +kernel
theorem dX7_givesSign_4 : decode cX7_givesSign 4 = .ok (.i2c, 1) := by decide +kernel
theorem dX7_givesSign_5 : decode cX7_givesSign 5 = .ok (.invokevirtual 59, 3) := by decide +kernel
theorem dX7_givesSign_8 : decode cX7_givesSign 8 = .ok (.putfield 82, 3) := by decide +kernel
theorem dX7_givesSign_11 : decode cX7_givesSign 11 = .ok (.aload_n 0, 1) := by decide +kernel
theorem dX7_givesSign_12 : decode cX7_givesSign 12 = .ok (.iconst 3, 1) := by decide +kernel
theorem dX7_givesSign_13 : decode cX7_givesSign 13 = .ok (.putfield 24, 3) := by decide +kernel
theorem dX7_givesSign_16 : decode cX7_givesSign 16 = .ok (.aload_n 0, 1) := by decide +kernel
theorem dX7_givesSign_17 : decode cX7_givesSign 17 = .ok (.getfield 82, 3) := by decide +kernel
theorem dX7_givesSign_20 : decode cX7_givesSign 20 = .ok (.ifCond .lt 7, 3) := by decide +kernel
theorem dX7_givesSign_23 : decode cX7_givesSign 23 = .ok (.iconst 1, 1) := by decide +kernel
theorem dX7_givesSign_24 : decode cX7_givesSign 24 = .ok (.goto 4, 3) := by decide +kernel
theorem dX7_givesSign_27 : decode cX7_givesSign 27 = .ok (.iconst 0, 1) := by decide +kernel
theorem dX7_givesSign_28 : decode cX7_givesSign 28 = .ok (.ireturn, 1) := by decide +kernel
theorem dX7_givesSecond_0 : decode cX7_givesSecond 0 = .ok (.aload_n 0, 1) := by decide +kernel
theorem dX7_givesSecond_1 : decode cX7_givesSecond 1 = .ok (.iload_n 1, 1) := by decide +kernel
theorem dX7_givesSecond_2 : decode cX7_givesSecond 2 = .ok (.aload_n 2, 1) := by decide +kernel
theorem dX7_givesSecond_3 : decode cX7_givesSecond 3 = .ok (.invokestatic 65, 3) := by decide +kernel
theorem dX7_givesSecond_6 : decode cX7_givesSecond 6 = .ok (.putfield 85, 3) := by decide +kernel
theorem dX7_givesSecond_9 : decode cX7_givesSecond 9 = .ok (.aload_n 0, 1) := by decide +kernel
theorem dX7_givesSecond_10 : decode cX7_givesSecond 10 = .ok (.iconst 5, 1) := by decide +kernel
theorem dX7_givesSecond_11 : decode cX7_givesSecond 11 = .ok (.putfield 24, 3) := by decide +kernel
theorem dX7_givesSecond_14 : decode cX7_givesSecond 14 = .ok (.aload_n 0, 1) := by decide +kernel
theorem dX7_givesSecond_15 : decode cX7_givesSecond 15 = .ok (.getfield 85, 3) := by decide +kernel
theorem dX7_givesSecond_18 : decode cX7_givesSecond 18 = .ok (.bipush (-9), 2) := by decide +kernel
theorem dX7_givesSecond_20 : decode cX7_givesSecond 20 = .ok (.if_icmp .eq 18, 3) := by decide +kernel
theorem dX7_givesSecond_23 : decode cX7_givesSecond 23 = .ok (.aload_n 0, 1) := by decide +kernel
theorem dX7_givesSecond_24 : decode cX7_givesSecond 24 = .ok (.getfield 85, 3) := by decide +kernel
theorem dX7_givesSecond_27 : decode cX7_givesSecond 27 = .ok (.aload_n 0, 1) := by decide +kernel
theorem dX7_givesSecond_28 : decode cX7_givesSecond 28 = .ok (.getfield 69, 3) := by decide +kernel
theorem dX7_givesSecond_31 : decode cX7_givesSecond 31 = .ok (.if_icmp .eq 7, 3) := by decide +kernel
theorem dX7_givesSecond_34 : decode cX7_givesSecond 34 = .ok (.iconst 1, 1) := by decide +kernel
theorem dX7_givesSecond_35 : decode cX7_givesSecond 35 = .ok (.goto 4, 3) := by decide +kernel
theorem dX7_givesSecond_38 : decode cX7_givesSecond 38 = .ok (.iconst 0, 1) := by decide +kernel
theorem dX7_givesSecond_39 : decode cX7_givesSecond 39 = .ok (.ireturn, 1) := by decide +kernel
theorem dX7_endsItem_0 : decode cX7_endsItem 0 = .ok (.iload_n 1, 1) := by decide +kernel
theorem dX7_endsItem_1 : decode cX7_endsItem 1 = .ok (.bipush 59, 2) := by decide +kernel
theorem dX7_endsItem_3 : decode cX7_endsItem 3 = .ok (.if_icmp .eq 5, 3) := by decide +kernel
theorem dX7_endsItem_6 : decode cX7_endsItem 6 = .ok (.iconst 0, 1) := by decide +kernel
theorem dX7_endsItem_7 : decode cX7_endsItem 7 = .ok (.ireturn, 1) := by decide +kernel
theorem dX7_endsItem_8 : decode cX7_endsItem 8 = .ok (.aload_n 0, 1) := by decide +kernel
theorem dX7_endsItem_9 : decode cX7_endsItem 9 = .ok (.getfield 24, 3) := by decide +kernel
theorem dX7_endsItem_12 : decode cX7_endsItem 12 = .ok (.iconst 4, 1) := by decide +kernel
theorem dX7_endsItem_13 : decode cX7_endsItem 13 = .ok (.if_icmp .ne 18, 3) := by decide +kernel
theorem dX7_endsItem_16 : decode cX7_endsItem 16 = .ok (.aload_n 2, 1) := by decide +kernel
theorem dX7_endsItem_17 : decode cX7_endsItem 17 = .ok (.aload_n 0, 1) := by decide +kernel
theorem dX7_endsItem_18 : decode cX7_endsItem 18 = .ok (.getfield 77, 3) := by decide +kernel
theorem dX7_endsItem_21 : decode cX7_endsItem 21 = .ok (.aload_n 0, 1) := by decide +kernel
theorem dX7_endsItem_22 : decode cX7_endsItem 22 = .ok (.getfield 54, 3) := by decide +kernel
theorem dX7_endsItem_25 : decode cX7_endsItem 25 = .ok (.invokevirtual 88, 3) := by decide +kernel
theorem dX7_endsItem_28 : decode cX7_endsItem 28 = .ok (.goto 19, 3) := by decide +kernel
theorem dX7_endsItem_31 : decode cX7_endsItem 31 = .ok (.aload_n 2, 1) := by decide +kernel
theorem dX7_endsItem_32 : decode cX7_endsItem 32 = .ok (.aload_n 0, 1) := by decide +kernel
theorem dX7_endsItem_33 : decode cX7_endsItem 33 = .ok (.getfield 69, 3) := by decide +kernel
theorem dX7_endsItem_36 : decode cX7_endsItem 36 = .ok (.aload_n 0, 1) := by decide +kernel
theorem dX7_endsItem_37 : decode cX7_endsItem 37 = .ok (.getfield 82, 3) := by decide +kernel
theorem dX7_endsItem_40 : decode cX7_endsItem 40 = .ok (.aload_n 0, 1) := by decide +kernel
theorem dX7_endsItem_41 : decode cX7_endsItem 41 = .ok (.getfield 85, 3) := by decide +kernel
theorem dX7_endsItem_44 : decode cX7_endsItem 44 = .ok (.invokevirtual 92, 3) := by decide +kernel
theorem dX7_endsItem_47 : decode cX7_endsItem 47 = .ok (.aload_n 0, 1) := by decide +kernel
theorem dX7_endsItem_48 : decode cX7_endsItem 48 = .ok (.iconst 0, 1) := by decide +kernel
theorem dX7_endsItem_49 : decode cX7_endsItem 49 = .ok (.putfield 24, 3) := by decide +kernel
theorem dX7_endsItem_52 : decode cX7_endsItem 52 = .ok (.iconst 1, 1) := by decide +kernel
theorem dX7_endsItem_53 : decode cX7_endsItem 53 = .ok (.ireturn, 1) := by decide +kernel
theorem dX7_timeOf_0 : decode cX7_timeOf 0 = .ok (.iload_n 0, 1) := by decide +kernel
theorem dX7_timeOf_1 : decode cX7_timeOf 1 = .ok (.bipush 78, 2) := by decide +kernel
theorem dX7_timeOf_3 : decode cX7_timeOf 3 = .ok (.if_icmp .ne 5, 3) := by decide +kernel
theorem dX7_timeOf_6 : decode cX7_timeOf 6 = .ok (.iconst 0, 1) := by decide +kernel
theorem dX7_timeOf_7 : decode cX7_timeOf 7 = .ok (.ireturn, 1) := by decide +kernel
theorem dX7_timeOf_8 : decode cX7_timeOf 8 = .ok (.iload_n 0, 1) := by decide +kernel
theorem dX7_timeOf_9 : decode cX7_timeOf 9 = .ok (.bipush 65, 2) := by decide +kernel
theorem dX7_timeOf_11 : decode cX7_timeOf 11 = .ok (.isub, 1) := by decide +kernel
theorem dX7_timeOf_12 : decode cX7_timeOf 12 = .ok (.istore_n 2, 1) := by decide +kernel
theorem dX7_timeOf_13 : decode cX7_timeOf 13 = .ok (.iload_n 2, 1) := by decide +kernel
theorem dX7_timeOf_14 : decode cX7_timeOf 14 = .ok (.ifCond .lt 18, 3) := by decide +kernel
theorem dX7_timeOf_17 : decode cX7_timeOf 17 = .ok (.iload_n 2, 1) := by decide +kernel
theorem dX7_timeOf_18 : decode cX7_timeOf 18 = .ok (.aload_n 1, 1) := by decide +kernel
theorem dX7_timeOf_19 : decode cX7_timeOf 19 = .ok (.invokevirtual 50, 3) := by decide +kernel
theorem dX7_timeOf_22 : decode cX7_timeOf 22 = .ok (.if_icmp .ge 10, 3) := by decide +kernel
theorem dX7_timeOf_25 : decode cX7_timeOf 25 = .ok (.iload_n 2, 1) := by decide +kernel
theorem dX7_timeOf_26 : decode cX7_timeOf 26 = .ok (.invokestatic 96, 3) := by decide +kernel
theorem dX7_timeOf_29 : decode cX7_timeOf 29 = .ok (.goto 5, 3) := by decide +kernel
theorem dX7_timeOf_32 : decode cX7_timeOf 32 = .ok (.bipush (-9), 2) := by decide +kernel
theorem dX7_timeOf_34 : decode cX7_timeOf 34 = .ok (.ireturn, 1) := by decide +kernel
theorem dX5_init_0 : decode cX5_init 0 = .ok (.aload_n 0, 1) := by decide +kernel
theorem dX5_init_1 : decode cX5_init 1 = .ok (.invokespecial 3, 3) := by decide +kernel
theorem dX5_init_4 : decode cX5_init 4 = .ok (.aload_n 0, 1) := by decide +kernel
theorem dX5_init_5 : decode cX5_init 5 = .ok (.bipush 8, 2) := by decide +kernel
theorem dX5_init_7 : decode cX5_init 7 = .ok (.newarray .int, 2) := by decide +kernel
theorem dX5_init_9 : decode cX5_init 9 = .ok (.putfield 9, 3) := by decide +kernel
theorem dX5_init_12 : decode cX5_init 12 = .ok (.aload_n 0, 1) := by decide +kernel
theorem dX5_init_13 : decode cX5_init 13 = .ok (.bipush 8, 2) := by decide +kernel
theorem dX5_init_15 : decode cX5_init 15 = .ok (.newarray .int, 2) := by decide +kernel
theorem dX5_init_17 : decode cX5_init 17 = .ok (.putfield 15, 3) := by decide +kernel
theorem dX5_init_20 : decode cX5_init 20 = .ok (.aload_n 0, 1) := by decide +kernel
theorem dX5_init_21 : decode cX5_init 21 = .ok (.sipush 256, 3) := by decide +kernel
theorem dX5_init_24 : decode cX5_init 24 = .ok (.newarray .int, 2) := by decide +kernel
theorem dX5_init_26 : decode cX5_init 26 = .ok (.putfield 18, 3) := by decide +kernel
theorem dX5_init_29 : decode cX5_init 29 = .ok (.aload_n 0, 1) := by decide +kernel
theorem dX5_init_30 : decode cX5_init 30 = .ok (.sipush 256, 3) := by decide +kernel
theorem dX5_init_33 : decode cX5_init 33 = .ok (.newarray .int, 2) := by decide +kernel
theorem dX5_init_35 : decode cX5_init 35 = .ok (.putfield 21, 3) := by decide +kernel
theorem dX5_init_38 : decode cX5_init 38 = .ok (.aload_n 0, 1) := by decide +kernel
theorem dX5_init_39 : decode cX5_init 39 = .ok (.bipush 8, 2) := by decide +kernel
theorem dX5_init_41 : decode cX5_init 41 = .ok (.newarray .int, 2) := by decide +kernel
theorem dX5_init_43 : decode cX5_init 43 = .ok (.putfield 24, 3) := by decide +kernel
theorem dX5_init_46 : decode cX5_init 46 = .ok (.aload_n 0, 1) := by decide +kernel
theorem dX5_init_47 : decode cX5_init 47 = .ok (.bipush 8, 2) := by decide +kernel
theorem dX5_init_49 : decode cX5_init 49 = .ok (.bipush 8, 2) := by decide +kernel
theorem dX5_init_51 : decode cX5_init 51 = .ok (.multianewarray 27 2, 4) := by decide +kernel
theorem dX5_init_55 : decode cX5_init 55 = .ok (.putfield 29, 3) := by decide +kernel
theorem dX5_init_58 : decode cX5_init 58 = .ok (.return_, 1) := by decide +kernel
theorem dX5_all_0 : decode cX5_all 0 = .ok (.aload_n 0, 1) := by decide +kernel
theorem dX5_all_1 : decode cX5_all 1 = .ok (.getfield 32, 3) := by decide +kernel
theorem dX5_all_4 : decode cX5_all 4 = .ok (.ireturn, 1) := by decide +kernel
theorem dX5_remaining_0 : decode cX5_remaining 0 = .ok (.iload_n 1, 1) := by decide +kernel
theorem dX5_remaining_1 : decode cX5_remaining 1 = .ok (.invokestatic 36, 3) := by decide +kernel
theorem dX5_remaining_4 : decode cX5_remaining 4 = .ok (.ifCond .eq 10, 3) := by decide +kernel
theorem dX5_remaining_7 : decode cX5_remaining 7 = .ok (.iload_n 3, 1) := by decide +kernel
theorem dX5_remaining_8 : decode cX5_remaining 8 = .ok (.invokestatic 36, 3) := by decide +kernel
theorem dX5_remaining_11 : decode cX5_remaining 11 = .ok (.ifCond .ne 5, 3) := by decide +kernel
theorem dX5_remaining_14 : decode cX5_remaining 14 = .ok (.iconst 0, 1) := by decide +kernel
theorem dX5_remaining_15 : decode cX5_remaining 15 = .ok (.ireturn, 1) := by decide +kernel
theorem dX5_remaining_16 : decode cX5_remaining 16 = .ok (.aload_n 0, 1) := by decide +kernel
theorem dX5_remaining_17 : decode cX5_remaining 17 = .ok (.getfield 9, 3) := by decide +kernel
theorem dX5_remaining_20 : decode cX5_remaining 20 = .ok (.iload_n 1, 1) := by decide +kernel
theorem dX5_remaining_21 : decode cX5_remaining 21 = .ok (.iaload, 1) := by decide +kernel
theorem dX5_remaining_22 : decode cX5_remaining 22 = .ok (.istore 4, 2) := by decide +kernel
theorem dX5_remaining_24 : decode cX5_remaining 24 = .ok (.aload_n 0, 1) := by decide +kernel
theorem dX5_remaining_25 : decode cX5_remaining 25 = .ok (.getfield 9, 3) := by decide +kernel
theorem dX5_remaining_28 : decode cX5_remaining 28 = .ok (.iload_n 3, 1) := by decide +kernel
theorem dX5_remaining_29 : decode cX5_remaining 29 = .ok (.iaload, 1) := by decide +kernel
theorem dX5_remaining_30 : decode cX5_remaining 30 = .ok (.istore 5, 2) := by decide +kernel
theorem dX5_remaining_32 : decode cX5_remaining 32 = .ok (.iload 4, 2) := by decide +kernel
theorem dX5_remaining_34 : decode cX5_remaining 34 = .ok (.invokestatic 36, 3) := by decide +kernel
theorem dX5_remaining_37 : decode cX5_remaining 37 = .ok (.ifCond .eq 11, 3) := by decide +kernel
theorem dX5_remaining_40 : decode cX5_remaining 40 = .ok (.iload 5, 2) := by decide +kernel
theorem dX5_remaining_42 : decode cX5_remaining 42 = .ok (.invokestatic 36, 3) := by decide +kernel
theorem dX5_remaining_45 : decode cX5_remaining 45 = .ok (.ifCond .ne 5, 3) := by decide +kernel
theorem dX5_remaining_48 : decode cX5_remaining 48 = .ok (.iconst 0, 1) := by decide +kernel
theorem dX5_remaining_49 : decode cX5_remaining 49 = .ok (.ireturn, 1) := by decide +kernel
theorem dX5_remaining_50 : decode cX5_remaining 50 = .ok (.iload_n 2, 1) := by decide +kernel
theorem dX5_remaining_51 : decode cX5_remaining 51 = .ok (.ifCond .ne 14, 3) := by decide +kernel
theorem dX5_remaining_54 : decode cX5_remaining 54 = .ok (.aload_n 0, 1) := by decide +kernel
theorem dX5_remaining_55 : decode cX5_remaining 55 = .ok (.getfield 29, 3) := by decide +kernel
theorem dX5_remaining_58 : decode cX5_remaining 58 = .ok (.iload 4, 2) := by decide +kernel
theorem dX5_remaining_60 : decode cX5_remaining 60 = .ok (.aaload, 1) := by decide +kernel
theorem dX5_remaining_61 : decode cX5_remaining 61 = .ok (.iload 5, 2) := by decide +kernel
theorem dX5_remaining_63 : decode cX5_remaining 63 = .ok (.iaload, 1) := by decide +kernel
theorem dX5_remaining_64 : decode cX5_remaining 64 = .ok (.ireturn, 1) := by decide +kernel
theorem dX5_remaining_65 : decode cX5_remaining 65 = .ok (.iload_n 2, 1) := by decide +kernel
theorem dX5_remaining_66 : decode cX5_remaining 66 = .ok (.iconst 2, 1) := by decide +kernel
theorem dX5_remaining_67 : decode cX5_remaining 67 = .ok (.if_icmp .ne 14, 3) := by decide +kernel
theorem dX5_remaining_70 : decode cX5_remaining 70 = .ok (.aload_n 0, 1) := by decide +kernel
theorem dX5_remaining_71 : decode cX5_remaining 71 = .ok (.getfield 29, 3) := by decide +kernel
theorem dX5_remaining_74 : decode cX5_remaining 74 = .ok (.iload 5, 2) := by decide +kernel
theorem dX5_remaining_76 : decode cX5_remaining 76 = .ok (.aaload, 1) := by decide +kernel
theorem dX5_remaining_77 : decode cX5_remaining 77 = .ok (.iload 4, 2) := by decide +kernel
theorem dX5_remaining_79 : decode cX5_remaining 79 = .ok (.iaload, 1) := by decide +kernel
theorem dX5_remaining_80 : decode cX5_remaining 80 = .ok (.ireturn, 1) := by decide +kernel
theorem dX5_remaining_81 : decode cX5_remaining 81 = .ok (.aload_n 0, 1) := by decide +kernel
theorem dX5_remaining_82 : decode cX5_remaining 82 = .ok (.getfield 32, 3) := by decide +kernel
theorem dX5_remaining_85 : decode cX5_remaining 85 = .ok (.aload_n 0, 1) := by decide +kernel
theorem dX5_remaining_86 : decode cX5_remaining 86 = .ok (.getfield 29, 3) := by decide +kernel
theorem dX5_remaining_89 : decode cX5_remaining 89 = .ok (.iload 4, 2) := by decide +kernel
theorem dX5_remaining_91 : decode cX5_remaining 91 = .ok (.aaload, 1) := by decide +kernel
theorem dX5_remaining_92 : decode cX5_remaining 92 = .ok (.iload 5, 2) := by decide +kernel
theorem dX5_remaining_94 : decode cX5_remaining 94 = .ok (.iaload, 1) := by decide +kernel
theorem dX5_remaining_95 : decode cX5_remaining 95 = .ok (.isub, 1) := by decide +kernel
theorem dX5_remaining_96 : decode cX5_remaining 96 = .ok (.aload_n 0, 1) := by decide +kernel
theorem dX5_remaining_97 : decode cX5_remaining 97 = .ok (.getfield 29, 3) := by decide +kernel
theorem dX5_remaining_100 : decode cX5_remaining 100 = .ok (.iload 5, 2) := by decide +kernel
theorem dX5_remaining_102 : decode cX5_remaining 102 = .ok (.aaload, 1) := by decide +kernel
theorem dX5_remaining_103 : decode cX5_remaining 103 = .ok (.iload 4, 2) := by decide +kernel
theorem dX5_remaining_105 : decode cX5_remaining 105 = .ok (.iaload, 1) := by decide +kernel
theorem dX5_remaining_106 : decode cX5_remaining 106 = .ok (.isub, 1) := by decide +kernel
theorem dX5_remaining_107 : decode cX5_remaining 107 = .ok (.ireturn, 1) := by decide +kernel
theorem dX5_worst_0 : decode cX5_worst 0 = .ok (.aload_n 0, 1) := by decide +kernel
theorem dX5_worst_1 : decode cX5_worst 1 = .ok (.iload_n 1, 1) := by decide +kernel
theorem dX5_worst_2 : decode cX5_worst 2 = .ok (.iconst 0, 1) := by decide +kernel
theorem dX5_worst_3 : decode cX5_worst 3 = .ok (.iload_n 2, 1) := by decide +kernel
theorem dX5_worst_4 : decode cX5_worst 4 = .ok (.invokevirtual 40, 3) := by decide +kernel
theorem dX5_worst_7 : decode cX5_worst 7 = .ok (.aload_n 0, 1) := by decide +kernel
theorem dX5_worst_8 : decode cX5_worst 8 = .ok (.iload_n 1, 1) := by decide +kernel
theorem dX5_worst_9 : decode cX5_worst 9 = .ok (.iconst 2, 1) := by decide +kernel
theorem dX5_worst_10 : decode cX5_worst 10 = .ok (.iload_n 2, 1) := by decide +kernel
theorem dX5_worst_11 : decode cX5_worst 11 = .ok (.invokevirtual 40, 3) := by decide +kernel
theorem dX5_worst_14 : decode cX5_worst 14 = .ok (.invokestatic 44, 3) := by decide +kernel
theorem dX5_worst_17 : decode cX5_worst 17 = .ok (.istore_n 3, 1) := by decide +kernel
theorem dX5_worst_18 : decode cX5_worst 18 = .ok (.iload_n 3, 1) := by decide +kernel
theorem dX5_worst_19 : decode cX5_worst 19 = .ok (.aload_n 0, 1) := by decide +kernel
theorem dX5_worst_20 : decode cX5_worst 20 = .ok (.iload_n 1, 1) := by decide +kernel
theorem dX5_worst_21 : decode cX5_worst 21 = .ok (.iconst 1, 1) := by decide +kernel
theorem dX5_worst_22 : decode cX5_worst 22 = .ok (.iload_n 2, 1) := by decide +kernel
theorem dX5_worst_23 : decode cX5_worst 23 = .ok (.invokevirtual 40, 3) := by decide +kernel
theorem dX5_worst_26 : decode cX5_worst 26 = .ok (.invokestatic 44, 3) := by decide +kernel
theorem dX5_worst_29 : decode cX5_worst 29 = .ok (.ireturn, 1) := by decide +kernel
theorem dX5_fill_0 : decode cX5_fill 0 = .ok (.aload_n 0, 1) := by decide +kernel
theorem dX5_fill_1 : decode cX5_fill 1 = .ok (.invokevirtual 50, 3) := by decide +kernel
theorem dX5_fill_4 : decode cX5_fill 4 = .ok (.aload_n 1, 1) := by decide +kernel
theorem dX5_fill_5 : decode cX5_fill 5 = .ok (.invokevirtual 53, 3) := by decide +kernel
theorem dX5_fill_8 : decode cX5_fill 8 = .ok (.ifCond .ne 4, 3) := by decide +kernel
theorem dX5_fill_11 : decode cX5_fill 11 = .ok (.return_, 1) := by decide +kernel
theorem dX5_fill_12 : decode cX5_fill 12 = .ok (.iconst 0, 1) := by decide +kernel
theorem dX5_fill_13 : decode cX5_fill 13 = .ok (.istore_n 3, 1) := by decide +kernel
theorem dX5_fill_14 : decode cX5_fill 14 = .ok (.iload_n 3, 1) := by decide +kernel
theorem dX5_fill_15 : decode cX5_fill 15 = .ok (.iload_n 2, 1) := by decide +kernel
theorem dX5_fill_16 : decode cX5_fill 16 = .ok (.if_icmp .ge 21, 3) := by decide +kernel
theorem dX5_fill_19 : decode cX5_fill 19 = .ok (.iload_n 3, 1) := by decide +kernel
theorem dX5_fill_20 : decode cX5_fill 20 = .ok (.bipush 8, 2) := by decide +kernel
theorem dX5_fill_22 : decode cX5_fill 22 = .ok (.if_icmp .ge 15, 3) := by decide +kernel
theorem dX5_fill_25 : decode cX5_fill 25 = .ok (.aload_n 0, 1) := by decide +kernel
theorem dX5_fill_26 : decode cX5_fill 26 = .ok (.aload_n 1, 1) := by decide +kernel
theorem dX5_fill_27 : decode cX5_fill 27 = .ok (.iload_n 3, 1) := by decide +kernel
theorem dX5_fill_28 : decode cX5_fill 28 = .ok (.invokevirtual 59, 3) := by decide +kernel
theorem dX5_fill_31 : decode cX5_fill 31 = .ok (.iinc 3 1, 3) := by decide +kernel
theorem dX5_fill_34 : decode cX5_fill 34 = .ok (.goto (-20), 3) := by decide +kernel
theorem dX5_fill_37 : decode cX5_fill 37 = .ok (.iconst 0, 1) := by decide +kernel
theorem dX5_fill_38 : decode cX5_fill 38 = .ok (.istore_n 3, 1) := by decide +kernel
theorem dX5_fill_39 : decode cX5_fill 39 = .ok (.iload_n 3, 1) := by decide +kernel
theorem dX5_fill_40 : decode cX5_fill 40 = .ok (.iload_n 2, 1) := by decide +kernel
theorem dX5_fill_41 : decode cX5_fill 41 = .ok (.if_icmp .ge 21, 3) := by decide +kernel
theorem dX5_fill_44 : decode cX5_fill 44 = .ok (.iload_n 3, 1) := by decide +kernel
theorem dX5_fill_45 : decode cX5_fill 45 = .ok (.bipush 8, 2) := by decide +kernel
theorem dX5_fill_47 : decode cX5_fill 47 = .ok (.if_icmp .ge 15, 3) := by decide +kernel
theorem dX5_fill_50 : decode cX5_fill 50 = .ok (.aload_n 0, 1) := by decide +kernel
theorem dX5_fill_51 : decode cX5_fill 51 = .ok (.aload_n 1, 1) := by decide +kernel
theorem dX5_fill_52 : decode cX5_fill 52 = .ok (.iload_n 3, 1) := by decide +kernel
theorem dX5_fill_53 : decode cX5_fill 53 = .ok (.invokevirtual 63, 3) := by decide +kernel
theorem dX5_fill_56 : decode cX5_fill 56 = .ok (.iinc 3 1, 3) := by decide +kernel
theorem dX5_fill_59 : decode cX5_fill 59 = .ok (.goto (-20), 3) := by decide +kernel
theorem dX5_fill_62 : decode cX5_fill 62 = .ok (.aload_n 0, 1) := by decide +kernel
theorem dX5_fill_63 : decode cX5_fill 63 = .ok (.invokevirtual 66, 3) := by decide +kernel
theorem dX5_fill_66 : decode cX5_fill 66 = .ok (.aload_n 0, 1) := by decide +kernel
theorem dX5_fill_67 : decode cX5_fill 67 = .ok (.aload_n 0, 1) := by decide +kernel
theorem dX5_fill_68 : decode cX5_fill 68 = .ok (.getfield 21, 3) := by decide +kernel
theorem dX5_fill_71 : decode cX5_fill 71 = .ok (.iconst 0, 1) := by decide +kernel
theorem dX5_fill_72 : decode cX5_fill 72 = .ok (.iaload, 1) := by decide +kernel
theorem dX5_fill_73 : decode cX5_fill 73 = .ok (.putfield 32, 3) := by decide +kernel
theorem dX5_fill_76 : decode cX5_fill 76 = .ok (.return_, 1) := by decide +kernel
theorem dX5_empty_0 : decode cX5_empty 0 = .ok (.aload_n 0, 1) := by decide +kernel
theorem dX5_empty_1 : decode cX5_empty 1 = .ok (.iconst 0, 1) := by decide +kernel
theorem dX5_empty_2 : decode cX5_empty 2 = .ok (.putfield 69, 3) := by decide +kernel
theorem dX5_empty_5 : decode cX5_empty 5 = .ok (.aload_n 0, 1) := by decide +kernel
theorem dX5_empty_6 : decode cX5_empty 6 = .ok (.iconst 0, 1) := by decide +kernel
theorem dX5_empty_7 : decode cX5_empty 7 = .ok (.putfield 32, 3) := by decide +kernel
theorem dX5_empty_10 : decode cX5_empty 10 = .ok (.iconst 0, 1) := by decide +kernel
theorem dX5_empty_11 : decode cX5_empty 11 = .ok (.istore_n 1, 1) := by decide +kernel
theorem dX5_empty_12 : decode cX5_empty 12 = .ok (.iload_n 1, 1) := by decide +kernel
theorem dX5_empty_13 : decode cX5_empty 13 = .ok (.sipush 256, 3) := by decide +kernel
theorem dX5_empty_16 : decode cX5_empty 16 = .ok (.if_icmp .ge 23, 3) := by decide +kernel
theorem dX5_empty_19 : decode cX5_empty 19 = .ok (.aload_n 0, 1) := by decide +kernel
theorem dX5_empty_20 : decode cX5_empty 20 = .ok (.getfield 18, 3) := by decide +kernel
theorem dX5_empty_23 : decode cX5_empty 23 = .ok (.iload_n 1, 1) := by decide +kernel
theorem dX5_empty_24 : decode cX5_empty 24 = .ok (.iconst 0, 1) := by decide +kernel
theorem dX5_empty_25 : decode cX5_empty 25 = .ok (.iastore, 1) := by decide +kernel
theorem dX5_empty_26 : decode cX5_empty 26 = .ok (.aload_n 0, 1) := by decide +kernel
theorem dX5_empty_27 : decode cX5_empty 27 = .ok (.getfield 21, 3) := by decide +kernel
theorem dX5_empty_30 : decode cX5_empty 30 = .ok (.iload_n 1, 1) := by decide +kernel
theorem dX5_empty_31 : decode cX5_empty 31 = .ok (.iconst 0, 1) := by decide +kernel
theorem dX5_empty_32 : decode cX5_empty 32 = .ok (.iastore, 1) := by decide +kernel
theorem dX5_empty_33 : decode cX5_empty 33 = .ok (.iinc 1 1, 3) := by decide +kernel
theorem dX5_empty_36 : decode cX5_empty 36 = .ok (.goto (-24), 3) := by decide +kernel
theorem dX5_empty_39 : decode cX5_empty 39 = .ok (.iconst 0, 1) := by decide +kernel
theorem dX5_empty_40 : decode cX5_empty 40 = .ok (.istore_n 1, 1) := by decide +kernel
theorem dX5_empty_41 : decode cX5_empty 41 = .ok (.iload_n 1, 1) := by decide +kernel
theorem dX5_empty_42 : decode cX5_empty 42 = .ok (.bipush 8, 2) := by decide +kernel
theorem dX5_empty_44 : decode cX5_empty 44 = .ok (.if_icmp .ge 46, 3) := by decide +kernel
theorem dX5_empty_47 : decode cX5_empty 47 = .ok (.aload_n 0, 1) := by decide +kernel
theorem dX5_empty_48 : decode cX5_empty 48 = .ok (.getfield 9, 3) := by decide +kernel
theorem dX5_empty_51 : decode cX5_empty 51 = .ok (.iload_n 1, 1) := by decide +kernel
theorem dX5_empty_52 : decode cX5_empty 52 = .ok (.iload_n 1, 1) := by decide +kernel
theorem dX5_empty_53 : decode cX5_empty 53 = .ok (.iastore, 1) := by decide +kernel
theorem dX5_empty_54 : decode cX5_empty 54 = .ok (.aload_n 0, 1) := by decide +kernel
theorem dX5_empty_55 : decode cX5_empty 55 = .ok (.getfield 15, 3) := by decide +kernel
theorem dX5_empty_58 : decode cX5_empty 58 = .ok (.iload_n 1, 1) := by decide +kernel
theorem dX5_empty_59 : decode cX5_empty 59 = .ok (.iconst 0, 1) := by decide +kernel
theorem dX5_empty_60 : decode cX5_empty 60 = .ok (.iastore, 1) := by decide +kernel
theorem dX5_empty_61 : decode cX5_empty 61 = .ok (.iconst 0, 1) := by decide +kernel
theorem dX5_empty_62 : decode cX5_empty 62 = .ok (.istore_n 2, 1) := by decide +kernel
theorem dX5_empty_63 : decode cX5_empty 63 = .ok (.iload_n 2, 1) := by decide +kernel
theorem dX5_empty_64 : decode cX5_empty 64 = .ok (.bipush 8, 2) := by decide +kernel
theorem dX5_empty_66 : decode cX5_empty 66 = .ok (.if_icmp .ge 18, 3) := by decide +kernel
theorem dX5_empty_69 : decode cX5_empty 69 = .ok (.aload_n 0, 1) := by decide +kernel
theorem dX5_empty_70 : decode cX5_empty 70 = .ok (.getfield 29, 3) := by decide +kernel
theorem dX5_empty_73 : decode cX5_empty 73 = .ok (.iload_n 1, 1) := by decide +kernel
theorem dX5_empty_74 : decode cX5_empty 74 = .ok (.aaload, 1) := by decide +kernel
theorem dX5_empty_75 : decode cX5_empty 75 = .ok (.iload_n 2, 1) := by decide +kernel
theorem dX5_empty_76 : decode cX5_empty 76 = .ok (.iconst 0, 1) := by decide +kernel
theorem dX5_empty_77 : decode cX5_empty 77 = .ok (.iastore, 1) := by decide +kernel
theorem dX5_empty_78 : decode cX5_empty 78 = .ok (.iinc 2 1, 3) := by decide +kernel
theorem dX5_empty_81 : decode cX5_empty 81 = .ok (.goto (-18), 3) := by decide +kernel
theorem dX5_empty_84 : decode cX5_empty 84 = .ok (.iinc 1 1, 3) := by decide +kernel
theorem dX5_empty_87 : decode cX5_empty 87 = .ok (.goto (-46), 3) := by decide +kernel
theorem dX5_empty_90 : decode cX5_empty 90 = .ok (.return_, 1) := by decide +kernel
theorem dX5_putTogether_0 : decode cX5_putTogether 0 = .ok (.iload_n 2, 1) := by decide +kernel
theorem dX5_putTogether_1 : decode cX5_putTogether 1 = .ok (.invokestatic 36, 3) := by decide +kernel
theorem dX5_putTogether_4 : decode cX5_putTogether 4 = .ok (.ifCond .ne 4, 3) := by decide +kernel
theorem dX5_putTogether_7 : decode cX5_putTogether 7 = .ok (.return_, 1) := by decide +kernel
theorem dX5_putTogether_8 : decode cX5_putTogether 8 = .ok (.iload_n 2, 1) := by decide +kernel
theorem dX5_putTogether_9 : decode cX5_putTogether 9 = .ok (.iconst 1, 1) := by decide +kernel
theorem dX5_putTogether_10 : decode cX5_putTogether 10 = .ok (.isub, 1) := by decide +kernel
theorem dX5_putTogether_11 : decode cX5_putTogether 11 = .ok (.istore_n 3, 1) := by decide +kernel
theorem dX5_putTogether_12 : decode cX5_putTogether 12 = .ok (.iload_n 3, 1) := by decide +kernel
theorem dX5_putTogether_13 : decode cX5_putTogether 13 = .ok (.ifCond .lt 32, 3) := by decide +kernel
theorem dX5_putTogether_16 : decode cX5_putTogether 16 = .ok (.aload_n 1, 1) := by decide +kernel
theorem dX5_putTogether_17 : decode cX5_putTogether 17 = .ok (.iload_n 3, 1) := by decide +kernel
theorem dX5_putTogether_18 : decode cX5_putTogether 18 = .ok (.invokestatic 72, 3) := by decide +kernel
theorem dX5_putTogether_21 : decode cX5_putTogether 21 = .ok (.iload_n 2, 1) := by decide +kernel
theorem dX5_putTogether_22 : decode cX5_putTogether 22 = .ok (.invokestatic 72, 3) := by decide +kernel
theorem dX5_putTogether_25 : decode cX5_putTogether 25 = .ok (.invokevirtual 76, 3) := by decide +kernel
theorem dX5_putTogether_28 : decode cX5_putTogether 28 = .ok (.iconst 2, 1) := by decide +kernel
theorem dX5_putTogether_29 : decode cX5_putTogether 29 = .ok (.if_icmp .ne 10, 3) := by decide +kernel
theorem dX5_putTogether_32 : decode cX5_putTogether 32 = .ok (.aload_n 0, 1) := by decide +kernel
theorem dX5_putTogether_33 : decode cX5_putTogether 33 = .ok (.getfield 9, 3) := by decide +kernel
theorem dX5_putTogether_36 : decode cX5_putTogether 36 = .ok (.iload_n 2, 1) := by decide +kernel
theorem dX5_putTogether_37 : decode cX5_putTogether 37 = .ok (.iload_n 3, 1) := by decide +kernel
theorem dX5_putTogether_38 : decode cX5_putTogether 38 = .ok (.iastore, 1) := by decide +kernel
theorem dX5_putTogether_39 : decode cX5_putTogether 39 = .ok (.iinc 3 (-1), 3) := by decide +kernel
theorem dX5_putTogether_42 : decode cX5_putTogether 42 = .ok (.goto (-30), 3) := by decide +kernel
theorem dX5_putTogether_45 : decode cX5_putTogether 45 = .ok (.aload_n 0, 1) := by decide +kernel
theorem dX5_putTogether_46 : decode cX5_putTogether 46 = .ok (.dup, 1) := by decide +kernel
theorem dX5_putTogether_47 : decode cX5_putTogether 47 = .ok (.getfield 69, 3) := by decide +kernel
theorem dX5_putTogether_50 : decode cX5_putTogether 50 = .ok (.iconst 1, 1) := by decide +kernel
theorem dX5_putTogether_51 : decode cX5_putTogether 51 = .ok (.aload_n 0, 1) := by decide +kernel
theorem dX5_putTogether_52 : decode cX5_putTogether 52 = .ok (.getfield 9, 3) := by decide +kernel
theorem dX5_putTogether_55 : decode cX5_putTogether 55 = .ok (.iload_n 2, 1) := by decide +kernel
theorem dX5_putTogether_56 : decode cX5_putTogether 56 = .ok (.iaload, 1) := by decide +kernel
theorem dX5_putTogether_57 : decode cX5_putTogether 57 = .ok (.ishl, 1) := by decide +kernel
theorem dX5_putTogether_58 : decode cX5_putTogether 58 = .ok (.ior, 1) := by decide +kernel
theorem dX5_putTogether_59 : decode cX5_putTogether 59 = .ok (.putfield 69, 3) := by decide +kernel
theorem dX5_putTogether_62 : decode cX5_putTogether 62 = .ok (.return_, 1) := by decide +kernel
theorem dX5_noteBefore_0 : decode cX5_noteBefore 0 = .ok (.iload_n 2, 1) := by decide +kernel
theorem dX5_noteBefore_1 : decode cX5_noteBefore 1 = .ok (.invokestatic 36, 3) := by decide +kernel
theorem dX5_noteBefore_4 : decode cX5_noteBefore 4 = .ok (.ifCond .ne 4, 3) := by decide +kernel
theorem dX5_noteBefore_7 : decode cX5_noteBefore 7 = .ok (.return_, 1) := by decide +kernel
theorem dX5_noteBefore_8 : decode cX5_noteBefore 8 = .ok (.iconst 0, 1) := by decide +kernel
theorem dX5_noteBefore_9 : decode cX5_noteBefore 9 = .ok (.istore_n 3, 1) := by decide +kernel
theorem dX5_noteBefore_10 : decode cX5_noteBefore 10 = .ok (.iload_n 3, 1) := by decide +kernel
theorem dX5_noteBefore_11 : decode cX5_noteBefore 11 = .ok (.bipush 8, 2) := by decide +kernel
theorem dX5_noteBefore_13 : decode cX5_noteBefore 13 = .ok (.if_icmp .ge 47, 3) := by decide +kernel
theorem dX5_noteBefore_16 : decode cX5_noteBefore 16 = .ok (.aload_n 0, 1) := by decide +kernel
theorem dX5_noteBefore_17 : decode cX5_noteBefore 17 = .ok (.getfield 69, 3) := by decide +kernel
theorem dX5_noteBefore_20 : decode cX5_noteBefore 20 = .ok (.iload_n 3, 1) := by decide +kernel
theorem dX5_noteBefore_21 : decode cX5_noteBefore 21 = .ok (.invokestatic 79, 3) := by decide +kernel
theorem dX5_noteBefore_24 : decode cX5_noteBefore 24 = .ok (.ifCond .eq 30, 3) := by decide +kernel
theorem dX5_noteBefore_27 : decode cX5_noteBefore 27 = .ok (.aload_n 1, 1) := by decide +kernel
theorem dX5_noteBefore_28 : decode cX5_noteBefore 28 = .ok (.iload_n 3, 1) := by decide +kernel
theorem dX5_noteBefore_29 : decode cX5_noteBefore 29 = .ok (.invokestatic 72, 3) := by decide +kernel
theorem dX5_noteBefore_32 : decode cX5_noteBefore 32 = .ok (.iload_n 2, 1) := by decide +kernel
theorem dX5_noteBefore_33 : decode cX5_noteBefore 33 = .ok (.invokestatic 72, 3) := by decide +kernel
theorem dX5_noteBefore_36 : decode cX5_noteBefore 36 = .ok (.invokevirtual 83, 3) := by decide +kernel
theorem dX5_noteBefore_39 : decode cX5_noteBefore 39 = .ok (.ifCond .eq 15, 3) := by decide +kernel
theorem dX5_noteBefore_42 : decode cX5_noteBefore 42 = .ok (.aload_n 0, 1) := by decide +kernel
theorem dX5_noteBefore_43 : decode cX5_noteBefore 43 = .ok (.getfield 15, 3) := by decide +kernel
theorem dX5_noteBefore_46 : decode cX5_noteBefore 46 = .ok (.iload_n 2, 1) := by decide +kernel
theorem dX5_noteBefore_47 : decode cX5_noteBefore 47 = .ok (.dup2, 1) := by decide +kernel
theorem dX5_noteBefore_48 : decode cX5_noteBefore 48 = .ok (.iaload, 1) := by decide +kernel
theorem dX5_noteBefore_49 : decode cX5_noteBefore 49 = .ok (.iconst 1, 1) := by decide +kernel
theorem dX5_noteBefore_50 : decode cX5_noteBefore 50 = .ok (.iload_n 3, 1) := by decide +kernel
theorem dX5_noteBefore_51 : decode cX5_noteBefore 51 = .ok (.ishl, 1) := by decide +kernel
theorem dX5_noteBefore_52 : decode cX5_noteBefore 52 = .ok (.ior, 1) := by decide +kernel
theorem dX5_noteBefore_53 : decode cX5_noteBefore 53 = .ok (.iastore, 1) := by decide +kernel
theorem dX5_noteBefore_54 : decode cX5_noteBefore 54 = .ok (.iinc 3 1, 3) := by decide +kernel
theorem dX5_noteBefore_57 : decode cX5_noteBefore 57 = .ok (.goto (-47), 3) := by decide +kernel
theorem dX5_noteBefore_60 : decode cX5_noteBefore 60 = .ok (.return_, 1) := by decide +kernel
theorem dX5_ready_0 : decode cX5_ready 0 = .ok (.iconst 0, 1) := by decide +kernel
theorem dX5_ready_1 : decode cX5_ready 1 = .ok (.istore_n 2, 1) := by decide +kernel
theorem dX5_ready_2 : decode cX5_ready 2 = .ok (.iconst 0, 1) := by decide +kernel
theorem dX5_ready_3 : decode cX5_ready 3 = .ok (.istore_n 3, 1) := by decide +kernel
theorem dX5_ready_4 : decode cX5_ready 4 = .ok (.iload_n 3, 1) := by decide +kernel
theorem dX5_ready_5 : decode cX5_ready 5 = .ok (.bipush 8, 2) := by decide +kernel
theorem dX5_ready_7 : decode cX5_ready 7 = .ok (.if_icmp .ge 43, 3) := by decide +kernel
theorem dX5_ready_10 : decode cX5_ready 10 = .ok (.aload_n 0, 1) := by decide +kernel
theorem dX5_ready_11 : decode cX5_ready 11 = .ok (.getfield 69, 3) := by decide +kernel
theorem dX5_ready_14 : decode cX5_ready 14 = .ok (.iload_n 1, 1) := by decide +kernel
theorem dX5_ready_15 : decode cX5_ready 15 = .ok (.iconst (-1), 1) := by decide +kernel
theorem dX5_ready_16 : decode cX5_ready 16 = .ok (.ixor, 1) := by decide +kernel
theorem dX5_ready_17 : decode cX5_ready 17 = .ok (.iand, 1) := by decide +kernel
theorem dX5_ready_18 : decode cX5_ready 18 = .ok (.iload_n 3, 1) := by decide +kernel
theorem dX5_ready_19 : decode cX5_ready 19 = .ok (.invokestatic 79, 3) := by decide +kernel
theorem dX5_ready_22 : decode cX5_ready 22 = .ok (.ifCond .eq 22, 3) := by decide +kernel
theorem dX5_ready_25 : decode cX5_ready 25 = .ok (.aload_n 0, 1) := by decide +kernel
theorem dX5_ready_26 : decode cX5_ready 26 = .ok (.getfield 15, 3) := by decide +kernel
theorem dX5_ready_29 : decode cX5_ready 29 = .ok (.iload_n 3, 1) := by decide +kernel
theorem dX5_ready_30 : decode cX5_ready 30 = .ok (.iaload, 1) := by decide +kernel
theorem dX5_ready_31 : decode cX5_ready 31 = .ok (.iload_n 1, 1) := by decide +kernel
theorem dX5_ready_32 : decode cX5_ready 32 = .ok (.iconst (-1), 1) := by decide +kernel
theorem dX5_ready_33 : decode cX5_ready 33 = .ok (.ixor, 1) := by decide +kernel
theorem dX5_ready_34 : decode cX5_ready 34 = .ok (.iand, 1) := by decide +kernel
theorem dX5_ready_35 : decode cX5_ready 35 = .ok (.ifCond .ne 9, 3) := by decide +kernel
theorem dX5_ready_38 : decode cX5_ready 38 = .ok (.iload_n 2, 1) := by decide +kernel
theorem dX5_ready_39 : decode cX5_ready 39 = .ok (.iconst 1, 1) := by decide +kernel
theorem dX5_ready_40 : decode cX5_ready 40 = .ok (.iload_n 3, 1) := by decide +kernel
theorem dX5_ready_41 : decode cX5_ready 41 = .ok (.ishl, 1) := by decide +kernel
theorem dX5_ready_42 : decode cX5_ready 42 = .ok (.ior, 1) := by decide +kernel
theorem dX5_ready_43 : decode cX5_ready 43 = .ok (.istore_n 2, 1) := by decide +kernel
theorem dX5_ready_44 : decode cX5_ready 44 = .ok (.iinc 3 1, 3) := by decide +kernel
theorem dX5_ready_47 : decode cX5_ready 47 = .ok (.goto (-43), 3) := by decide +kernel
theorem dX5_ready_50 : decode cX5_ready 50 = .ok (.iload_n 2, 1) := by decide +kernel
theorem dX5_ready_51 : decode cX5_ready 51 = .ok (.ireturn, 1) := by decide +kernel
theorem dX5_countOn_0 : decode cX5_countOn 0 = .ok (.sipush 255, 3) := by decide +kernel
theorem dX5_countOn_3 : decode cX5_countOn 3 = .ok (.istore_n 1, 1) := by decide +kernel
theorem dX5_countOn_4 : decode cX5_countOn 4 = .ok (.iload_n 1, 1) := by decide +kernel
theorem dX5_countOn_5 : decode cX5_countOn 5 = .ok (.ifCond .lt 85, 3) := by decide +kernel
theorem dX5_countOn_8 : decode cX5_countOn 8 = .ok (.iload_n 1, 1) := by decide +kernel
theorem dX5_countOn_9 : decode cX5_countOn 9 = .ok (.aload_n 0, 1) := by decide +kernel
theorem dX5_countOn_10 : decode cX5_countOn 10 = .ok (.getfield 69, 3) := by decide +kernel
theorem dX5_countOn_13 : decode cX5_countOn 13 = .ok (.iconst (-1), 1) := by decide +kernel
theorem dX5_countOn_14 : decode cX5_countOn 14 = .ok (.ixor, 1) := by decide +kernel
theorem dX5_countOn_15 : decode cX5_countOn 15 = .ok (.iand, 1) := by decide +kernel
theorem dX5_countOn_16 : decode cX5_countOn 16 = .ok (.ifCond .eq 6, 3) := by decide +kernel
theorem dX5_countOn_19 : decode cX5_countOn 19 = .ok (.goto 65, 3) := by decide +kernel
theorem dX5_countOn_22 : decode cX5_countOn 22 = .ok (.aload_n 0, 1) := by decide +kernel
theorem dX5_countOn_23 : decode cX5_countOn 23 = .ok (.iload_n 1, 1) := by decide +kernel
theorem dX5_countOn_24 : decode cX5_countOn 24 = .ok (.invokevirtual 86, 3) := by decide +kernel
theorem dX5_countOn_27 : decode cX5_countOn 27 = .ok (.istore_n 2, 1) := by decide +kernel
theorem dX5_countOn_28 : decode cX5_countOn 28 = .ok (.iload_n 1, 1) := by decide +kernel
theorem dX5_countOn_29 : decode cX5_countOn 29 = .ok (.aload_n 0, 1) := by decide +kernel
theorem dX5_countOn_30 : decode cX5_countOn 30 = .ok (.getfield 69, 3) := by decide +kernel
theorem dX5_countOn_33 : decode cX5_countOn 33 = .ok (.if_icmp .ne 7, 3) := by decide +kernel
theorem dX5_countOn_36 : decode cX5_countOn 36 = .ok (.iconst 1, 1) := by decide +kernel
theorem dX5_countOn_37 : decode cX5_countOn 37 = .ok (.goto 4, 3) := by decide +kernel
theorem dX5_countOn_40 : decode cX5_countOn 40 = .ok (.iconst 0, 1) := by decide +kernel
theorem dX5_countOn_41 : decode cX5_countOn 41 = .ok (.istore_n 3, 1) := by decide +kernel
theorem dX5_countOn_42 : decode cX5_countOn 42 = .ok (.iload_n 2, 1) := by decide +kernel
theorem dX5_countOn_43 : decode cX5_countOn 43 = .ok (.istore 4, 2) := by decide +kernel
theorem dX5_countOn_45 : decode cX5_countOn 45 = .ok (.iload 4, 2) := by decide +kernel
theorem dX5_countOn_47 : decode cX5_countOn 47 = .ok (.ifCond .le 30, 3) := by decide +kernel
theorem dX5_countOn_50 : decode cX5_countOn 50 = .ok (.iload_n 3, 1) := by decide +kernel
theorem dX5_countOn_51 : decode cX5_countOn 51 = .ok (.aload_n 0, 1) := by decide +kernel
theorem dX5_countOn_52 : decode cX5_countOn 52 = .ok (.getfield 21, 3) := by decide +kernel
theorem dX5_countOn_55 : decode cX5_countOn 55 = .ok (.iload_n 1, 1) := by decide +kernel
theorem dX5_countOn_56 : decode cX5_countOn 56 = .ok (.iload 4, 2) := by decide +kernel
theorem dX5_countOn_58 : decode cX5_countOn 58 = .ok (.ior, 1) := by decide +kernel
theorem dX5_countOn_59 : decode cX5_countOn 59 = .ok (.sipush 255, 3) := by decide +kernel
theorem dX5_countOn_62 : decode cX5_countOn 62 = .ok (.iand, 1) := by decide +kernel
theorem dX5_countOn_63 : decode cX5_countOn 63 = .ok (.iaload, 1) := by decide +kernel
theorem dX5_countOn_64 : decode cX5_countOn 64 = .ok (.iadd, 1) := by decide +kernel
theorem dX5_countOn_65 : decode cX5_countOn 65 = .ok (.istore_n 3, 1) := by decide +kernel
theorem dX5_countOn_66 : decode cX5_countOn 66 = .ok (.iload 4, 2) := by decide +kernel
theorem dX5_countOn_68 : decode cX5_countOn 68 = .ok (.iconst 1, 1) := by decide +kernel
theorem dX5_countOn_69 : decode cX5_countOn 69 = .ok (.isub, 1) := by decide +kernel
theorem dX5_countOn_70 : decode cX5_countOn 70 = .ok (.iload_n 2, 1) := by decide +kernel
theorem dX5_countOn_71 : decode cX5_countOn 71 = .ok (.iand, 1) := by decide +kernel
theorem dX5_countOn_72 : decode cX5_countOn 72 = .ok (.istore 4, 2) := by decide +kernel
theorem dX5_countOn_74 : decode cX5_countOn 74 = .ok (.goto (-29), 3) := by decide +kernel
theorem dX5_countOn_77 : decode cX5_countOn 77 = .ok (.aload_n 0, 1) := by decide +kernel
theorem dX5_countOn_78 : decode cX5_countOn 78 = .ok (.getfield 21, 3) := by decide +kernel
theorem dX5_countOn_81 : decode cX5_countOn 81 = .ok (.iload_n 1, 1) := by decide +kernel
theorem dX5_countOn_82 : decode cX5_countOn 82 = .ok (.iload_n 3, 1) := by decide +kernel
theorem dX5_countOn_83 : decode cX5_countOn 83 = .ok (.iastore, 1) := by decide +kernel
theorem dX5_countOn_84 : decode cX5_countOn 84 = .ok (.iinc 1 (-1), 3) := by decide +kernel
theorem dX5_countOn_87 : decode cX5_countOn 87 = .ok (.goto (-83), 3) := by decide +kernel
theorem dX5_countOn_90 : decode cX5_countOn 90 = .ok (.return_, 1) := by decide +kernel
theorem dX5_compare_0 : decode cX5_compare 0 = .ok (.aload_n 0, 1) := by decide +kernel
theorem dX5_compare_1 : decode cX5_compare 1 = .ok (.getfield 18, 3) := by decide +kernel
theorem dX5_compare_4 : decode cX5_compare 4 = .ok (.iconst 0, 1) := by decide +kernel
theorem dX5_compare_5 : decode cX5_compare 5 = .ok (.aload_n 0, 1) := by decide +kernel
theorem dX5_compare_6 : decode cX5_compare 6 = .ok (.getfield 32, 3) := by decide +kernel
theorem dX5_compare_9 : decode cX5_compare 9 = .ok (.ifCond .ne 7, 3) := by decide +kernel
theorem dX5_compare_12 : decode cX5_compare 12 = .ok (.iconst 0, 1) := by decide +kernel
theorem dX5_compare_13 : decode cX5_compare 13 = .ok (.goto 4, 3) := by decide +kernel
theorem dX5_compare_16 : decode cX5_compare 16 = .ok (.iconst 1, 1) := by decide +kernel
theorem dX5_compare_17 : decode cX5_compare 17 = .ok (.iastore, 1) := by decide +kernel
theorem dX5_compare_18 : decode cX5_compare 18 = .ok (.iconst 0, 1) := by decide +kernel
theorem dX5_compare_19 : decode cX5_compare 19 = .ok (.istore_n 1, 1) := by decide +kernel
theorem dX5_compare_20 : decode cX5_compare 20 = .ok (.iload_n 1, 1) := by decide +kernel
theorem dX5_compare_21 : decode cX5_compare 21 = .ok (.sipush 256, 3) := by decide +kernel
theorem dX5_compare_24 : decode cX5_compare 24 = .ok (.if_icmp .ge 112, 3) := by decide +kernel
theorem dX5_compare_27 : decode cX5_compare 27 = .ok (.aload_n 0, 1) := by decide +kernel
theorem dX5_compare_28 : decode cX5_compare 28 = .ok (.getfield 18, 3) := by decide +kernel
theorem dX5_compare_31 : decode cX5_compare 31 = .ok (.iload_n 1, 1) := by decide +kernel
theorem dX5_compare_32 : decode cX5_compare 32 = .ok (.iaload, 1) := by decide +kernel
theorem dX5_compare_33 : decode cX5_compare 33 = .ok (.ifCond .ne 6, 3) := by decide +kernel
theorem dX5_compare_36 : decode cX5_compare 36 = .ok (.goto 94, 3) := by decide +kernel
theorem dX5_compare_39 : decode cX5_compare 39 = .ok (.aload_n 0, 1) := by decide +kernel
theorem dX5_compare_40 : decode cX5_compare 40 = .ok (.iload_n 1, 1) := by decide +kernel
theorem dX5_compare_41 : decode cX5_compare 41 = .ok (.invokevirtual 86, 3) := by decide +kernel
theorem dX5_compare_44 : decode cX5_compare 44 = .ok (.istore_n 2, 1) := by decide +kernel
theorem dX5_compare_45 : decode cX5_compare 45 = .ok (.iconst 0, 1) := by decide +kernel
theorem dX5_compare_46 : decode cX5_compare 46 = .ok (.istore_n 3, 1) := by decide +kernel
theorem dX5_compare_47 : decode cX5_compare 47 = .ok (.iload_n 3, 1) := by decide +kernel
theorem dX5_compare_48 : decode cX5_compare 48 = .ok (.bipush 8, 2) := by decide +kernel
theorem dX5_compare_50 : decode cX5_compare 50 = .ok (.if_icmp .ge 16, 3) := by decide +kernel
theorem dX5_compare_53 : decode cX5_compare 53 = .ok (.aload_n 0, 1) := by decide +kernel
theorem dX5_compare_54 : decode cX5_compare 54 = .ok (.getfield 24, 3) := by decide +kernel
theorem dX5_compare_57 : decode cX5_compare 57 = .ok (.iload_n 3, 1) := by decide +kernel
theorem dX5_compare_58 : decode cX5_compare 58 = .ok (.iconst 0, 1) := by decide +kernel
theorem dX5_compare_59 : decode cX5_compare 59 = .ok (.iastore, 1) := by decide +kernel
theorem dX5_compare_60 : decode cX5_compare 60 = .ok (.iinc 3 1, 3) := by decide +kernel
theorem dX5_compare_63 : decode cX5_compare 63 = .ok (.goto (-16), 3) := by decide +kernel
theorem dX5_compare_66 : decode cX5_compare 66 = .ok (.iload_n 2, 1) := by decide +kernel
theorem dX5_compare_67 : decode cX5_compare 67 = .ok (.istore_n 3, 1) := by decide +kernel
theorem dX5_compare_68 : decode cX5_compare 68 = .ok (.iload_n 3, 1) := by decide +kernel
theorem dX5_compare_69 : decode cX5_compare 69 = .ok (.ifCond .le 56, 3) := by decide +kernel
theorem dX5_compare_72 : decode cX5_compare 72 = .ok (.iload_n 1, 1) := by decide +kernel
theorem dX5_compare_73 : decode cX5_compare 73 = .ok (.iload_n 3, 1) := by decide +kernel
theorem dX5_compare_74 : decode cX5_compare 74 = .ok (.ior, 1) := by decide +kernel
theorem dX5_compare_75 : decode cX5_compare 75 = .ok (.sipush 255, 3) := by decide +kernel
theorem dX5_compare_78 : decode cX5_compare 78 = .ok (.iand, 1) := by decide +kernel
theorem dX5_compare_79 : decode cX5_compare 79 = .ok (.istore 4, 2) := by decide +kernel
theorem dX5_compare_81 : decode cX5_compare 81 = .ok (.aload_n 0, 1) := by decide +kernel
theorem dX5_compare_82 : decode cX5_compare 82 = .ok (.getfield 18, 3) := by decide +kernel
theorem dX5_compare_85 : decode cX5_compare 85 = .ok (.iload 4, 2) := by decide +kernel
theorem dX5_compare_87 : decode cX5_compare 87 = .ok (.dup2, 1) := by decide +kernel
theorem dX5_compare_88 : decode cX5_compare 88 = .ok (.iaload, 1) := by decide +kernel
theorem dX5_compare_89 : decode cX5_compare 89 = .ok (.aload_n 0, 1) := by decide +kernel
theorem dX5_compare_90 : decode cX5_compare 90 = .ok (.getfield 18, 3) := by decide +kernel
theorem dX5_compare_93 : decode cX5_compare 93 = .ok (.iload_n 1, 1) := by decide +kernel
theorem dX5_compare_94 : decode cX5_compare 94 = .ok (.iaload, 1) := by decide +kernel
theorem dX5_compare_95 : decode cX5_compare 95 = .ok (.iadd, 1) := by decide +kernel
theorem dX5_compare_96 : decode cX5_compare 96 = .ok (.iastore, 1) := by decide +kernel
theorem dX5_compare_97 : decode cX5_compare 97 = .ok (.aload_n 0, 1) := by decide +kernel
theorem dX5_compare_98 : decode cX5_compare 98 = .ok (.iload_n 3, 1) := by decide +kernel
theorem dX5_compare_99 : decode cX5_compare 99 = .ok (.aload_n 0, 1) := by decide +kernel
theorem dX5_compare_100 : decode cX5_compare 100 = .ok (.getfield 18, 3) := by decide +kernel
theorem dX5_compare_103 : decode cX5_compare 103 = .ok (.iload_n 1, 1) := by decide +kernel
theorem dX5_compare_104 : decode cX5_compare 104 = .ok (.iaload, 1) := by decide +kernel
theorem dX5_compare_105 : decode cX5_compare 105 = .ok (.aload_n 0, 1) := by decide +kernel
theorem dX5_compare_106 : decode cX5_compare 106 = .ok (.getfield 21, 3) := by decide +kernel
theorem dX5_compare_109 : decode cX5_compare 109 = .ok (.iload 4, 2) := by decide +kernel
theorem dX5_compare_111 : decode cX5_compare 111 = .ok (.iaload, 1) := by decide +kernel
theorem dX5_compare_112 : decode cX5_compare 112 = .ok (.imul, 1) := by decide +kernel
theorem dX5_compare_113 : decode cX5_compare 113 = .ok (.invokevirtual 89, 3) := by decide +kernel
theorem dX5_compare_116 : decode cX5_compare 116 = .ok (.iload_n 3, 1) := by decide +kernel
theorem dX5_compare_117 : decode cX5_compare 117 = .ok (.iconst 1, 1) := by decide +kernel
theorem dX5_compare_118 : decode cX5_compare 118 = .ok (.isub, 1) := by decide +kernel
theorem dX5_compare_119 : decode cX5_compare 119 = .ok (.iload_n 2, 1) := by decide +kernel
theorem dX5_compare_120 : decode cX5_compare 120 = .ok (.iand, 1) := by decide +kernel
theorem dX5_compare_121 : decode cX5_compare 121 = .ok (.istore_n 3, 1) := by decide +kernel
theorem dX5_compare_122 : decode cX5_compare 122 = .ok (.goto (-54), 3) := by decide +kernel
theorem dX5_compare_125 : decode cX5_compare 125 = .ok (.aload_n 0, 1) := by decide +kernel
theorem dX5_compare_126 : decode cX5_compare 126 = .ok (.iload_n 1, 1) := by decide +kernel
theorem dX5_compare_127 : decode cX5_compare 127 = .ok (.invokevirtual 93, 3) := by decide +kernel
theorem dX5_compare_130 : decode cX5_compare 130 = .ok (.iinc 1 1, 3) := by decide +kernel
theorem dX5_compare_133 : decode cX5_compare 133 = .ok (.goto (-113), 3) := by decide +kernel
theorem dX5_compare_136 : decode cX5_compare 136 = .ok (.return_, 1) := by decide +kernel
theorem dX5_noteJoining_0 : decode cX5_noteJoining 0 = .ok (.iconst 0, 1) := by decide +kernel
theorem dX5_noteJoining_1 : decode cX5_noteJoining 1 = .ok (.istore_n 3, 1) := by decide +kernel
theorem dX5_noteJoining_2 : decode cX5_noteJoining 2 = .ok (.iload_n 3, 1) := by decide +kernel
theorem dX5_noteJoining_3 : decode cX5_noteJoining 3 = .ok (.bipush 8, 2) := by decide +kernel
theorem dX5_noteJoining_5 : decode cX5_noteJoining 5 = .ok (.if_icmp .ge 27, 3) := by decide +kernel
theorem dX5_noteJoining_8 : decode cX5_noteJoining 8 = .ok (.iload_n 1, 1) := by decide +kernel
theorem dX5_noteJoining_9 : decode cX5_noteJoining 9 = .ok (.iload_n 3, 1) := by decide +kernel
theorem dX5_noteJoining_10 : decode cX5_noteJoining 10 = .ok (.invokestatic 79, 3) := by decide +kernel
theorem dX5_noteJoining_13 : decode cX5_noteJoining 13 = .ok (.ifCond .eq 13, 3) := by decide +kernel
theorem dX5_noteJoining_16 : decode cX5_noteJoining 16 = .ok (.aload_n 0, 1) := by decide +kernel
theorem dX5_noteJoining_17 : decode cX5_noteJoining 17 = .ok (.getfield 24, 3) := by decide +kernel
theorem dX5_noteJoining_20 : decode cX5_noteJoining 20 = .ok (.iload_n 3, 1) := by decide +kernel
theorem dX5_noteJoining_21 : decode cX5_noteJoining 21 = .ok (.dup2, 1) := by decide +kernel
theorem dX5_noteJoining_22 : decode cX5_noteJoining 22 = .ok (.iaload, 1) := by decide +kernel
theorem dX5_noteJoining_23 : decode cX5_noteJoining 23 = .ok (.iload_n 2, 1) := by decide +kernel
theorem dX5_noteJoining_24 : decode cX5_noteJoining 24 = .ok (.iadd, 1) := by decide +kernel
theorem dX5_noteJoining_25 : decode cX5_noteJoining 25 = .ok (.iastore, 1) := by decide +kernel
theorem dX5_noteJoining_26 : decode cX5_noteJoining 26 = .ok (.iinc 3 1, 3) := by decide +kernel
theorem dX5_noteJoining_29 : decode cX5_noteJoining 29 = .ok (.goto (-27), 3) := by decide +kernel
theorem dX5_noteJoining_32 : decode cX5_noteJoining 32 = .ok (.return_, 1) := by decide +kernel
theorem dX5_noteAhead_0 : decode cX5_noteAhead 0 = .ok (.iconst 0, 1) := by decide +kernel
theorem dX5_noteAhead_1 : decode cX5_noteAhead 1 = .ok (.istore_n 2, 1) := by decide +kernel
theorem dX5_noteAhead_2 : decode cX5_noteAhead 2 = .ok (.iload_n 2, 1) := by decide +kernel
theorem dX5_noteAhead_3 : decode cX5_noteAhead 3 = .ok (.bipush 8, 2) := by decide +kernel
theorem dX5_noteAhead_5 : decode cX5_noteAhead 5 = .ok (.if_icmp .ge 48, 3) := by decide +kernel
theorem dX5_noteAhead_8 : decode cX5_noteAhead 8 = .ok (.iload_n 1, 1) := by decide +kernel
theorem dX5_noteAhead_9 : decode cX5_noteAhead 9 = .ok (.iload_n 2, 1) := by decide +kernel
theorem dX5_noteAhead_10 : decode cX5_noteAhead 10 = .ok (.invokestatic 79, 3) := by decide +kernel
theorem dX5_noteAhead_13 : decode cX5_noteAhead 13 = .ok (.ifCond .eq 34, 3) := by decide +kernel
theorem dX5_noteAhead_16 : decode cX5_noteAhead 16 = .ok (.iconst 0, 1) := by decide +kernel
theorem dX5_noteAhead_17 : decode cX5_noteAhead 17 = .ok (.istore_n 3, 1) := by decide +kernel
theorem dX5_noteAhead_18 : decode cX5_noteAhead 18 = .ok (.iload_n 3, 1) := by decide +kernel
theorem dX5_noteAhead_19 : decode cX5_noteAhead 19 = .ok (.bipush 8, 2) := by decide +kernel
theorem dX5_noteAhead_21 : decode cX5_noteAhead 21 = .ok (.if_icmp .ge 26, 3) := by decide +kernel
theorem dX5_noteAhead_24 : decode cX5_noteAhead 24 = .ok (.aload_n 0, 1) := by decide +kernel
theorem dX5_noteAhead_25 : decode cX5_noteAhead 25 = .ok (.getfield 29, 3) := by decide +kernel
theorem dX5_noteAhead_28 : decode cX5_noteAhead 28 = .ok (.iload_n 2, 1) := by decide +kernel
theorem dX5_noteAhead_29 : decode cX5_noteAhead 29 = .ok (.aaload, 1) := by decide +kernel
theorem dX5_noteAhead_30 : decode cX5_noteAhead 30 = .ok (.iload_n 3, 1) := by decide +kernel
theorem dX5_noteAhead_31 : decode cX5_noteAhead 31 = .ok (.dup2, 1) := by decide +kernel
theorem dX5_noteAhead_32 : decode cX5_noteAhead 32 = .ok (.iaload, 1) := by decide +kernel
theorem dX5_noteAhead_33 : decode cX5_noteAhead 33 = .ok (.aload_n 0, 1) := by decide +kernel
theorem dX5_noteAhead_34 : decode cX5_noteAhead 34 = .ok (.getfield 24, 3) := by decide +kernel
theorem dX5_noteAhead_37 : decode cX5_noteAhead 37 = .ok (.iload_n 3, 1) := by decide +kernel
theorem dX5_noteAhead_38 : decode cX5_noteAhead 38 = .ok (.iaload, 1) := by decide +kernel
theorem dX5_noteAhead_39 : decode cX5_noteAhead 39 = .ok (.iadd, 1) := by decide +kernel
theorem dX5_noteAhead_40 : decode cX5_noteAhead 40 = .ok (.iastore, 1) := by decide +kernel
theorem dX5_noteAhead_41 : decode cX5_noteAhead 41 = .ok (.iinc 3 1, 3) := by decide +kernel
theorem dX5_noteAhead_44 : decode cX5_noteAhead 44 = .ok (.goto (-26), 3) := by decide +kernel
theorem dX5_noteAhead_47 : decode cX5_noteAhead 47 = .ok (.iinc 2 1, 3) := by decide +kernel
theorem dX5_noteAhead_50 : decode cX5_noteAhead 50 = .ok (.goto (-48), 3) := by decide +kernel
theorem dX5_noteAhead_53 : decode cX5_noteAhead 53 = .ok (.return_, 1) := by decide +kernel
theorem dX5_isWithin_0 : decode cX5_isWithin 0 = .ok (.iload_n 0, 1) := by decide +kernel
theorem dX5_isWithin_1 : decode cX5_isWithin 1 = .ok (.ifCond .lt 13, 3) := by decide +kernel
theorem dX5_isWithin_4 : decode cX5_isWithin 4 = .ok (.iload_n 0, 1) := by decide +kernel
theorem dX5_isWithin_5 : decode cX5_isWithin 5 = .ok (.bipush 8, 2) := by decide +kernel
theorem dX5_isWithin_7 : decode cX5_isWithin 7 = .ok (.if_icmp .ge 7, 3) := by decide +kernel
theorem dX5_isWithin_10 : decode cX5_isWithin 10 = .ok (.iconst 1, 1) := by decide +kernel
theorem dX5_isWithin_11 : decode cX5_isWithin 11 = .ok (.goto 4, 3) := by decide +kernel
theorem dX5_isWithin_14 : decode cX5_isWithin 14 = .ok (.iconst 0, 1) := by decide +kernel
theorem dX5_isWithin_15 : decode cX5_isWithin 15 = .ok (.ireturn, 1) := by decide +kernel
end
section
theorem dX8_init_0 : decode cX8_init 0 = .ok (.aload_n 0, 1) := by decide +kernel
theorem dX8_init_1 : decode cX8_init 1 = .ok (.invokespecial 3, 3) := by decide +kernel
theorem dX8_init_4 : decode cX8_init 4 = .ok (.aload_n 0, 1) := by decide +kernel
theorem dX8_init_5 : decode cX8_init 5 = .ok (.new 9, 3) := by decide +kernel
theorem dX8_init_8 : decode cX8_init 8 = .ok (.dup, 1) := by decide +kernel
theorem dX8_init_9 : decode cX8_init 9 = .ok (.invokespecial 11, 3) := by decide +kernel
theorem dX8_init_12 : decode cX8_init 12 = .ok (.putfield 12, 3) := by decide +kernel
theorem dX8_init_15 : decode cX8_init 15 = .ok (.aload_n 0, 1) := by decide +kernel
theorem dX8_init_16 : decode cX8_init 16 = .ok (.new 9, 3) := by decide +kernel
theorem dX8_init_19 : decode cX8_init 19 = .ok (.dup, 1) := by decide +kernel
theorem dX8_init_20 : decode cX8_init 20 = .ok (.invokespecial 11, 3) := by decide +kernel
theorem dX8_init_23 : decode cX8_init 23 = .ok (.putfield 16, 3) := by decide +kernel
theorem dX8_init_26 : decode cX8_init 26 = .ok (.aload_n 0, 1) := by decide +kernel
theorem dX8_init_27 : decode cX8_init 27 = .ok (.new 19, 3) := by decide +kernel
theorem dX8_init_30 : decode cX8_init 30 = .ok (.dup, 1) := by decide +kernel
theorem dX8_init_31 : decode cX8_init 31 = .ok (.invokespecial 21, 3) := by decide +kernel
theorem dX8_init_34 : decode cX8_init 34 = .ok (.putfield 22, 3) := by decide +kernel
theorem dX8_init_37 : decode cX8_init 37 = .ok (.aload_n 0, 1) := by decide +kernel
theorem dX8_init_38 : decode cX8_init 38 = .ok (.new 26, 3) := by decide +kernel
theorem dX8_init_41 : decode cX8_init 41 = .ok (.dup, 1) := by decide +kernel
theorem dX8_init_42 : decode cX8_init 42 = .ok (.invokespecial 28, 3) := by decide +kernel
theorem dX8_init_45 : decode cX8_init 45 = .ok (.putfield 29, 3) := by decide +kernel
theorem dX8_init_48 : decode cX8_init 48 = .ok (.aload_n 0, 1) := by decide +kernel
theorem dX8_init_49 : decode cX8_init 49 = .ok (.new 33, 3) := by decide +kernel
theorem dX8_init_52 : decode cX8_init 52 = .ok (.dup, 1) := by decide +kernel
theorem dX8_init_53 : decode cX8_init 53 = .ok (.invokespecial 35, 3) := by decide +kernel
theorem dX8_init_56 : decode cX8_init 56 = .ok (.putfield 36, 3) := by decide +kernel
theorem dX8_init_59 : decode cX8_init 59 = .ok (.aload_n 0, 1) := by decide +kernel
theorem dX8_init_60 : decode cX8_init 60 = .ok (.new 40, 3) := by decide +kernel
theorem dX8_init_63 : decode cX8_init 63 = .ok (.dup, 1) := by decide +kernel
theorem dX8_init_64 : decode cX8_init 64 = .ok (.invokespecial 42, 3) := by decide +kernel
theorem dX8_init_67 : decode cX8_init 67 = .ok (.putfield 43, 3) := by decide +kernel
theorem dX8_init_70 : decode cX8_init 70 = .ok (.aload_n 0, 1) := by decide +kernel
theorem dX8_init_71 : decode cX8_init 71 = .ok (.new 47, 3) := by decide +kernel
theorem dX8_init_74 : decode cX8_init 74 = .ok (.dup, 1) := by decide +kernel
theorem dX8_init_75 : decode cX8_init 75 = .ok (.invokespecial 49, 3) := by decide +kernel
theorem dX8_init_78 : decode cX8_init 78 = .ok (.putfield 50, 3) := by decide +kernel
theorem dX8_init_81 : decode cX8_init 81 = .ok (.aload_n 0, 1) := by decide +kernel
theorem dX8_init_82 : decode cX8_init 82 = .ok (.new 54, 3) := by decide +kernel
theorem dX8_init_85 : decode cX8_init 85 = .ok (.dup, 1) := by decide +kernel
theorem dX8_init_86 : decode cX8_init 86 = .ok (.invokespecial 56, 3) := by decide +kernel
theorem dX8_init_89 : decode cX8_init 89 = .ok (.putfield 57, 3) := by decide +kernel
theorem dX8_init_92 : decode cX8_init 92 = .ok (.aload_n 0, 1) := by decide +kernel
theorem dX8_init_93 : decode cX8_init 93 = .ok (.new 61, 3) := by decide +kernel
theorem dX8_init_96 : decode cX8_init 96 = .ok (.dup, 1) := by decide +kernel
theorem dX8_init_97 : decode cX8_init 97 = .ok (.invokespecial 63, 3) := by decide +kernel
theorem dX8_init_100 : decode cX8_init 100 = .ok (.putfield 64, 3) := by decide +kernel
theorem dX8_init_103 : decode cX8_init 103 = .ok (.return_, 1) := by decide +kernel
theorem dX8_type_0 : decode cX8_type 0 = .ok (.iload_n 1, 1) := by decide +kernel
theorem dX8_type_1 : decode cX8_type 1 = .ok (.ifCond .lt 10, 3) := by decide +kernel
theorem dX8_type_4 : decode cX8_type 4 = .ok (.iload_n 1, 1) := by decide +kernel
theorem dX8_type_5 : decode cX8_type 5 = .ok (.sipush 255, 3) := by decide +kernel
theorem dX8_type_8 : decode cX8_type 8 = .ok (.if_icmp .le 5, 3) := by decide +kernel
theorem dX8_type_11 : decode cX8_type 11 = .ok (.iconst (-1), 1) := by decide +kernel
theorem dX8_type_12 : decode cX8_type 12 = .ok (.ireturn, 1) := by decide +kernel
theorem dX8_type_13 : decode cX8_type 13 = .ok (.aload_n 0, 1) := by decide +kernel
theorem dX8_type_14 : decode cX8_type 14 = .ok (.getfield 22, 3) := by decide +kernel
theorem dX8_type_17 : decode cX8_type 17 = .ok (.iload_n 1, 1) := by decide +kernel
theorem dX8_type_18 : decode cX8_type 18 = .ok (.invokevirtual 68, 3) := by decide +kernel
theorem dX8_type_21 : decode cX8_type 21 = .ok (.ifCond .eq 13, 3) := by decide +kernel
theorem dX8_type_24 : decode cX8_type 24 = .ok (.aload_n 0, 1) := by decide +kernel
theorem dX8_type_25 : decode cX8_type 25 = .ok (.getfield 22, 3) := by decide +kernel
theorem dX8_type_28 : decode cX8_type 28 = .ok (.invokevirtual 72, 3) := by decide +kernel
theorem dX8_type_31 : decode cX8_type 31 = .ok (.goto 5, 3) := by decide +kernel
theorem dX8_type_34 : decode cX8_type 34 = .ok (.bipush (-3), 2) := by decide +kernel
theorem dX8_type_36 : decode cX8_type 36 = .ok (.ireturn, 1) := by decide +kernel
theorem dX8_clear_0 : decode cX8_clear 0 = .ok (.aload_n 0, 1) := by decide +kernel
theorem dX8_clear_1 : decode cX8_clear 1 = .ok (.getfield 22, 3) := by decide +kernel
theorem dX8_clear_4 : decode cX8_clear 4 = .ok (.invokevirtual 72, 3) := by decide +kernel
theorem dX8_clear_7 : decode cX8_clear 7 = .ok (.istore_n 1, 1) := by decide +kernel
theorem dX8_clear_8 : decode cX8_clear 8 = .ok (.aload_n 0, 1) := by decide +kernel
theorem dX8_clear_9 : decode cX8_clear 9 = .ok (.getfield 22, 3) := by decide +kernel
theorem dX8_clear_12 : decode cX8_clear 12 = .ok (.invokevirtual 76, 3) := by decide +kernel
theorem dX8_clear_15 : decode cX8_clear 15 = .ok (.iload_n 1, 1) := by decide +kernel
theorem dX8_clear_16 : decode cX8_clear 16 = .ok (.ireturn, 1) := by decide +kernel
theorem dX8_reads_0 : decode cX8_reads 0 = .ok (.aload_n 0, 1) := by decide +kernel
theorem dX8_reads_1 : decode cX8_reads 1 = .ok (.getfield 22, 3) := by decide +kernel
theorem dX8_reads_4 : decode cX8_reads 4 = .ok (.aload_n 0, 1) := by decide +kernel
theorem dX8_reads_5 : decode cX8_reads 5 = .ok (.getfield 16, 3) := by decide +kernel
theorem dX8_reads_8 : decode cX8_reads 8 = .ok (.invokevirtual 79, 3) := by decide +kernel
theorem dX8_reads_11 : decode cX8_reads 11 = .ok (.istore_n 1, 1) := by decide +kernel
theorem dX8_reads_12 : decode cX8_reads 12 = .ok (.iload_n 1, 1) := by decide +kernel
theorem dX8_reads_13 : decode cX8_reads 13 = .ok (.bipush (-9), 2) := by decide +kernel
theorem dX8_reads_15 : decode cX8_reads 15 = .ok (.if_icmp .eq 8, 3) := by decide +kernel
theorem dX8_reads_18 : decode cX8_reads 18 = .ok (.bipush (-10), 2) := by decide +kernel
theorem dX8_reads_20 : decode cX8_reads 20 = .ok (.iload_n 1, 1) := by decide +kernel
theorem dX8_reads_21 : decode cX8_reads 21 = .ok (.isub, 1) := by decide +kernel
theorem dX8_reads_22 : decode cX8_reads 22 = .ok (.ireturn, 1) := by decide +kernel
theorem dX8_reads_23 : decode cX8_reads 23 = .ok (.aload_n 0, 1) := by decide +kernel
theorem dX8_reads_24 : decode cX8_reads 24 = .ok (.getfield 12, 3) := by decide +kernel
theorem dX8_reads_27 : decode cX8_reads 27 = .ok (.aload_n 0, 1) := by decide +kernel
theorem dX8_reads_28 : decode cX8_reads 28 = .ok (.getfield 16, 3) := by decide +kernel
theorem dX8_reads_31 : decode cX8_reads 31 = .ok (.invokevirtual 83, 3) := by decide +kernel
theorem dX8_reads_34 : decode cX8_reads 34 = .ok (.aload_n 0, 1) := by decide +kernel
theorem dX8_reads_35 : decode cX8_reads 35 = .ok (.getfield 22, 3) := by decide +kernel
theorem dX8_reads_38 : decode cX8_reads 38 = .ok (.invokevirtual 76, 3) := by decide +kernel
theorem dX8_reads_41 : decode cX8_reads 41 = .ok (.aload_n 0, 1) := by decide +kernel
theorem dX8_reads_42 : decode cX8_reads 42 = .ok (.getfield 43, 3) := by decide +kernel
theorem dX8_reads_45 : decode cX8_reads 45 = .ok (.invokevirtual 87, 3) := by decide +kernel
theorem dX8_reads_48 : decode cX8_reads 48 = .ok (.aload_n 0, 1) := by decide +kernel
theorem dX8_reads_49 : decode cX8_reads 49 = .ok (.getfield 29, 3) := by decide +kernel
theorem dX8_reads_52 : decode cX8_reads 52 = .ok (.invokevirtual 88, 3) := by decide +kernel
theorem dX8_reads_55 : decode cX8_reads 55 = .ok (.aload_n 0, 1) := by decide +kernel
theorem dX8_reads_56 : decode cX8_reads 56 = .ok (.getfield 36, 3) := by decide +kernel
theorem dX8_reads_59 : decode cX8_reads 59 = .ok (.invokevirtual 91, 3) := by decide +kernel
theorem dX8_reads_62 : decode cX8_reads 62 = .ok (.aload_n 0, 1) := by decide +kernel
theorem dX8_reads_63 : decode cX8_reads 63 = .ok (.getfield 12, 3) := by decide +kernel
theorem dX8_reads_66 : decode cX8_reads 66 = .ok (.invokevirtual 92, 3) := by decide +kernel
theorem dX8_reads_69 : decode cX8_reads 69 = .ok (.ireturn, 1) := by decide +kernel
theorem dX8_clause_0 : decode cX8_clause 0 = .ok (.aload_n 0, 1) := by decide +kernel
theorem dX8_clause_1 : decode cX8_clause 1 = .ok (.iload_n 1, 1) := by decide +kernel
theorem dX8_clause_2 : decode cX8_clause 2 = .ok (.invokevirtual 95, 3) := by decide +kernel
theorem dX8_clause_5 : decode cX8_clause 5 = .ok (.ifCond .eq 12, 3) := by decide +kernel
theorem dX8_clause_8 : decode cX8_clause 8 = .ok (.iload_n 2, 1) := by decide +kernel
theorem dX8_clause_9 : decode cX8_clause 9 = .ok (.ifCond .lt 8, 3) := by decide +kernel
theorem dX8_clause_12 : decode cX8_clause 12 = .ok (.iload_n 2, 1) := by decide +kernel
theorem dX8_clause_13 : decode cX8_clause 13 = .ok (.iconst 2, 1) := by decide +kernel
theorem dX8_clause_14 : decode cX8_clause 14 = .ok (.if_icmp .le 5, 3) := by decide +kernel
theorem dX8_clause_17 : decode cX8_clause 17 = .ok (.iconst (-1), 1) := by decide +kernel
theorem dX8_clause_18 : decode cX8_clause 18 = .ok (.ireturn, 1) := by decide +kernel
theorem dX8_clause_19 : decode cX8_clause 19 = .ok (.iload_n 2, 1) := by decide +kernel
theorem dX8_clause_20 : decode cX8_clause 20 = .ok (.ifCond .ne 12, 3) := by decide +kernel
theorem dX8_clause_23 : decode cX8_clause 23 = .ok (.aload_n 0, 1) := by decide +kernel
theorem dX8_clause_24 : decode cX8_clause 24 = .ok (.getfield 12, 3) := by decide +kernel
theorem dX8_clause_27 : decode cX8_clause 27 = .ok (.iload_n 1, 1) := by decide +kernel
theorem dX8_clause_28 : decode cX8_clause 28 = .ok (.invokevirtual 98, 3) := by decide +kernel
theorem dX8_clause_31 : decode cX8_clause 31 = .ok (.ireturn, 1) := by decide +kernel
theorem dX8_clause_32 : decode cX8_clause 32 = .ok (.iload_n 2, 1) := by decide +kernel
theorem dX8_clause_33 : decode cX8_clause 33 = .ok (.iconst 1, 1) := by decide +kernel
theorem dX8_clause_34 : decode cX8_clause 34 = .ok (.if_icmp .ne 14, 3) := by decide +kernel
theorem dX8_clause_37 : decode cX8_clause 37 = .ok (.aload_n 0, 1) := by decide +kernel
theorem dX8_clause_38 : decode cX8_clause 38 = .ok (.getfield 12, 3) := by decide +kernel
theorem dX8_clause_41 : decode cX8_clause 41 = .ok (.iload_n 1, 1) := by decide +kernel
theorem dX8_clause_42 : decode cX8_clause 42 = .ok (.invokevirtual 102, 3) := by decide +kernel
theorem dX8_clause_45 : decode cX8_clause 45 = .ok (.goto 11, 3) := by decide +kernel
theorem dX8_clause_48 : decode cX8_clause 48 = .ok (.aload_n 0, 1) := by decide +kernel
theorem dX8_clause_49 : decode cX8_clause 49 = .ok (.getfield 12, 3) := by decide +kernel
theorem dX8_clause_52 : decode cX8_clause 52 = .ok (.iload_n 1, 1) := by decide +kernel
theorem dX8_clause_53 : decode cX8_clause 53 = .ok (.invokevirtual 105, 3) := by decide +kernel
theorem dX8_clause_56 : decode cX8_clause 56 = .ok (.ireturn, 1) := by decide +kernel
theorem dX8_statement_0 : decode cX8_statement 0 = .ok (.aload_n 0, 1) := by decide +kernel
theorem dX8_statement_1 : decode cX8_statement 1 = .ok (.iload_n 1, 1) := by decide +kernel
theorem dX8_statement_2 : decode cX8_statement 2 = .ok (.invokevirtual 108, 3) := by decide +kernel
theorem dX8_statement_5 : decode cX8_statement 5 = .ok (.ifCond .eq 12, 3) := by decide +kernel
theorem dX8_statement_8 : decode cX8_statement 8 = .ok (.iload_n 2, 1) := by decide +kernel
theorem dX8_statement_9 : decode cX8_statement 9 = .ok (.ifCond .lt 8, 3) := by decide +kernel
theorem dX8_statement_12 : decode cX8_statement 12 = .ok (.iload_n 2, 1) := by decide +kernel
theorem dX8_statement_13 : decode cX8_statement 13 = .ok (.iconst 3, 1) := by decide +kernel
theorem dX8_statement_14 : decode cX8_statement 14 = .ok (.if_icmp .le 5, 3) := by decide +kernel
theorem dX8_statement_17 : decode cX8_statement 17 = .ok (.iconst (-1), 1) := by decide +kernel
theorem dX8_statement_18 : decode cX8_statement 18 = .ok (.ireturn, 1) := by decide +kernel
theorem dX8_statement_19 : decode cX8_statement 19 = .ok (.iload_n 2, 1) := by decide +kernel
theorem dX8_statement_20 : decode cX8_statement 20 = .ok (.tableswitch 55 0 2 #[28, 37, 46], 28) := by decide +kernel
theorem dX8_statement_48 : decode cX8_statement 48 = .ok (.aload_n 0, 1) := by decide +kernel
theorem dX8_statement_49 : decode cX8_statement 49 = .ok (.getfield 12, 3) := by decide +kernel
theorem dX8_statement_52 : decode cX8_statement 52 = .ok (.iload_n 1, 1) := by decide +kernel
theorem dX8_statement_53 : decode cX8_statement 53 = .ok (.invokevirtual 111, 3) := by decide +kernel
theorem dX8_statement_56 : decode cX8_statement 56 = .ok (.ireturn, 1) := by decide +kernel
theorem dX8_statement_57 : decode cX8_statement 57 = .ok (.aload_n 0, 1) := by decide +kernel
theorem dX8_statement_58 : decode cX8_statement 58 = .ok (.getfield 12, 3) := by decide +kernel
theorem dX8_statement_61 : decode cX8_statement 61 = .ok (.iload_n 1, 1) := by decide +kernel
theorem dX8_statement_62 : decode cX8_statement 62 = .ok (.invokevirtual 114, 3) := by decide +kernel
theorem dX8_statement_65 : decode cX8_statement 65 = .ok (.ireturn, 1) := by decide +kernel
theorem dX8_statement_66 : decode cX8_statement 66 = .ok (.aload_n 0, 1) := by decide +kernel
theorem dX8_statement_67 : decode cX8_statement 67 = .ok (.getfield 12, 3) := by decide +kernel
theorem dX8_statement_70 : decode cX8_statement 70 = .ok (.iload_n 1, 1) := by decide +kernel
theorem dX8_statement_71 : decode cX8_statement 71 = .ok (.invokevirtual 117, 3) := by decide +kernel
theorem dX8_statement_74 : decode cX8_statement 74 = .ok (.ireturn, 1) := by decide +kernel
theorem dX8_statement_75 : decode cX8_statement 75 = .ok (.aload_n 0, 1) := by decide +kernel
theorem dX8_statement_76 : decode cX8_statement 76 = .ok (.getfield 12, 3) := by decide +kernel
theorem dX8_statement_79 : decode cX8_statement 79 = .ok (.iload_n 1, 1) := by decide +kernel
theorem dX8_statement_80 : decode cX8_statement 80 = .ok (.invokevirtual 120, 3) := by decide +kernel
theorem dX8_statement_83 : decode cX8_statement 83 = .ok (.ireturn, 1) := by decide +kernel
theorem dX8_says_0 : decode cX8_says 0 = .ok (.aload_n 0, 1) := by decide +kernel
theorem dX8_says_1 : decode cX8_says 1 = .ok (.iload_n 1, 1) := by decide +kernel
theorem dX8_says_2 : decode cX8_says 2 = .ok (.iload_n 2, 1) := by decide +kernel
theorem dX8_says_3 : decode cX8_says 3 = .ok (.iload_n 3, 1) := by decide +kernel
theorem dX8_says_4 : decode cX8_says 4 = .ok (.invokevirtual 123, 3) := by decide +kernel
theorem dX8_says_7 : decode cX8_says 7 = .ok (.ifCond .ne 5, 3) := by decide +kernel
theorem dX8_says_10 : decode cX8_says 10 = .ok (.iconst (-1), 1) := by decide +kernel
theorem dX8_says_11 : decode cX8_says 11 = .ok (.ireturn, 1) := by decide +kernel
theorem dX8_says_12 : decode cX8_says 12 = .ok (.aload_n 0, 1) := by decide +kernel
theorem dX8_says_13 : decode cX8_says 13 = .ok (.getfield 12, 3) := by decide +kernel
theorem dX8_says_16 : decode cX8_says 16 = .ok (.invokevirtual 127, 3) := by decide +kernel
theorem dX8_says_19 : decode cX8_says 19 = .ok (.bipush 6, 2) := by decide +kernel
theorem dX8_says_21 : decode cX8_says 21 = .ok (.if_icmp .lt 6, 3) := by decide +kernel
theorem dX8_says_24 : decode cX8_says 24 = .ok (.bipush (-3), 2) := by decide +kernel
theorem dX8_says_26 : decode cX8_says 26 = .ok (.ireturn, 1) := by decide +kernel
theorem dX8_says_27 : decode cX8_says 27 = .ok (.aload_n 0, 1) := by decide +kernel
theorem dX8_says_28 : decode cX8_says 28 = .ok (.getfield 29, 3) := by decide +kernel
theorem dX8_says_31 : decode cX8_says 31 = .ok (.aload_n 0, 1) := by decide +kernel
theorem dX8_says_32 : decode cX8_says 32 = .ok (.getfield 12, 3) := by decide +kernel
theorem dX8_says_35 : decode cX8_says 35 = .ok (.invokevirtual 130, 3) := by decide +kernel
theorem dX8_says_38 : decode cX8_says 38 = .ok (.aload_n 0, 1) := by decide +kernel
theorem dX8_says_39 : decode cX8_says 39 = .ok (.getfield 12, 3) := by decide +kernel
theorem dX8_says_42 : decode cX8_says 42 = .ok (.iload_n 1, 1) := by decide +kernel
theorem dX8_says_43 : decode cX8_says 43 = .ok (.iload_n 2, 1) := by decide +kernel
theorem dX8_says_44 : decode cX8_says 44 = .ok (.iload_n 3, 1) := by decide +kernel
theorem dX8_says_45 : decode cX8_says 45 = .ok (.invokevirtual 133, 3) := by decide +kernel
theorem dX8_says_48 : decode cX8_says 48 = .ok (.aload_n 0, 1) := by decide +kernel
theorem dX8_says_49 : decode cX8_says 49 = .ok (.getfield 12, 3) := by decide +kernel
theorem dX8_says_52 : decode cX8_says 52 = .ok (.invokevirtual 92, 3) := by decide +kernel
theorem dX8_says_55 : decode cX8_says 55 = .ok (.ireturn, 1) := by decide +kernel
theorem dX8_takes_0 : decode cX8_takes 0 = .ok (.aload_n 0, 1) := by decide +kernel
theorem dX8_takes_1 : decode cX8_takes 1 = .ok (.iload_n 1, 1) := by decide +kernel
theorem dX8_takes_2 : decode cX8_takes 2 = .ok (.invokevirtual 108, 3) := by decide +kernel
theorem dX8_takes_5 : decode cX8_takes 5 = .ok (.ifCond .eq 16, 3) := by decide +kernel
theorem dX8_takes_8 : decode cX8_takes 8 = .ok (.aload_n 0, 1) := by decide +kernel
theorem dX8_takes_9 : decode cX8_takes 9 = .ok (.getfield 12, 3) := by decide +kernel
theorem dX8_takes_12 : decode cX8_takes 12 = .ok (.iload_n 1, 1) := by decide +kernel
theorem dX8_takes_13 : decode cX8_takes 13 = .ok (.invokevirtual 111, 3) := by decide +kernel
theorem dX8_takes_16 : decode cX8_takes 16 = .ok (.bipush (-9), 2) := by decide +kernel
theorem dX8_takes_18 : decode cX8_takes 18 = .ok (.if_icmp .eq 5, 3) := by decide +kernel
theorem dX8_takes_21 : decode cX8_takes 21 = .ok (.iconst (-1), 1) := by decide +kernel
theorem dX8_takes_22 : decode cX8_takes 22 = .ok (.ireturn, 1) := by decide +kernel
theorem dX8_takes_23 : decode cX8_takes 23 = .ok (.aload_n 0, 1) := by decide +kernel
theorem dX8_takes_24 : decode cX8_takes 24 = .ok (.getfield 29, 3) := by decide +kernel
theorem dX8_takes_27 : decode cX8_takes 27 = .ok (.aload_n 0, 1) := by decide +kernel
theorem dX8_takes_28 : decode cX8_takes 28 = .ok (.getfield 12, 3) := by decide +kernel
theorem dX8_takes_31 : decode cX8_takes 31 = .ok (.invokevirtual 130, 3) := by decide +kernel
theorem dX8_takes_34 : decode cX8_takes 34 = .ok (.aload_n 0, 1) := by decide +kernel
theorem dX8_takes_35 : decode cX8_takes 35 = .ok (.getfield 12, 3) := by decide +kernel
theorem dX8_takes_38 : decode cX8_takes 38 = .ok (.iload_n 1, 1) := by decide +kernel
theorem dX8_takes_39 : decode cX8_takes 39 = .ok (.invokevirtual 137, 3) := by decide +kernel
theorem dX8_takes_42 : decode cX8_takes 42 = .ok (.aload_n 0, 1) := by decide +kernel
theorem dX8_takes_43 : decode cX8_takes 43 = .ok (.getfield 12, 3) := by decide +kernel
theorem dX8_takes_46 : decode cX8_takes 46 = .ok (.invokevirtual 92, 3) := by decide +kernel
theorem dX8_takes_49 : decode cX8_takes 49 = .ok (.ireturn, 1) := by decide +kernel
theorem dX8_tenses_0 : decode cX8_tenses 0 = .ok (.aload_n 0, 1) := by decide +kernel
theorem dX8_tenses_1 : decode cX8_tenses 1 = .ok (.iload_n 1, 1) := by decide +kernel
theorem dX8_tenses_2 : decode cX8_tenses 2 = .ok (.invokevirtual 95, 3) := by decide +kernel
theorem dX8_tenses_5 : decode cX8_tenses 5 = .ok (.ifCond .eq 13, 3) := by decide +kernel
theorem dX8_tenses_8 : decode cX8_tenses 8 = .ok (.iload_n 2, 1) := by decide +kernel
theorem dX8_tenses_9 : decode cX8_tenses 9 = .ok (.ifCond .lt 9, 3) := by decide +kernel
theorem dX8_tenses_12 : decode cX8_tenses 12 = .ok (.iload_n 2, 1) := by decide +kernel
theorem dX8_tenses_13 : decode cX8_tenses 13 = .ok (.bipush 8, 2) := by decide +kernel
theorem dX8_tenses_15 : decode cX8_tenses 15 = .ok (.if_icmp .lt 5, 3) := by decide +kernel
theorem dX8_tenses_18 : decode cX8_tenses 18 = .ok (.iconst (-1), 1) := by decide +kernel
theorem dX8_tenses_19 : decode cX8_tenses 19 = .ok (.ireturn, 1) := by decide +kernel
theorem dX8_tenses_20 : decode cX8_tenses 20 = .ok (.aload_n 0, 1) := by decide +kernel
theorem dX8_tenses_21 : decode cX8_tenses 21 = .ok (.getfield 12, 3) := by decide +kernel
theorem dX8_tenses_24 : decode cX8_tenses 24 = .ok (.iload_n 1, 1) := by decide +kernel
theorem dX8_tenses_25 : decode cX8_tenses 25 = .ok (.invokevirtual 98, 3) := by decide +kernel
theorem dX8_tenses_28 : decode cX8_tenses 28 = .ok (.istore_n 3, 1) := by decide +kernel
theorem dX8_tenses_29 : decode cX8_tenses 29 = .ok (.iload_n 3, 1) := by decide +kernel
theorem dX8_tenses_30 : decode cX8_tenses 30 = .ok (.iload_n 2, 1) := by decide +kernel
theorem dX8_tenses_31 : decode cX8_tenses 31 = .ok (.if_icmp .ne 6, 3) := by decide +kernel
theorem dX8_tenses_34 : decode cX8_tenses 34 = .ok (.bipush (-2), 2) := by decide +kernel
theorem dX8_tenses_36 : decode cX8_tenses 36 = .ok (.ireturn, 1) := by decide +kernel
theorem dX8_tenses_37 : decode cX8_tenses 37 = .ok (.aload_n 0, 1) := by decide +kernel
theorem dX8_tenses_38 : decode cX8_tenses 38 = .ok (.getfield 29, 3) := by decide +kernel
theorem dX8_tenses_41 : decode cX8_tenses 41 = .ok (.aload_n 0, 1) := by decide +kernel
theorem dX8_tenses_42 : decode cX8_tenses 42 = .ok (.getfield 12, 3) := by decide +kernel
theorem dX8_tenses_45 : decode cX8_tenses 45 = .ok (.invokevirtual 130, 3) := by decide +kernel
theorem dX8_tenses_48 : decode cX8_tenses 48 = .ok (.aload_n 0, 1) := by decide +kernel
theorem dX8_tenses_49 : decode cX8_tenses 49 = .ok (.getfield 12, 3) := by decide +kernel
theorem dX8_tenses_52 : decode cX8_tenses 52 = .ok (.iload_n 1, 1) := by decide +kernel
theorem dX8_tenses_53 : decode cX8_tenses 53 = .ok (.iload_n 2, 1) := by decide +kernel
theorem dX8_tenses_54 : decode cX8_tenses 54 = .ok (.invokevirtual 141, 3) := by decide +kernel
theorem dX8_tenses_57 : decode cX8_tenses 57 = .ok (.iload_n 3, 1) := by decide +kernel
theorem dX8_tenses_58 : decode cX8_tenses 58 = .ok (.ireturn, 1) := by decide +kernel
theorem dX8_links_0 : decode cX8_links 0 = .ok (.aload_n 0, 1) := by decide +kernel
theorem dX8_links_1 : decode cX8_links 1 = .ok (.iload_n 1, 1) := by decide +kernel
theorem dX8_links_2 : decode cX8_links 2 = .ok (.invokevirtual 95, 3) := by decide +kernel
theorem dX8_links_5 : decode cX8_links 5 = .ok (.ifCond .eq 16, 3) := by decide +kernel
theorem dX8_links_8 : decode cX8_links 8 = .ok (.iload_n 1, 1) := by decide +kernel
theorem dX8_links_9 : decode cX8_links 9 = .ok (.ifCond .eq 12, 3) := by decide +kernel
theorem dX8_links_12 : decode cX8_links 12 = .ok (.iload_n 2, 1) := by decide +kernel
theorem dX8_links_13 : decode cX8_links 13 = .ok (.ifCond .lt 8, 3) := by decide +kernel
theorem dX8_links_16 : decode cX8_links 16 = .ok (.iload_n 2, 1) := by decide +kernel
theorem dX8_links_17 : decode cX8_links 17 = .ok (.iconst 4, 1) := by decide +kernel
theorem dX8_links_18 : decode cX8_links 18 = .ok (.if_icmp .lt 5, 3) := by decide +kernel
theorem dX8_links_21 : decode cX8_links 21 = .ok (.iconst (-1), 1) := by decide +kernel
theorem dX8_links_22 : decode cX8_links 22 = .ok (.ireturn, 1) := by decide +kernel
theorem dX8_links_23 : decode cX8_links 23 = .ok (.aload_n 0, 1) := by decide +kernel
theorem dX8_links_24 : decode cX8_links 24 = .ok (.getfield 12, 3) := by decide +kernel
theorem dX8_links_27 : decode cX8_links 27 = .ok (.iload_n 1, 1) := by decide +kernel
theorem dX8_links_28 : decode cX8_links 28 = .ok (.invokevirtual 102, 3) := by decide +kernel
theorem dX8_links_31 : decode cX8_links 31 = .ok (.istore_n 3, 1) := by decide +kernel
theorem dX8_links_32 : decode cX8_links 32 = .ok (.iload_n 3, 1) := by decide +kernel
theorem dX8_links_33 : decode cX8_links 33 = .ok (.iload_n 2, 1) := by decide +kernel
theorem dX8_links_34 : decode cX8_links 34 = .ok (.if_icmp .ne 6, 3) := by decide +kernel
theorem dX8_links_37 : decode cX8_links 37 = .ok (.bipush (-2), 2) := by decide +kernel
theorem dX8_links_39 : decode cX8_links 39 = .ok (.ireturn, 1) := by decide +kernel
theorem dX8_links_40 : decode cX8_links 40 = .ok (.aload_n 0, 1) := by decide +kernel
theorem dX8_links_41 : decode cX8_links 41 = .ok (.getfield 29, 3) := by decide +kernel
theorem dX8_links_44 : decode cX8_links 44 = .ok (.aload_n 0, 1) := by decide +kernel
theorem dX8_links_45 : decode cX8_links 45 = .ok (.getfield 12, 3) := by decide +kernel
theorem dX8_links_48 : decode cX8_links 48 = .ok (.invokevirtual 130, 3) := by decide +kernel
theorem dX8_links_51 : decode cX8_links 51 = .ok (.aload_n 0, 1) := by decide +kernel
theorem dX8_links_52 : decode cX8_links 52 = .ok (.getfield 12, 3) := by decide +kernel
theorem dX8_links_55 : decode cX8_links 55 = .ok (.iload_n 1, 1) := by decide +kernel
theorem dX8_links_56 : decode cX8_links 56 = .ok (.iload_n 2, 1) := by decide +kernel
theorem dX8_links_57 : decode cX8_links 57 = .ok (.invokevirtual 145, 3) := by decide +kernel
theorem dX8_links_60 : decode cX8_links 60 = .ok (.iload_n 3, 1) := by decide +kernel
theorem dX8_links_61 : decode cX8_links 61 = .ok (.ireturn, 1) := by decide +kernel
theorem dX8_undo_0 : decode cX8_undo 0 = .ok (.aload_n 0, 1) := by decide +kernel
theorem dX8_undo_1 : decode cX8_undo 1 = .ok (.getfield 29, 3) := by decide +kernel
theorem dX8_undo_4 : decode cX8_undo 4 = .ok (.invokevirtual 148, 3) := by decide +kernel
theorem dX8_undo_7 : decode cX8_undo 7 = .ok (.ifCond .ne 6, 3) := by decide +kernel
theorem dX8_undo_10 : decode cX8_undo 10 = .ok (.bipush (-2), 2) := by decide +kernel
theorem dX8_undo_12 : decode cX8_undo 12 = .ok (.ireturn, 1) := by decide +kernel
theorem dX8_undo_13 : decode cX8_undo 13 = .ok (.aload_n 0, 1) := by decide +kernel
theorem dX8_undo_14 : decode cX8_undo 14 = .ok (.getfield 29, 3) := by decide +kernel
theorem dX8_undo_17 : decode cX8_undo 17 = .ok (.aload_n 0, 1) := by decide +kernel
theorem dX8_undo_18 : decode cX8_undo 18 = .ok (.getfield 12, 3) := by decide +kernel
theorem dX8_undo_21 : decode cX8_undo 21 = .ok (.invokevirtual 149, 3) := by decide +kernel
theorem dX8_undo_24 : decode cX8_undo 24 = .ok (.aload_n 0, 1) := by decide +kernel
theorem dX8_undo_25 : decode cX8_undo 25 = .ok (.getfield 29, 3) := by decide +kernel
theorem dX8_undo_28 : decode cX8_undo 28 = .ok (.invokevirtual 148, 3) := by decide +kernel
theorem dX8_undo_31 : decode cX8_undo 31 = .ok (.ireturn, 1) := by decide +kernel
theorem dX8_sound_0 : decode cX8_sound 0 = .ok (.aload_n 0, 1) := by decide +kernel
theorem dX8_sound_1 : decode cX8_sound 1 = .ok (.invokevirtual 152, 3) := by decide +kernel
theorem dX8_sound_4 : decode cX8_sound 4 = .ok (.aload_n 0, 1) := by decide +kernel
theorem dX8_sound_5 : decode cX8_sound 5 = .ok (.getfield 50, 3) := by decide +kernel
theorem dX8_sound_8 : decode cX8_sound 8 = .ok (.invokevirtual 155, 3) := by decide +kernel
theorem dX8_sound_11 : decode cX8_sound 11 = .ok (.ifCond .eq 7, 3) := by decide +kernel
theorem dX8_sound_14 : decode cX8_sound 14 = .ok (.iconst 1, 1) := by decide +kernel
theorem dX8_sound_15 : decode cX8_sound 15 = .ok (.goto 4, 3) := by decide +kernel
theorem dX8_sound_18 : decode cX8_sound 18 = .ok (.iconst 0, 1) := by decide +kernel
theorem dX8_sound_19 : decode cX8_sound 19 = .ok (.ireturn, 1) := by decide +kernel
theorem dX8_clash_0 : decode cX8_clash 0 = .ok (.iload_n 1, 1) := by decide +kernel
theorem dX8_clash_1 : decode cX8_clash 1 = .ok (.ifCond .lt 8, 3) := by decide +kernel
theorem dX8_clash_4 : decode cX8_clash 4 = .ok (.iload_n 1, 1) := by decide +kernel
theorem dX8_clash_5 : decode cX8_clash 5 = .ok (.iconst 1, 1) := by decide +kernel
theorem dX8_clash_6 : decode cX8_clash 6 = .ok (.if_icmp .le 5, 3) := by decide +kernel
theorem dX8_clash_9 : decode cX8_clash 9 = .ok (.iconst (-1), 1) := by decide +kernel
theorem dX8_clash_10 : decode cX8_clash 10 = .ok (.ireturn, 1) := by decide +kernel
theorem dX8_clash_11 : decode cX8_clash 11 = .ok (.aload_n 0, 1) := by decide +kernel
theorem dX8_clash_12 : decode cX8_clash 12 = .ok (.getfield 57, 3) := by decide +kernel
theorem dX8_clash_15 : decode cX8_clash 15 = .ok (.aload_n 0, 1) := by decide +kernel
theorem dX8_clash_16 : decode cX8_clash 16 = .ok (.getfield 12, 3) := by decide +kernel
theorem dX8_clash_19 : decode cX8_clash 19 = .ok (.invokevirtual 159, 3) := by decide +kernel
theorem dX8_clash_22 : decode cX8_clash 22 = .ok (.istore_n 2, 1) := by decide +kernel
theorem dX8_clash_23 : decode cX8_clash 23 = .ok (.iload_n 2, 1) := by decide +kernel
theorem dX8_clash_24 : decode cX8_clash 24 = .ok (.ifCond .ne 6, 3) := by decide +kernel
theorem dX8_clash_27 : decode cX8_clash 27 = .ok (.bipush (-9), 2) := by decide +kernel
theorem dX8_clash_29 : decode cX8_clash 29 = .ok (.ireturn, 1) := by decide +kernel
theorem dX8_clash_30 : decode cX8_clash 30 = .ok (.iload_n 1, 1) := by decide +kernel
theorem dX8_clash_31 : decode cX8_clash 31 = .ok (.ifCond .ne 7, 3) := by decide +kernel
theorem dX8_clash_34 : decode cX8_clash 34 = .ok (.iload_n 2, 1) := by decide +kernel
theorem dX8_clash_35 : decode cX8_clash 35 = .ok (.goto 7, 3) := by decide +kernel
theorem dX8_clash_38 : decode cX8_clash 38 = .ok (.iload_n 2, 1) := by decide +kernel
theorem dX8_clash_39 : decode cX8_clash 39 = .ok (.invokestatic 162, 3) := by decide +kernel
theorem dX8_clash_42 : decode cX8_clash 42 = .ok (.ireturn, 1) := by decide +kernel
theorem dX8_known_0 : decode cX8_known 0 = .ok (.aload_n 0, 1) := by decide +kernel
theorem dX8_known_1 : decode cX8_known 1 = .ok (.iload_n 1, 1) := by decide +kernel
theorem dX8_known_2 : decode cX8_known 2 = .ok (.invokevirtual 167, 3) := by decide +kernel
theorem dX8_known_5 : decode cX8_known 5 = .ok (.ifCond .eq 11, 3) := by decide +kernel
theorem dX8_known_8 : decode cX8_known 8 = .ok (.aload_n 0, 1) := by decide +kernel
theorem dX8_known_9 : decode cX8_known 9 = .ok (.iload_n 2, 1) := by decide +kernel
theorem dX8_known_10 : decode cX8_known 10 = .ok (.invokevirtual 167, 3) := by decide +kernel
theorem dX8_known_13 : decode cX8_known 13 = .ok (.ifCond .ne 5, 3) := by decide +kernel
theorem dX8_known_16 : decode cX8_known 16 = .ok (.iconst (-1), 1) := by decide +kernel
theorem dX8_known_17 : decode cX8_known 17 = .ok (.ireturn, 1) := by decide +kernel
theorem dX8_known_18 : decode cX8_known 18 = .ok (.aload_n 0, 1) := by decide +kernel
theorem dX8_known_19 : decode cX8_known 19 = .ok (.invokevirtual 152, 3) := by decide +kernel
theorem dX8_known_22 : decode cX8_known 22 = .ok (.aload_n 0, 1) := by decide +kernel
theorem dX8_known_23 : decode cX8_known 23 = .ok (.getfield 50, 3) := by decide +kernel
theorem dX8_known_26 : decode cX8_known 26 = .ok (.iload_n 1, 1) := by decide +kernel
theorem dX8_known_27 : decode cX8_known 27 = .ok (.iload_n 2, 1) := by decide +kernel
theorem dX8_known_28 : decode cX8_known 28 = .ok (.invokevirtual 170, 3) := by decide +kernel
theorem dX8_known_31 : decode cX8_known 31 = .ok (.ireturn, 1) := by decide +kernel
theorem dX8_line_0 : decode cX8_line 0 = .ok (.aload_n 0, 1) := by decide +kernel
theorem dX8_line_1 : decode cX8_line 1 = .ok (.iload_n 1, 1) := by decide +kernel
theorem dX8_line_2 : decode cX8_line 2 = .ok (.invokevirtual 167, 3) := by decide +kernel
theorem dX8_line_5 : decode cX8_line 5 = .ok (.ifCond .ne 5, 3) := by decide +kernel
theorem dX8_line_8 : decode cX8_line 8 = .ok (.iconst (-1), 1) := by decide +kernel
theorem dX8_line_9 : decode cX8_line 9 = .ok (.ireturn, 1) := by decide +kernel
theorem dX8_line_10 : decode cX8_line 10 = .ok (.aload_n 0, 1) := by decide +kernel
theorem dX8_line_11 : decode cX8_line 11 = .ok (.invokevirtual 152, 3) := by decide +kernel
theorem dX8_line_14 : decode cX8_line 14 = .ok (.aload_n 0, 1) := by decide +kernel
theorem dX8_line_15 : decode cX8_line 15 = .ok (.getfield 50, 3) := by decide +kernel
theorem dX8_line_18 : decode cX8_line 18 = .ok (.invokevirtual 155, 3) := by decide +kernel
theorem dX8_line_21 : decode cX8_line 21 = .ok (.ifCond .eq 14, 3) := by decide +kernel
theorem dX8_line_24 : decode cX8_line 24 = .ok (.aload_n 0, 1) := by decide +kernel
theorem dX8_line_25 : decode cX8_line 25 = .ok (.getfield 50, 3) := by decide +kernel
theorem dX8_line_28 : decode cX8_line 28 = .ok (.iload_n 1, 1) := by decide +kernel
theorem dX8_line_29 : decode cX8_line 29 = .ok (.invokevirtual 174, 3) := by decide +kernel
theorem dX8_line_32 : decode cX8_line 32 = .ok (.goto 5, 3) := by decide +kernel
theorem dX8_line_35 : decode cX8_line 35 = .ok (.bipush (-9), 2) := by decide +kernel
theorem dX8_line_37 : decode cX8_line 37 = .ok (.ireturn, 1) := by decide +kernel
theorem dX8_would_0 : decode cX8_would 0 = .ok (.aload_n 0, 1) := by decide +kernel
theorem dX8_would_1 : decode cX8_would 1 = .ok (.iload_n 1, 1) := by decide +kernel
theorem dX8_would_2 : decode cX8_would 2 = .ok (.iload_n 2, 1) := by decide +kernel
theorem dX8_would_3 : decode cX8_would 3 = .ok (.iload_n 3, 1) := by decide +kernel
theorem dX8_would_4 : decode cX8_would 4 = .ok (.invokevirtual 123, 3) := by decide +kernel
theorem dX8_would_7 : decode cX8_would 7 = .ok (.ifCond .ne 5, 3) := by decide +kernel
theorem dX8_would_10 : decode cX8_would 10 = .ok (.iconst (-1), 1) := by decide +kernel
theorem dX8_would_11 : decode cX8_would 11 = .ok (.ireturn, 1) := by decide +kernel
theorem dX8_would_12 : decode cX8_would 12 = .ok (.aload_n 0, 1) := by decide +kernel
theorem dX8_would_13 : decode cX8_would 13 = .ok (.invokevirtual 152, 3) := by decide +kernel
theorem dX8_would_16 : decode cX8_would 16 = .ok (.aload_n 0, 1) := by decide +kernel
theorem dX8_would_17 : decode cX8_would 17 = .ok (.getfield 50, 3) := by decide +kernel
theorem dX8_would_20 : decode cX8_would 20 = .ok (.iload_n 1, 1) := by decide +kernel
theorem dX8_would_21 : decode cX8_would 21 = .ok (.iload_n 3, 1) := by decide +kernel
theorem dX8_would_22 : decode cX8_would 22 = .ok (.invokevirtual 170, 3) := by decide +kernel
theorem dX8_would_25 : decode cX8_would 25 = .ok (.istore 4, 2) := by decide +kernel
theorem dX8_would_27 : decode cX8_would 27 = .ok (.iload 4, 2) := by decide +kernel
theorem dX8_would_29 : decode cX8_would 29 = .ok (.iconst 4, 1) := by decide +kernel
theorem dX8_would_30 : decode cX8_would 30 = .ok (.if_icmp .ne 5, 3) := by decide +kernel
theorem dX8_would_33 : decode cX8_would 33 = .ok (.iconst 4, 1) := by decide +kernel
theorem dX8_would_34 : decode cX8_would 34 = .ok (.ireturn, 1) := by decide +kernel
theorem dX8_would_35 : decode cX8_would 35 = .ok (.iload 4, 2) := by decide +kernel
theorem dX8_would_37 : decode cX8_would 37 = .ok (.ifCond .ne 5, 3) := by decide +kernel
theorem dX8_would_40 : decode cX8_would 40 = .ok (.iconst 1, 1) := by decide +kernel
theorem dX8_would_41 : decode cX8_would 41 = .ok (.ireturn, 1) := by decide +kernel
theorem dX8_would_42 : decode cX8_would 42 = .ok (.iload_n 2, 1) := by decide +kernel
theorem dX8_would_43 : decode cX8_would 43 = .ok (.ifCond .ne 7, 3) := by decide +kernel
theorem dX8_would_46 : decode cX8_would 46 = .ok (.iconst 1, 1) := by decide +kernel
theorem dX8_would_47 : decode cX8_would 47 = .ok (.goto 4, 3) := by decide +kernel
theorem dX8_would_50 : decode cX8_would 50 = .ok (.iconst 2, 1) := by decide +kernel
theorem dX8_would_51 : decode cX8_would 51 = .ok (.istore 5, 2) := by decide +kernel
theorem dX8_would_53 : decode cX8_would 53 = .ok (.iload 4, 2) := by decide +kernel
theorem dX8_would_55 : decode cX8_would 55 = .ok (.iload 5, 2) := by decide +kernel
theorem dX8_would_57 : decode cX8_would 57 = .ok (.if_icmp .ne 7, 3) := by decide +kernel
theorem dX8_would_60 : decode cX8_would 60 = .ok (.iconst 0, 1) := by decide +kernel
theorem dX8_would_61 : decode cX8_would 61 = .ok (.goto 4, 3) := by decide +kernel
theorem dX8_would_64 : decode cX8_would 64 = .ok (.iconst 2, 1) := by decide +kernel
theorem dX8_would_65 : decode cX8_would 65 = .ok (.ireturn, 1) := by decide +kernel
theorem dX8_orders_0 : decode cX8_orders 0 = .ok (.aload_n 0, 1) := by decide +kernel
theorem dX8_orders_1 : decode cX8_orders 1 = .ok (.invokevirtual 177, 3) := by decide +kernel
theorem dX8_orders_4 : decode cX8_orders 4 = .ok (.aload_n 0, 1) := by decide +kernel
theorem dX8_orders_5 : decode cX8_orders 5 = .ok (.getfield 64, 3) := by decide +kernel
theorem dX8_orders_8 : decode cX8_orders 8 = .ok (.invokevirtual 180, 3) := by decide +kernel
theorem dX8_orders_11 : decode cX8_orders 11 = .ok (.ireturn, 1) := by decide +kernel
theorem dX8_left_0 : decode cX8_left 0 = .ok (.aload_n 0, 1) := by decide +kernel
theorem dX8_left_1 : decode cX8_left 1 = .ok (.iload_n 1, 1) := by decide +kernel
theorem dX8_left_2 : decode cX8_left 2 = .ok (.invokevirtual 95, 3) := by decide +kernel
theorem dX8_left_5 : decode cX8_left 5 = .ok (.ifCond .eq 25, 3) := by decide +kernel
theorem dX8_left_8 : decode cX8_left 8 = .ok (.aload_n 0, 1) := by decide +kernel
theorem dX8_left_9 : decode cX8_left 9 = .ok (.iload_n 2, 1) := by decide +kernel
theorem dX8_left_10 : decode cX8_left 10 = .ok (.invokevirtual 95, 3) := by decide +kernel
theorem dX8_left_13 : decode cX8_left 13 = .ok (.ifCond .eq 17, 3) := by decide +kernel
theorem dX8_left_16 : decode cX8_left 16 = .ok (.iload_n 1, 1) := by decide +kernel
theorem dX8_left_17 : decode cX8_left 17 = .ok (.iload_n 2, 1) := by decide +kernel
theorem dX8_left_18 : decode cX8_left 18 = .ok (.if_icmp .eq 12, 3) := by decide +kernel
theorem dX8_left_21 : decode cX8_left 21 = .ok (.iload_n 3, 1) := by decide +kernel
theorem dX8_left_22 : decode cX8_left 22 = .ok (.ifCond .lt 8, 3) := by decide +kernel
theorem dX8_left_25 : decode cX8_left 25 = .ok (.iload_n 3, 1) := by decide +kernel
theorem dX8_left_26 : decode cX8_left 26 = .ok (.iconst 3, 1) := by decide +kernel
theorem dX8_left_27 : decode cX8_left 27 = .ok (.if_icmp .lt 5, 3) := by decide +kernel
theorem dX8_left_30 : decode cX8_left 30 = .ok (.iconst (-1), 1) := by decide +kernel
theorem dX8_left_31 : decode cX8_left 31 = .ok (.ireturn, 1) := by decide +kernel
theorem dX8_left_32 : decode cX8_left 32 = .ok (.aload_n 0, 1) := by decide +kernel
theorem dX8_left_33 : decode cX8_left 33 = .ok (.invokevirtual 177, 3) := by decide +kernel
theorem dX8_left_36 : decode cX8_left 36 = .ok (.aload_n 0, 1) := by decide +kernel
theorem dX8_left_37 : decode cX8_left 37 = .ok (.getfield 64, 3) := by decide +kernel
theorem dX8_left_40 : decode cX8_left 40 = .ok (.invokevirtual 183, 3) := by decide +kernel
theorem dX8_left_43 : decode cX8_left 43 = .ok (.aload_n 0, 1) := by decide +kernel
theorem dX8_left_44 : decode cX8_left 44 = .ok (.getfield 64, 3) := by decide +kernel
theorem dX8_left_47 : decode cX8_left 47 = .ok (.iload_n 1, 1) := by decide +kernel
theorem dX8_left_48 : decode cX8_left 48 = .ok (.iload_n 3, 1) := by decide +kernel
theorem dX8_left_49 : decode cX8_left 49 = .ok (.iload_n 2, 1) := by decide +kernel
theorem dX8_left_50 : decode cX8_left 50 = .ok (.invokevirtual 186, 3) := by decide +kernel
theorem dX8_left_53 : decode cX8_left 53 = .ok (.ireturn, 1) := by decide +kernel
theorem dX8_best_0 : decode cX8_best 0 = .ok (.iload_n 1, 1) := by decide +kernel
theorem dX8_best_1 : decode cX8_best 1 = .ok (.ifCond .lt 8, 3) := by decide +kernel
theorem dX8_best_4 : decode cX8_best 4 = .ok (.iload_n 1, 1) := by decide +kernel
theorem dX8_best_5 : decode cX8_best 5 = .ok (.iconst 2, 1) := by decide +kernel
theorem dX8_best_6 : decode cX8_best 6 = .ok (.if_icmp .le 5, 3) := by decide +kernel
theorem dX8_best_9 : decode cX8_best 9 = .ok (.iconst (-1), 1) := by decide +kernel
theorem dX8_best_10 : decode cX8_best 10 = .ok (.ireturn, 1) := by decide +kernel
theorem dX8_best_11 : decode cX8_best 11 = .ok (.aload_n 0, 1) := by decide +kernel
theorem dX8_best_12 : decode cX8_best 12 = .ok (.invokevirtual 177, 3) := by decide +kernel
theorem dX8_best_15 : decode cX8_best 15 = .ok (.aload_n 0, 1) := by decide +kernel
theorem dX8_best_16 : decode cX8_best 16 = .ok (.getfield 64, 3) := by decide +kernel
theorem dX8_best_19 : decode cX8_best 19 = .ok (.invokevirtual 183, 3) := by decide +kernel
theorem dX8_best_22 : decode cX8_best 22 = .ok (.bipush (-9), 2) := by decide +kernel
theorem dX8_best_24 : decode cX8_best 24 = .ok (.istore_n 2, 1) := by decide +kernel
theorem dX8_best_25 : decode cX8_best 25 = .ok (.bipush (-9), 2) := by decide +kernel
theorem dX8_best_27 : decode cX8_best 27 = .ok (.istore_n 3, 1) := by decide +kernel
theorem dX8_best_28 : decode cX8_best 28 = .ok (.bipush (-9), 2) := by decide +kernel
theorem dX8_best_30 : decode cX8_best 30 = .ok (.istore 4, 2) := by decide +kernel
theorem dX8_best_32 : decode cX8_best 32 = .ok (.iconst 0, 1) := by decide +kernel
theorem dX8_best_33 : decode cX8_best 33 = .ok (.istore 5, 2) := by decide +kernel
theorem dX8_best_35 : decode cX8_best 35 = .ok (.iload 5, 2) := by decide +kernel
theorem dX8_best_37 : decode cX8_best 37 = .ok (.aload_n 0, 1) := by decide +kernel
theorem dX8_best_38 : decode cX8_best 38 = .ok (.getfield 12, 3) := by decide +kernel
theorem dX8_best_41 : decode cX8_best 41 = .ok (.invokevirtual 190, 3) := by decide +kernel
theorem dX8_best_44 : decode cX8_best 44 = .ok (.if_icmp .ge 93, 3) := by decide +kernel
theorem dX8_best_47 : decode cX8_best 47 = .ok (.iload 5, 2) := by decide +kernel
theorem dX8_best_49 : decode cX8_best 49 = .ok (.iconst 1, 1) := by decide +kernel
theorem dX8_best_50 : decode cX8_best 50 = .ok (.iadd, 1) := by decide +kernel
theorem dX8_best_51 : decode cX8_best 51 = .ok (.istore 6, 2) := by decide +kernel
theorem dX8_best_53 : decode cX8_best 53 = .ok (.iload 6, 2) := by decide +kernel
theorem dX8_best_55 : decode cX8_best 55 = .ok (.aload_n 0, 1) := by decide +kernel
theorem dX8_best_56 : decode cX8_best 56 = .ok (.getfield 12, 3) := by decide +kernel
theorem dX8_best_59 : decode cX8_best 59 = .ok (.invokevirtual 190, 3) := by decide +kernel
theorem dX8_best_62 : decode cX8_best 62 = .ok (.if_icmp .ge 69, 3) := by decide +kernel
theorem dX8_best_65 : decode cX8_best 65 = .ok (.aload_n 0, 1) := by decide +kernel
theorem dX8_best_66 : decode cX8_best 66 = .ok (.getfield 50, 3) := by decide +kernel
theorem dX8_best_69 : decode cX8_best 69 = .ok (.iload 5, 2) := by decide +kernel
theorem dX8_best_71 : decode cX8_best 71 = .ok (.invokestatic 193, 3) := by decide +kernel
theorem dX8_best_74 : decode cX8_best 74 = .ok (.iload 6, 2) := by decide +kernel
theorem dX8_best_76 : decode cX8_best 76 = .ok (.invokestatic 193, 3) := by decide +kernel
theorem dX8_best_79 : decode cX8_best 79 = .ok (.invokevirtual 170, 3) := by decide +kernel
theorem dX8_best_82 : decode cX8_best 82 = .ok (.ifCond .eq 6, 3) := by decide +kernel
theorem dX8_best_85 : decode cX8_best 85 = .ok (.goto 40, 3) := by decide +kernel
theorem dX8_best_88 : decode cX8_best 88 = .ok (.aload_n 0, 1) := by decide +kernel
theorem dX8_best_89 : decode cX8_best 89 = .ok (.getfield 64, 3) := by decide +kernel
theorem dX8_best_92 : decode cX8_best 92 = .ok (.iload 5, 2) := by decide +kernel
theorem dX8_best_94 : decode cX8_best 94 = .ok (.iload 6, 2) := by decide +kernel
theorem dX8_best_96 : decode cX8_best 96 = .ok (.invokevirtual 196, 3) := by decide +kernel
theorem dX8_best_99 : decode cX8_best 99 = .ok (.istore 7, 2) := by decide +kernel
theorem dX8_best_101 : decode cX8_best 101 = .ok (.iload 4, 2) := by decide +kernel
theorem dX8_best_103 : decode cX8_best 103 = .ok (.bipush (-9), 2) := by decide +kernel
theorem dX8_best_105 : decode cX8_best 105 = .ok (.if_icmp .eq 10, 3) := by decide +kernel
theorem dX8_best_108 : decode cX8_best 108 = .ok (.iload 7, 2) := by decide +kernel
theorem dX8_best_110 : decode cX8_best 110 = .ok (.iload 4, 2) := by decide +kernel
theorem dX8_best_112 : decode cX8_best 112 = .ok (.if_icmp .ge 13, 3) := by decide +kernel
theorem dX8_best_115 : decode cX8_best 115 = .ok (.iload 5, 2) := by decide +kernel
theorem dX8_best_117 : decode cX8_best 117 = .ok (.istore_n 2, 1) := by decide +kernel
theorem dX8_best_118 : decode cX8_best 118 = .ok (.iload 6, 2) := by decide +kernel
theorem dX8_best_120 : decode cX8_best 120 = .ok (.istore_n 3, 1) := by decide +kernel
theorem dX8_best_121 : decode cX8_best 121 = .ok (.iload 7, 2) := by decide +kernel
theorem dX8_best_123 : decode cX8_best 123 = .ok (.istore 4, 2) := by decide +kernel
theorem dX8_best_125 : decode cX8_best 125 = .ok (.iinc 6 1, 3) := by decide +kernel
theorem dX8_best_128 : decode cX8_best 128 = .ok (.goto (-75), 3) := by decide +kernel
theorem dX8_best_131 : decode cX8_best 131 = .ok (.iinc 5 1, 3) := by decide +kernel
theorem dX8_best_134 : decode cX8_best 134 = .ok (.goto (-99), 3) := by decide +kernel
theorem dX8_best_137 : decode cX8_best 137 = .ok (.iload_n 1, 1) := by decide +kernel
theorem dX8_best_138 : decode cX8_best 138 = .ok (.ifCond .ne 5, 3) := by decide +kernel
theorem dX8_best_141 : decode cX8_best 141 = .ok (.iload_n 2, 1) := by decide +kernel
theorem dX8_best_142 : decode cX8_best 142 = .ok (.ireturn, 1) := by decide +kernel
theorem dX8_best_143 : decode cX8_best 143 = .ok (.iload_n 1, 1) := by decide +kernel
theorem dX8_best_144 : decode cX8_best 144 = .ok (.iconst 1, 1) := by decide +kernel
theorem dX8_best_145 : decode cX8_best 145 = .ok (.if_icmp .ne 7, 3) := by decide +kernel
theorem dX8_best_148 : decode cX8_best 148 = .ok (.iload_n 3, 1) := by decide +kernel
theorem dX8_best_149 : decode cX8_best 149 = .ok (.goto 5, 3) := by decide +kernel
theorem dX8_best_152 : decode cX8_best 152 = .ok (.iload 4, 2) := by decide +kernel
theorem dX8_best_154 : decode cX8_best 154 = .ok (.ireturn, 1) := by decide +kernel
theorem dX8_sees_0 : decode cX8_sees 0 = .ok (.aload_n 0, 1) := by decide +kernel
theorem dX8_sees_1 : decode cX8_sees 1 = .ok (.iload_n 1, 1) := by decide +kernel
theorem dX8_sees_2 : decode cX8_sees 2 = .ok (.invokevirtual 167, 3) := by decide +kernel
theorem dX8_sees_5 : decode cX8_sees 5 = .ok (.ifCond .eq 20, 3) := by decide +kernel
theorem dX8_sees_8 : decode cX8_sees 8 = .ok (.aload_n 0, 1) := by decide +kernel
theorem dX8_sees_9 : decode cX8_sees 9 = .ok (.iload_n 2, 1) := by decide +kernel
theorem dX8_sees_10 : decode cX8_sees 10 = .ok (.invokevirtual 167, 3) := by decide +kernel
theorem dX8_sees_13 : decode cX8_sees 13 = .ok (.ifCond .eq 12, 3) := by decide +kernel
theorem dX8_sees_16 : decode cX8_sees 16 = .ok (.iload_n 3, 1) := by decide +kernel
theorem dX8_sees_17 : decode cX8_sees 17 = .ok (.ifCond .lt 8, 3) := by decide +kernel
theorem dX8_sees_20 : decode cX8_sees 20 = .ok (.iload_n 3, 1) := by decide +kernel
theorem dX8_sees_21 : decode cX8_sees 21 = .ok (.iconst 4, 1) := by decide +kernel
theorem dX8_sees_22 : decode cX8_sees 22 = .ok (.if_icmp .le 5, 3) := by decide +kernel
theorem dX8_sees_25 : decode cX8_sees 25 = .ok (.iconst (-1), 1) := by decide +kernel
theorem dX8_sees_26 : decode cX8_sees 26 = .ok (.ireturn, 1) := by decide +kernel
theorem dX8_sees_27 : decode cX8_sees 27 = .ok (.aload_n 0, 1) := by decide +kernel
theorem dX8_sees_28 : decode cX8_sees 28 = .ok (.getfield 43, 3) := by decide +kernel
theorem dX8_sees_31 : decode cX8_sees 31 = .ok (.iload_n 1, 1) := by decide +kernel
theorem dX8_sees_32 : decode cX8_sees 32 = .ok (.iload_n 2, 1) := by decide +kernel
theorem dX8_sees_33 : decode cX8_sees 33 = .ok (.iload_n 3, 1) := by decide +kernel
theorem dX8_sees_34 : decode cX8_sees 34 = .ok (.invokevirtual 199, 3) := by decide +kernel
theorem dX8_sees_37 : decode cX8_sees 37 = .ok (.ifCond .eq 13, 3) := by decide +kernel
theorem dX8_sees_40 : decode cX8_sees 40 = .ok (.aload_n 0, 1) := by decide +kernel
theorem dX8_sees_41 : decode cX8_sees 41 = .ok (.getfield 43, 3) := by decide +kernel
theorem dX8_sees_44 : decode cX8_sees 44 = .ok (.invokevirtual 202, 3) := by decide +kernel
theorem dX8_sees_47 : decode cX8_sees 47 = .ok (.goto 5, 3) := by decide +kernel
theorem dX8_sees_50 : decode cX8_sees 50 = .ok (.bipush (-3), 2) := by decide +kernel
theorem dX8_sees_52 : decode cX8_sees 52 = .ok (.ireturn, 1) := by decide +kernel
theorem dX8_forget_0 : decode cX8_forget 0 = .ok (.aload_n 0, 1) := by decide +kernel
theorem dX8_forget_1 : decode cX8_forget 1 = .ok (.getfield 43, 3) := by decide +kernel
theorem dX8_forget_4 : decode cX8_forget 4 = .ok (.invokevirtual 202, 3) := by decide +kernel
theorem dX8_forget_7 : decode cX8_forget 7 = .ok (.istore_n 1, 1) := by decide +kernel
theorem dX8_forget_8 : decode cX8_forget 8 = .ok (.aload_n 0, 1) := by decide +kernel
theorem dX8_forget_9 : decode cX8_forget 9 = .ok (.getfield 43, 3) := by decide +kernel
theorem dX8_forget_12 : decode cX8_forget 12 = .ok (.invokevirtual 87, 3) := by decide +kernel
theorem dX8_forget_15 : decode cX8_forget 15 = .ok (.iload_n 1, 1) := by decide +kernel
theorem dX8_forget_16 : decode cX8_forget 16 = .ok (.ireturn, 1) := by decide +kernel
theorem dX8_unseen_0 : decode cX8_unseen 0 = .ok (.iconst 0, 1) := by decide +kernel
theorem dX8_unseen_1 : decode cX8_unseen 1 = .ok (.istore_n 1, 1) := by decide +kernel
theorem dX8_unseen_2 : decode cX8_unseen 2 = .ok (.iconst 0, 1) := by decide +kernel
theorem dX8_unseen_3 : decode cX8_unseen 3 = .ok (.istore_n 2, 1) := by decide +kernel
theorem dX8_unseen_4 : decode cX8_unseen 4 = .ok (.iload_n 2, 1) := by decide +kernel
theorem dX8_unseen_5 : decode cX8_unseen 5 = .ok (.aload_n 0, 1) := by decide +kernel
theorem dX8_unseen_6 : decode cX8_unseen 6 = .ok (.getfield 12, 3) := by decide +kernel
theorem dX8_unseen_9 : decode cX8_unseen 9 = .ok (.invokevirtual 92, 3) := by decide +kernel
theorem dX8_unseen_12 : decode cX8_unseen 12 = .ok (.if_icmp .ge 46, 3) := by decide +kernel
theorem dX8_unseen_15 : decode cX8_unseen 15 = .ok (.aload_n 0, 1) := by decide +kernel
theorem dX8_unseen_16 : decode cX8_unseen 16 = .ok (.aload_n 0, 1) := by decide +kernel
theorem dX8_unseen_17 : decode cX8_unseen 17 = .ok (.getfield 12, 3) := by decide +kernel
theorem dX8_unseen_20 : decode cX8_unseen 20 = .ok (.invokevirtual 203, 3) := by decide +kernel
theorem dX8_unseen_23 : decode cX8_unseen 23 = .ok (.iconst 1, 1) := by decide +kernel
theorem dX8_unseen_24 : decode cX8_unseen 24 = .ok (.iload_n 2, 1) := by decide +kernel
theorem dX8_unseen_25 : decode cX8_unseen 25 = .ok (.ishl, 1) := by decide +kernel
theorem dX8_unseen_26 : decode cX8_unseen 26 = .ok (.iconst (-1), 1) := by decide +kernel
theorem dX8_unseen_27 : decode cX8_unseen 27 = .ok (.ixor, 1) := by decide +kernel
theorem dX8_unseen_28 : decode cX8_unseen 28 = .ok (.iand, 1) := by decide +kernel
theorem dX8_unseen_29 : decode cX8_unseen 29 = .ok (.invokevirtual 206, 3) := by decide +kernel
theorem dX8_unseen_32 : decode cX8_unseen 32 = .ok (.aload_n 0, 1) := by decide +kernel
theorem dX8_unseen_33 : decode cX8_unseen 33 = .ok (.getfield 43, 3) := by decide +kernel
theorem dX8_unseen_36 : decode cX8_unseen 36 = .ok (.aload_n 0, 1) := by decide +kernel
theorem dX8_unseen_37 : decode cX8_unseen 37 = .ok (.getfield 50, 3) := by decide +kernel
theorem dX8_unseen_40 : decode cX8_unseen 40 = .ok (.invokevirtual 209, 3) := by decide +kernel
theorem dX8_unseen_43 : decode cX8_unseen 43 = .ok (.ifCond .eq 9, 3) := by decide +kernel
theorem dX8_unseen_46 : decode cX8_unseen 46 = .ok (.iload_n 1, 1) := by decide +kernel
theorem dX8_unseen_47 : decode cX8_unseen 47 = .ok (.iconst 1, 1) := by decide +kernel
theorem dX8_unseen_48 : decode cX8_unseen 48 = .ok (.iload_n 2, 1) := by decide +kernel
theorem dX8_unseen_49 : decode cX8_unseen 49 = .ok (.ishl, 1) := by decide +kernel
theorem dX8_unseen_50 : decode cX8_unseen 50 = .ok (.ior, 1) := by decide +kernel
theorem dX8_unseen_51 : decode cX8_unseen 51 = .ok (.istore_n 1, 1) := by decide +kernel
theorem dX8_unseen_52 : decode cX8_unseen 52 = .ok (.iinc 2 1, 3) := by decide +kernel
theorem dX8_unseen_55 : decode cX8_unseen 55 = .ok (.goto (-51), 3) := by decide +kernel
theorem dX8_unseen_58 : decode cX8_unseen 58 = .ok (.iload_n 1, 1) := by decide +kernel
theorem dX8_unseen_59 : decode cX8_unseen 59 = .ok (.ireturn, 1) := by decide +kernel
theorem dX8_keep_0 : decode cX8_keep 0 = .ok (.iload_n 1, 1) := by decide +kernel
theorem dX8_keep_1 : decode cX8_keep 1 = .ok (.ifCond .lt 8, 3) := by decide +kernel
theorem dX8_keep_4 : decode cX8_keep 4 = .ok (.iload_n 1, 1) := by decide +kernel
theorem dX8_keep_5 : decode cX8_keep 5 = .ok (.iconst 2, 1) := by decide +kernel
theorem dX8_keep_6 : decode cX8_keep 6 = .ok (.if_icmp .lt 5, 3) := by decide +kernel
theorem dX8_keep_9 : decode cX8_keep 9 = .ok (.iconst (-1), 1) := by decide +kernel
theorem dX8_keep_10 : decode cX8_keep 10 = .ok (.ireturn, 1) := by decide +kernel
theorem dX8_keep_11 : decode cX8_keep 11 = .ok (.aload_n 0, 1) := by decide +kernel
theorem dX8_keep_12 : decode cX8_keep 12 = .ok (.getfield 36, 3) := by decide +kernel
theorem dX8_keep_15 : decode cX8_keep 15 = .ok (.iload_n 1, 1) := by decide +kernel
theorem dX8_keep_16 : decode cX8_keep 16 = .ok (.aload_n 0, 1) := by decide +kernel
theorem dX8_keep_17 : decode cX8_keep 17 = .ok (.getfield 12, 3) := by decide +kernel
theorem dX8_keep_20 : decode cX8_keep 20 = .ok (.invokevirtual 213, 3) := by decide +kernel
theorem dX8_keep_23 : decode cX8_keep 23 = .ok (.aload_n 0, 1) := by decide +kernel
theorem dX8_keep_24 : decode cX8_keep 24 = .ok (.getfield 12, 3) := by decide +kernel
theorem dX8_keep_27 : decode cX8_keep 27 = .ok (.invokevirtual 92, 3) := by decide +kernel
theorem dX8_keep_30 : decode cX8_keep 30 = .ok (.ireturn, 1) := by decide +kernel
theorem dX8_back_0 : decode cX8_back 0 = .ok (.iload_n 1, 1) := by decide +kernel
theorem dX8_back_1 : decode cX8_back 1 = .ok (.ifCond .lt 8, 3) := by decide +kernel
theorem dX8_back_4 : decode cX8_back 4 = .ok (.iload_n 1, 1) := by decide +kernel
theorem dX8_back_5 : decode cX8_back 5 = .ok (.iconst 2, 1) := by decide +kernel
theorem dX8_back_6 : decode cX8_back 6 = .ok (.if_icmp .lt 5, 3) := by decide +kernel
theorem dX8_back_9 : decode cX8_back 9 = .ok (.iconst (-1), 1) := by decide +kernel
theorem dX8_back_10 : decode cX8_back 10 = .ok (.ireturn, 1) := by decide +kernel
theorem dX8_back_11 : decode cX8_back 11 = .ok (.aload_n 0, 1) := by decide +kernel
theorem dX8_back_12 : decode cX8_back 12 = .ok (.getfield 36, 3) := by decide +kernel
theorem dX8_back_15 : decode cX8_back 15 = .ok (.iload_n 1, 1) := by decide +kernel
theorem dX8_back_16 : decode cX8_back 16 = .ok (.invokevirtual 217, 3) := by decide +kernel
theorem dX8_back_19 : decode cX8_back 19 = .ok (.ifCond .ne 6, 3) := by decide +kernel
theorem dX8_back_22 : decode cX8_back 22 = .ok (.bipush (-2), 2) := by decide +kernel
theorem dX8_back_24 : decode cX8_back 24 = .ok (.ireturn, 1) := by decide +kernel
theorem dX8_back_25 : decode cX8_back 25 = .ok (.aload_n 0, 1) := by decide +kernel
theorem dX8_back_26 : decode cX8_back 26 = .ok (.getfield 36, 3) := by decide +kernel
theorem dX8_back_29 : decode cX8_back 29 = .ok (.iload_n 1, 1) := by decide +kernel
theorem dX8_back_30 : decode cX8_back 30 = .ok (.aload_n 0, 1) := by decide +kernel
theorem dX8_back_31 : decode cX8_back 31 = .ok (.getfield 12, 3) := by decide +kernel
theorem dX8_back_34 : decode cX8_back 34 = .ok (.invokevirtual 220, 3) := by decide +kernel
theorem dX8_back_37 : decode cX8_back 37 = .ok (.aload_n 0, 1) := by decide +kernel
theorem dX8_back_38 : decode cX8_back 38 = .ok (.getfield 29, 3) := by decide +kernel
theorem dX8_back_41 : decode cX8_back 41 = .ok (.invokevirtual 88, 3) := by decide +kernel
theorem dX8_back_44 : decode cX8_back 44 = .ok (.aload_n 0, 1) := by decide +kernel
theorem dX8_back_45 : decode cX8_back 45 = .ok (.getfield 12, 3) := by decide +kernel
theorem dX8_back_48 : decode cX8_back 48 = .ok (.invokevirtual 92, 3) := by decide +kernel
theorem dX8_back_51 : decode cX8_back 51 = .ok (.ireturn, 1) := by decide +kernel
theorem dX8_count_0 : decode cX8_count 0 = .ok (.iload_n 1, 1) := by decide +kernel
theorem dX8_count_1 : decode cX8_count 1 = .ok (.tableswitch 87 0 5 #[39, 47, 55, 63, 71, 79], 39) := by decide +kernel
theorem dX8_count_40 : decode cX8_count 40 = .ok (.aload_n 0, 1) := by decide +kernel
theorem dX8_count_41 : decode cX8_count 41 = .ok (.getfield 12, 3) := by decide +kernel
theorem dX8_count_44 : decode cX8_count 44 = .ok (.invokevirtual 190, 3) := by decide +kernel
theorem dX8_count_47 : decode cX8_count 47 = .ok (.ireturn, 1) := by decide +kernel
theorem dX8_count_48 : decode cX8_count 48 = .ok (.aload_n 0, 1) := by decide +kernel
theorem dX8_count_49 : decode cX8_count 49 = .ok (.getfield 12, 3) := by decide +kernel
theorem dX8_count_52 : decode cX8_count 52 = .ok (.invokevirtual 127, 3) := by decide +kernel
theorem dX8_count_55 : decode cX8_count 55 = .ok (.ireturn, 1) := by decide +kernel
theorem dX8_count_56 : decode cX8_count 56 = .ok (.aload_n 0, 1) := by decide +kernel
theorem dX8_count_57 : decode cX8_count 57 = .ok (.getfield 12, 3) := by decide +kernel
theorem dX8_count_60 : decode cX8_count 60 = .ok (.invokevirtual 92, 3) := by decide +kernel
theorem dX8_count_63 : decode cX8_count 63 = .ok (.ireturn, 1) := by decide +kernel
theorem dX8_count_64 : decode cX8_count 64 = .ok (.aload_n 0, 1) := by decide +kernel
theorem dX8_count_65 : decode cX8_count 65 = .ok (.getfield 43, 3) := by decide +kernel
theorem dX8_count_68 : decode cX8_count 68 = .ok (.invokevirtual 202, 3) := by decide +kernel
theorem dX8_count_71 : decode cX8_count 71 = .ok (.ireturn, 1) := by decide +kernel
theorem dX8_count_72 : decode cX8_count 72 = .ok (.aload_n 0, 1) := by decide +kernel
theorem dX8_count_73 : decode cX8_count 73 = .ok (.getfield 22, 3) := by decide +kernel
theorem dX8_count_76 : decode cX8_count 76 = .ok (.invokevirtual 72, 3) := by decide +kernel
theorem dX8_count_79 : decode cX8_count 79 = .ok (.ireturn, 1) := by decide +kernel
theorem dX8_count_80 : decode cX8_count 80 = .ok (.aload_n 0, 1) := by decide +kernel
theorem dX8_count_81 : decode cX8_count 81 = .ok (.getfield 29, 3) := by decide +kernel
theorem dX8_count_84 : decode cX8_count 84 = .ok (.invokevirtual 148, 3) := by decide +kernel
theorem dX8_count_87 : decode cX8_count 87 = .ok (.ireturn, 1) := by decide +kernel
theorem dX8_count_88 : decode cX8_count 88 = .ok (.iconst (-1), 1) := by decide +kernel
theorem dX8_count_89 : decode cX8_count 89 = .ok (.ireturn, 1) := by decide +kernel
theorem dX8_isClause_0 : decode cX8_isClause 0 = .ok (.iload_n 1, 1) := by decide +kernel
theorem dX8_isClause_1 : decode cX8_isClause 1 = .ok (.ifCond .lt 18, 3) := by decide +kernel
theorem dX8_isClause_4 : decode cX8_isClause 4 = .ok (.iload_n 1, 1) := by decide +kernel
theorem dX8_isClause_5 : decode cX8_isClause 5 = .ok (.aload_n 0, 1) := by decide +kernel
theorem dX8_isClause_6 : decode cX8_isClause 6 = .ok (.getfield 12, 3) := by decide +kernel
theorem dX8_isClause_9 : decode cX8_isClause 9 = .ok (.invokevirtual 190, 3) := by decide +kernel
theorem dX8_isClause_12 : decode cX8_isClause 12 = .ok (.if_icmp .ge 7, 3) := by decide +kernel
theorem dX8_isClause_15 : decode cX8_isClause 15 = .ok (.iconst 1, 1) := by decide +kernel
theorem dX8_isClause_16 : decode cX8_isClause 16 = .ok (.goto 4, 3) := by decide +kernel
theorem dX8_isClause_19 : decode cX8_isClause 19 = .ok (.iconst 0, 1) := by decide +kernel
theorem dX8_isClause_20 : decode cX8_isClause 20 = .ok (.ireturn, 1) := by decide +kernel
theorem dX8_isStatement_0 : decode cX8_isStatement 0 = .ok (.iload_n 1, 1) := by decide +kernel
theorem dX8_isStatement_1 : decode cX8_isStatement 1 = .ok (.ifCond .lt 18, 3) := by decide +kernel
theorem dX8_isStatement_4 : decode cX8_isStatement 4 = .ok (.iload_n 1, 1) := by decide +kernel
theorem dX8_isStatement_5 : decode cX8_isStatement 5 = .ok (.aload_n 0, 1) := by decide +kernel
theorem dX8_isStatement_6 : decode cX8_isStatement 6 = .ok (.getfield 12, 3) := by decide +kernel
theorem dX8_isStatement_9 : decode cX8_isStatement 9 = .ok (.invokevirtual 92, 3) := by decide +kernel
theorem dX8_isStatement_12 : decode cX8_isStatement 12 = .ok (.if_icmp .ge 7, 3) := by decide +kernel
theorem dX8_isStatement_15 : decode cX8_isStatement 15 = .ok (.iconst 1, 1) := by decide +kernel
theorem dX8_isStatement_16 : decode cX8_isStatement 16 = .ok (.goto 4, 3) := by decide +kernel
theorem dX8_isStatement_19 : decode cX8_isStatement 19 = .ok (.iconst 0, 1) := by decide +kernel
theorem dX8_isStatement_20 : decode cX8_isStatement 20 = .ok (.ireturn, 1) := by decide +kernel
theorem dX8_isTime_0 : decode cX8_isTime 0 = .ok (.iload_n 1, 1) := by decide +kernel
theorem dX8_isTime_1 : decode cX8_isTime 1 = .ok (.ifCond .lt 20, 3) := by decide +kernel
theorem dX8_isTime_4 : decode cX8_isTime 4 = .ok (.iload_n 1, 1) := by decide +kernel
theorem dX8_isTime_5 : decode cX8_isTime 5 = .ok (.iconst 2, 1) := by decide +kernel
theorem dX8_isTime_6 : decode cX8_isTime 6 = .ok (.aload_n 0, 1) := by decide +kernel
theorem dX8_isTime_7 : decode cX8_isTime 7 = .ok (.getfield 12, 3) := by decide +kernel
theorem dX8_isTime_10 : decode cX8_isTime 10 = .ok (.invokevirtual 190, 3) := by decide +kernel
theorem dX8_isTime_13 : decode cX8_isTime 13 = .ok (.imul, 1) := by decide +kernel
theorem dX8_isTime_14 : decode cX8_isTime 14 = .ok (.if_icmp .gt 7, 3) := by decide +kernel
theorem dX8_isTime_17 : decode cX8_isTime 17 = .ok (.iconst 1, 1) := by decide +kernel
theorem dX8_isTime_18 : decode cX8_isTime 18 = .ok (.goto 4, 3) := by decide +kernel
theorem dX8_isTime_21 : decode cX8_isTime 21 = .ok (.iconst 0, 1) := by decide +kernel
theorem dX8_isTime_22 : decode cX8_isTime 22 = .ok (.ireturn, 1) := by decide +kernel
theorem dX8_isNowOrEvent_0 : decode cX8_isNowOrEvent 0 = .ok (.aload_n 0, 1) := by decide +kernel
theorem dX8_isNowOrEvent_1 : decode cX8_isNowOrEvent 1 = .ok (.iload_n 1, 1) := by decide +kernel
theorem dX8_isNowOrEvent_2 : decode cX8_isNowOrEvent 2 = .ok (.invokevirtual 167, 3) := by decide +kernel
theorem dX8_isNowOrEvent_5 : decode cX8_isNowOrEvent 5 = .ok (.ifCond .eq 13, 3) := by decide +kernel
theorem dX8_isNowOrEvent_8 : decode cX8_isNowOrEvent 8 = .ok (.iload_n 1, 1) := by decide +kernel
theorem dX8_isNowOrEvent_9 : decode cX8_isNowOrEvent 9 = .ok (.iconst 2, 1) := by decide +kernel
theorem dX8_isNowOrEvent_10 : decode cX8_isNowOrEvent 10 = .ok (.irem, 1) := by decide +kernel
theorem dX8_isNowOrEvent_11 : decode cX8_isNowOrEvent 11 = .ok (.ifCond .ne 7, 3) := by decide +kernel
theorem dX8_isNowOrEvent_14 : decode cX8_isNowOrEvent 14 = .ok (.iconst 1, 1) := by decide +kernel
theorem dX8_isNowOrEvent_15 : decode cX8_isNowOrEvent 15 = .ok (.goto 4, 3) := by decide +kernel
theorem dX8_isNowOrEvent_18 : decode cX8_isNowOrEvent 18 = .ok (.iconst 0, 1) := by decide +kernel
theorem dX8_isNowOrEvent_19 : decode cX8_isNowOrEvent 19 = .ok (.ireturn, 1) := by decide +kernel
theorem dX8_canBeSaid_0 : decode cX8_canBeSaid 0 = .ok (.aload_n 0, 1) := by decide +kernel
theorem dX8_canBeSaid_1 : decode cX8_canBeSaid 1 = .ok (.iload_n 1, 1) := by decide +kernel
theorem dX8_canBeSaid_2 : decode cX8_canBeSaid 2 = .ok (.invokevirtual 222, 3) := by decide +kernel
theorem dX8_canBeSaid_5 : decode cX8_canBeSaid 5 = .ok (.ifCond .eq 29, 3) := by decide +kernel
theorem dX8_canBeSaid_8 : decode cX8_canBeSaid 8 = .ok (.aload_n 0, 1) := by decide +kernel
theorem dX8_canBeSaid_9 : decode cX8_canBeSaid 9 = .ok (.iload_n 3, 1) := by decide +kernel
theorem dX8_canBeSaid_10 : decode cX8_canBeSaid 10 = .ok (.invokevirtual 222, 3) := by decide +kernel
theorem dX8_canBeSaid_13 : decode cX8_canBeSaid 13 = .ok (.ifCond .eq 21, 3) := by decide +kernel
theorem dX8_canBeSaid_16 : decode cX8_canBeSaid 16 = .ok (.iload_n 1, 1) := by decide +kernel
theorem dX8_canBeSaid_17 : decode cX8_canBeSaid 17 = .ok (.iload_n 3, 1) := by decide +kernel
theorem dX8_canBeSaid_18 : decode cX8_canBeSaid 18 = .ok (.if_icmp .eq 16, 3) := by decide +kernel
theorem dX8_canBeSaid_21 : decode cX8_canBeSaid 21 = .ok (.iload_n 2, 1) := by decide +kernel
theorem dX8_canBeSaid_22 : decode cX8_canBeSaid 22 = .ok (.ifCond .lt 12, 3) := by decide +kernel
theorem dX8_canBeSaid_25 : decode cX8_canBeSaid 25 = .ok (.iload_n 2, 1) := by decide +kernel
theorem dX8_canBeSaid_26 : decode cX8_canBeSaid 26 = .ok (.iconst 2, 1) := by decide +kernel
theorem dX8_canBeSaid_27 : decode cX8_canBeSaid 27 = .ok (.if_icmp .ge 7, 3) := by decide +kernel
theorem dX8_canBeSaid_30 : decode cX8_canBeSaid 30 = .ok (.iconst 1, 1) := by decide +kernel
theorem dX8_canBeSaid_31 : decode cX8_canBeSaid 31 = .ok (.goto 4, 3) := by decide +kernel
theorem dX8_canBeSaid_34 : decode cX8_canBeSaid 34 = .ok (.iconst 0, 1) := by decide +kernel
theorem dX8_canBeSaid_35 : decode cX8_canBeSaid 35 = .ok (.ireturn, 1) := by decide +kernel
theorem dX8_orderAll_0 : decode cX8_orderAll 0 = .ok (.aload_n 0, 1) := by decide +kernel
theorem dX8_orderAll_1 : decode cX8_orderAll 1 = .ok (.aload_n 0, 1) := by decide +kernel
theorem dX8_orderAll_2 : decode cX8_orderAll 2 = .ok (.getfield 12, 3) := by decide +kernel
theorem dX8_orderAll_5 : decode cX8_orderAll 5 = .ok (.invokevirtual 203, 3) := by decide +kernel
theorem dX8_orderAll_8 : decode cX8_orderAll 8 = .ok (.invokevirtual 206, 3) := by decide +kernel
theorem dX8_orderAll_11 : decode cX8_orderAll 11 = .ok (.return_, 1) := by decide +kernel
theorem dX8_orderSet_0 : decode cX8_orderSet 0 = .ok (.aload_n 0, 1) := by decide +kernel
theorem dX8_orderSet_1 : decode cX8_orderSet 1 = .ok (.getfield 50, 3) := by decide +kernel
theorem dX8_orderSet_4 : decode cX8_orderSet 4 = .ok (.invokevirtual 225, 3) := by decide +kernel
theorem dX8_orderSet_7 : decode cX8_orderSet 7 = .ok (.iconst 0, 1) := by decide +kernel
theorem dX8_orderSet_8 : decode cX8_orderSet 8 = .ok (.istore_n 2, 1) := by decide +kernel
theorem dX8_orderSet_9 : decode cX8_orderSet 9 = .ok (.iload_n 2, 1) := by decide +kernel
theorem dX8_orderSet_10 : decode cX8_orderSet 10 = .ok (.aload_n 0, 1) := by decide +kernel
theorem dX8_orderSet_11 : decode cX8_orderSet 11 = .ok (.getfield 12, 3) := by decide +kernel
theorem dX8_orderSet_14 : decode cX8_orderSet 14 = .ok (.invokevirtual 92, 3) := by decide +kernel
theorem dX8_orderSet_17 : decode cX8_orderSet 17 = .ok (.if_icmp .ge 29, 3) := by decide +kernel
theorem dX8_orderSet_20 : decode cX8_orderSet 20 = .ok (.iload_n 1, 1) := by decide +kernel
theorem dX8_orderSet_21 : decode cX8_orderSet 21 = .ok (.iload_n 2, 1) := by decide +kernel
theorem dX8_orderSet_22 : decode cX8_orderSet 22 = .ok (.invokestatic 226, 3) := by decide +kernel
theorem dX8_orderSet_25 : decode cX8_orderSet 25 = .ok (.ifCond .eq 15, 3) := by decide +kernel
theorem dX8_orderSet_28 : decode cX8_orderSet 28 = .ok (.aload_n 0, 1) := by decide +kernel
theorem dX8_orderSet_29 : decode cX8_orderSet 29 = .ok (.getfield 12, 3) := by decide +kernel
theorem dX8_orderSet_32 : decode cX8_orderSet 32 = .ok (.iload_n 2, 1) := by decide +kernel
theorem dX8_orderSet_33 : decode cX8_orderSet 33 = .ok (.aload_n 0, 1) := by decide +kernel
theorem dX8_orderSet_34 : decode cX8_orderSet 34 = .ok (.getfield 50, 3) := by decide +kernel
theorem dX8_orderSet_37 : decode cX8_orderSet 37 = .ok (.invokevirtual 230, 3) := by decide +kernel
theorem dX8_orderSet_40 : decode cX8_orderSet 40 = .ok (.iinc 2 1, 3) := by decide +kernel
theorem dX8_orderSet_43 : decode cX8_orderSet 43 = .ok (.goto (-34), 3) := by decide +kernel
theorem dX8_orderSet_46 : decode cX8_orderSet 46 = .ok (.return_, 1) := by decide +kernel
theorem dX8_tallyAll_0 : decode cX8_tallyAll 0 = .ok (.aload_n 0, 1) := by decide +kernel
theorem dX8_tallyAll_1 : decode cX8_tallyAll 1 = .ok (.aload_n 0, 1) := by decide +kernel
theorem dX8_tallyAll_2 : decode cX8_tallyAll 2 = .ok (.getfield 12, 3) := by decide +kernel
theorem dX8_tallyAll_5 : decode cX8_tallyAll 5 = .ok (.invokevirtual 203, 3) := by decide +kernel
theorem dX8_tallyAll_8 : decode cX8_tallyAll 8 = .ok (.invokevirtual 206, 3) := by decide +kernel
theorem dX8_tallyAll_11 : decode cX8_tallyAll 11 = .ok (.aload_n 0, 1) := by decide +kernel
theorem dX8_tallyAll_12 : decode cX8_tallyAll 12 = .ok (.getfield 64, 3) := by decide +kernel
theorem dX8_tallyAll_15 : decode cX8_tallyAll 15 = .ok (.aload_n 0, 1) := by decide +kernel
theorem dX8_tallyAll_16 : decode cX8_tallyAll 16 = .ok (.getfield 50, 3) := by decide +kernel
theorem dX8_tallyAll_19 : decode cX8_tallyAll 19 = .ok (.aload_n 0, 1) := by decide +kernel
theorem dX8_tallyAll_20 : decode cX8_tallyAll 20 = .ok (.getfield 12, 3) := by decide +kernel
theorem dX8_tallyAll_23 : decode cX8_tallyAll 23 = .ok (.invokevirtual 190, 3) := by decide +kernel
theorem dX8_tallyAll_26 : decode cX8_tallyAll 26 = .ok (.invokevirtual 234, 3) := by decide +kernel
theorem dX8_tallyAll_29 : decode cX8_tallyAll 29 = .ok (.return_, 1) := by decide +kernel
theorem dX8_lookOf_0 : decode cX8_lookOf 0 = .ok (.iconst 1, 1) := by decide +kernel
theorem dX8_lookOf_1 : decode cX8_lookOf 1 = .ok (.iconst 2, 1) := by decide +kernel
theorem dX8_lookOf_2 : decode cX8_lookOf 2 = .ok (.iload_n 0, 1) := by decide +kernel
theorem dX8_lookOf_3 : decode cX8_lookOf 3 = .ok (.imul, 1) := by decide +kernel
theorem dX8_lookOf_4 : decode cX8_lookOf 4 = .ok (.iadd, 1) := by decide +kernel
theorem dX8_lookOf_5 : decode cX8_lookOf 5 = .ok (.ireturn, 1) := by decide +kernel
theorem dX8_eventOf_0 : decode cX8_eventOf 0 = .ok (.iconst 2, 1) := by decide +kernel
theorem dX8_eventOf_1 : decode cX8_eventOf 1 = .ok (.iconst 2, 1) := by decide +kernel
theorem dX8_eventOf_2 : decode cX8_eventOf 2 = .ok (.iload_n 0, 1) := by decide +kernel
theorem dX8_eventOf_3 : decode cX8_eventOf 3 = .ok (.imul, 1) := by decide +kernel
theorem dX8_eventOf_4 : decode cX8_eventOf 4 = .ok (.iadd, 1) := by decide +kernel
theorem dX8_eventOf_5 : decode cX8_eventOf 5 = .ok (.ireturn, 1) := by decide +kernel
theorem dX8_has_0 : decode cX8_has 0 = .ok (.iload_n 0, 1) := by decide +kernel
theorem dX8_has_1 : decode cX8_has 1 = .ok (.iload_n 1, 1) := by decide +kernel
theorem dX8_has_2 : decode cX8_has 2 = .ok (.ishr, 1) := by decide +kernel
theorem dX8_has_3 : decode cX8_has 3 = .ok (.iconst 1, 1) := by decide +kernel
theorem dX8_has_4 : decode cX8_has 4 = .ok (.iand, 1) := by decide +kernel
theorem dX8_has_5 : decode cX8_has 5 = .ok (.iconst 1, 1) := by decide +kernel
theorem dX8_has_6 : decode cX8_has 6 = .ok (.if_icmp .ne 7, 3) := by decide +kernel
theorem dX8_has_9 : decode cX8_has 9 = .ok (.iconst 1, 1) := by decide +kernel
theorem dX8_has_10 : decode cX8_has 10 = .ok (.goto 4, 3) := by decide +kernel
theorem dX8_has_13 : decode cX8_has 13 = .ok (.iconst 0, 1) := by decide +kernel
theorem dX8_has_14 : decode cX8_has 14 = .ok (.ireturn, 1) := by decide +kernel
end
section
theorem dX9_init_0 : decode cX9_init 0 = .ok (.aload_n 0, 1) := by decide +kernel
theorem dX9_init_1 : decode cX9_init 1 = .ok (.invokespecial 1, 3) := by decide +kernel
theorem dX9_init_4 : decode cX9_init 4 = .ok (.aload_n 0, 1) := by decide +kernel
theorem dX9_init_5 : decode cX9_init 5 = .ok (.bipush 74, 2) := by decide +kernel
theorem dX9_init_7 : decode cX9_init 7 = .ok (.newarray .int, 2) := by decide +kernel
theorem dX9_init_9 : decode cX9_init 9 = .ok (.putfield 7, 3) := by decide +kernel
theorem dX9_init_12 : decode cX9_init 12 = .ok (.aload_n 0, 1) := by decide +kernel
theorem dX9_init_13 : decode cX9_init 13 = .ok (.bipush 74, 2) := by decide +kernel
theorem dX9_init_15 : decode cX9_init 15 = .ok (.newarray .int, 2) := by decide +kernel
theorem dX9_init_17 : decode cX9_init 17 = .ok (.putfield 13, 3) := by decide +kernel
theorem dX9_init_20 : decode cX9_init 20 = .ok (.aload_n 0, 1) := by decide +kernel
theorem dX9_init_21 : decode cX9_init 21 = .ok (.sipush 740, 3) := by decide +kernel
theorem dX9_init_24 : decode cX9_init 24 = .ok (.newarray .int, 2) := by decide +kernel
theorem dX9_init_26 : decode cX9_init 26 = .ok (.putfield 16, 3) := by decide +kernel
theorem dX9_init_29 : decode cX9_init 29 = .ok (.aload_n 0, 1) := by decide +kernel
theorem dX9_init_30 : decode cX9_init 30 = .ok (.sipush 148, 3) := by decide +kernel
theorem dX9_init_33 : decode cX9_init 33 = .ok (.newarray .int, 2) := by decide +kernel
theorem dX9_init_35 : decode cX9_init 35 = .ok (.putfield 19, 3) := by decide +kernel
theorem dX9_init_38 : decode cX9_init 38 = .ok (.aload_n 0, 1) := by decide +kernel
theorem dX9_init_39 : decode cX9_init 39 = .ok (.iconst 2, 1) := by decide +kernel
theorem dX9_init_40 : decode cX9_init 40 = .ok (.newarray .boolean, 2) := by decide +kernel
theorem dX9_init_42 : decode cX9_init 42 = .ok (.putfield 22, 3) := by decide +kernel
theorem dX9_init_45 : decode cX9_init 45 = .ok (.aload_n 0, 1) := by decide +kernel
theorem dX9_init_46 : decode cX9_init 46 = .ok (.bipush 6, 2) := by decide +kernel
theorem dX9_init_48 : decode cX9_init 48 = .ok (.newarray .int, 2) := by decide +kernel
theorem dX9_init_50 : decode cX9_init 50 = .ok (.putfield 26, 3) := by decide +kernel
theorem dX9_init_53 : decode cX9_init 53 = .ok (.aload_n 0, 1) := by decide +kernel
theorem dX9_init_54 : decode cX9_init 54 = .ok (.bipush 6, 2) := by decide +kernel
theorem dX9_init_56 : decode cX9_init 56 = .ok (.newarray .int, 2) := by decide +kernel
theorem dX9_init_58 : decode cX9_init 58 = .ok (.putfield 29, 3) := by decide +kernel
theorem dX9_init_61 : decode cX9_init 61 = .ok (.aload_n 0, 1) := by decide +kernel
theorem dX9_init_62 : decode cX9_init 62 = .ok (.bipush 6, 2) := by decide +kernel
theorem dX9_init_64 : decode cX9_init 64 = .ok (.newarray .int, 2) := by decide +kernel
theorem dX9_init_66 : decode cX9_init 66 = .ok (.putfield 32, 3) := by decide +kernel
theorem dX9_init_69 : decode cX9_init 69 = .ok (.aload_n 0, 1) := by decide +kernel
theorem dX9_init_70 : decode cX9_init 70 = .ok (.bipush 80, 2) := by decide +kernel
theorem dX9_init_72 : decode cX9_init 72 = .ok (.newarray .int, 2) := by decide +kernel
theorem dX9_init_74 : decode cX9_init 74 = .ok (.putfield 35, 3) := by decide +kernel
theorem dX9_init_77 : decode cX9_init 77 = .ok (.aload_n 0, 1) := by decide +kernel
theorem dX9_init_78 : decode cX9_init 78 = .ok (.bipush 17, 2) := by decide +kernel
theorem dX9_init_80 : decode cX9_init 80 = .ok (.newarray .int, 2) := by decide +kernel
theorem dX9_init_82 : decode cX9_init 82 = .ok (.putfield 38, 3) := by decide +kernel
theorem dX9_init_85 : decode cX9_init 85 = .ok (.aload_n 0, 1) := by decide +kernel
theorem dX9_init_86 : decode cX9_init 86 = .ok (.bipush 17, 2) := by decide +kernel
theorem dX9_init_88 : decode cX9_init 88 = .ok (.newarray .int, 2) := by decide +kernel
theorem dX9_init_90 : decode cX9_init 90 = .ok (.putfield 41, 3) := by decide +kernel
theorem dX9_init_93 : decode cX9_init 93 = .ok (.aload_n 0, 1) := by decide +kernel
theorem dX9_init_94 : decode cX9_init 94 = .ok (.bipush 17, 2) := by decide +kernel
theorem dX9_init_96 : decode cX9_init 96 = .ok (.newarray .int, 2) := by decide +kernel
theorem dX9_init_98 : decode cX9_init 98 = .ok (.putfield 44, 3) := by decide +kernel
theorem dX9_init_101 : decode cX9_init 101 = .ok (.aload_n 0, 1) := by decide +kernel
theorem dX9_init_102 : decode cX9_init 102 = .ok (.bipush 17, 2) := by decide +kernel
theorem dX9_init_104 : decode cX9_init 104 = .ok (.newarray .int, 2) := by decide +kernel
theorem dX9_init_106 : decode cX9_init 106 = .ok (.putfield 47, 3) := by decide +kernel
theorem dX9_init_109 : decode cX9_init 109 = .ok (.aload_n 0, 1) := by decide +kernel
theorem dX9_init_110 : decode cX9_init 110 = .ok (.sipush 256, 3) := by decide +kernel
theorem dX9_init_113 : decode cX9_init 113 = .ok (.newarray .int, 2) := by decide +kernel
theorem dX9_init_115 : decode cX9_init 115 = .ok (.putfield 50, 3) := by decide +kernel
theorem dX9_init_118 : decode cX9_init 118 = .ok (.aload_n 0, 1) := by decide +kernel
theorem dX9_init_119 : decode cX9_init 119 = .ok (.bipush 8, 2) := by decide +kernel
theorem dX9_init_121 : decode cX9_init 121 = .ok (.newarray .int, 2) := by decide +kernel
theorem dX9_init_123 : decode cX9_init 123 = .ok (.putfield 53, 3) := by decide +kernel
theorem dX9_init_126 : decode cX9_init 126 = .ok (.aload_n 0, 1) := by decide +kernel
theorem dX9_init_127 : decode cX9_init 127 = .ok (.bipush 8, 2) := by decide +kernel
theorem dX9_init_129 : decode cX9_init 129 = .ok (.newarray .int, 2) := by decide +kernel
theorem dX9_init_131 : decode cX9_init 131 = .ok (.putfield 56, 3) := by decide +kernel
theorem dX9_init_134 : decode cX9_init 134 = .ok (.aload_n 0, 1) := by decide +kernel
theorem dX9_init_135 : decode cX9_init 135 = .ok (.iconst 0, 1) := by decide +kernel
theorem dX9_init_136 : decode cX9_init 136 = .ok (.putfield 59, 3) := by decide +kernel
theorem dX9_init_139 : decode cX9_init 139 = .ok (.return_, 1) := by decide +kernel
theorem dX9_in_0 : decode cX9_in 0 = .ok (.iload_n 0, 1) := by decide +kernel
theorem dX9_in_1 : decode cX9_in 1 = .ok (.iload_n 1, 1) := by decide +kernel
theorem dX9_in_2 : decode cX9_in 2 = .ok (.if_icmp .lt 12, 3) := by decide +kernel
theorem dX9_in_5 : decode cX9_in 5 = .ok (.iload_n 0, 1) := by decide +kernel
theorem dX9_in_6 : decode cX9_in 6 = .ok (.iload_n 2, 1) := by decide +kernel
theorem dX9_in_7 : decode cX9_in 7 = .ok (.if_icmp .gt 7, 3) := by decide +kernel
theorem dX9_in_10 : decode cX9_in 10 = .ok (.iconst 1, 1) := by decide +kernel
theorem dX9_in_11 : decode cX9_in 11 = .ok (.goto 4, 3) := by decide +kernel
theorem dX9_in_14 : decode cX9_in 14 = .ok (.iconst 0, 1) := by decide +kernel
theorem dX9_in_15 : decode cX9_in 15 = .ok (.ireturn, 1) := by decide +kernel
theorem dX9_isClause_0 : decode cX9_isClause 0 = .ok (.iload_n 1, 1) := by decide +kernel
theorem dX9_isClause_1 : decode cX9_isClause 1 = .ok (.iconst 0, 1) := by decide +kernel
theorem dX9_isClause_2 : decode cX9_isClause 2 = .ok (.aload_n 0, 1) := by decide +kernel
theorem dX9_isClause_3 : decode cX9_isClause 3 = .ok (.getfield 7, 3) := by decide +kernel
theorem dX9_isClause_6 : decode cX9_isClause 6 = .ok (.iconst 0, 1) := by decide +kernel
theorem dX9_isClause_7 : decode cX9_isClause 7 = .ok (.iaload, 1) := by decide +kernel
theorem dX9_isClause_8 : decode cX9_isClause 8 = .ok (.iconst 1, 1) := by decide +kernel
theorem dX9_isClause_9 : decode cX9_isClause 9 = .ok (.isub, 1) := by decide +kernel
theorem dX9_isClause_10 : decode cX9_isClause 10 = .ok (.invokestatic 66, 3) := by decide +kernel
theorem dX9_isClause_13 : decode cX9_isClause 13 = .ok (.ireturn, 1) := by decide +kernel
theorem dX9_isStatement_0 : decode cX9_isStatement 0 = .ok (.iload_n 1, 1) := by decide +kernel
theorem dX9_isStatement_1 : decode cX9_isStatement 1 = .ok (.iconst 0, 1) := by decide +kernel
theorem dX9_isStatement_2 : decode cX9_isStatement 2 = .ok (.aload_n 0, 1) := by decide +kernel
theorem dX9_isStatement_3 : decode cX9_isStatement 3 = .ok (.getfield 7, 3) := by decide +kernel
theorem dX9_isStatement_6 : decode cX9_isStatement 6 = .ok (.iconst 1, 1) := by decide +kernel
theorem dX9_isStatement_7 : decode cX9_isStatement 7 = .ok (.iaload, 1) := by decide +kernel
theorem dX9_isStatement_8 : decode cX9_isStatement 8 = .ok (.iconst 1, 1) := by decide +kernel
theorem dX9_isStatement_9 : decode cX9_isStatement 9 = .ok (.isub, 1) := by decide +kernel
theorem dX9_isStatement_10 : decode cX9_isStatement 10 = .ok (.invokestatic 66, 3) := by decide +kernel
theorem dX9_isStatement_13 : decode cX9_isStatement 13 = .ok (.ireturn, 1) := by decide +kernel
theorem dX9_isTime_0 : decode cX9_isTime 0 = .ok (.iload_n 1, 1) := by decide +kernel
theorem dX9_isTime_1 : decode cX9_isTime 1 = .ok (.iconst 0, 1) := by decide +kernel
theorem dX9_isTime_2 : decode cX9_isTime 2 = .ok (.iconst 2, 1) := by decide +kernel
theorem dX9_isTime_3 : decode cX9_isTime 3 = .ok (.aload_n 0, 1) := by decide +kernel
theorem dX9_isTime_4 : decode cX9_isTime 4 = .ok (.getfield 7, 3) := by decide +kernel
theorem dX9_isTime_7 : decode cX9_isTime 7 = .ok (.iconst 0, 1) := by decide +kernel
theorem dX9_isTime_8 : decode cX9_isTime 8 = .ok (.iaload, 1) := by decide +kernel
theorem dX9_isTime_9 : decode cX9_isTime 9 = .ok (.imul, 1) := by decide +kernel
theorem dX9_isTime_10 : decode cX9_isTime 10 = .ok (.invokestatic 66, 3) := by decide +kernel
theorem dX9_isTime_13 : decode cX9_isTime 13 = .ok (.ireturn, 1) := by decide +kernel
theorem dX9_isSaid_0 : decode cX9_isSaid 0 = .ok (.aload_n 0, 1) := by decide +kernel
theorem dX9_isSaid_1 : decode cX9_isSaid 1 = .ok (.iload_n 1, 1) := by decide +kernel
theorem dX9_isSaid_2 : decode cX9_isSaid 2 = .ok (.invokevirtual 70, 3) := by decide +kernel
theorem dX9_isSaid_5 : decode cX9_isSaid 5 = .ok (.ifCond .eq 13, 3) := by decide +kernel
theorem dX9_isSaid_8 : decode cX9_isSaid 8 = .ok (.iload_n 1, 1) := by decide +kernel
theorem dX9_isSaid_9 : decode cX9_isSaid 9 = .ok (.iconst 2, 1) := by decide +kernel
theorem dX9_isSaid_10 : decode cX9_isSaid 10 = .ok (.irem, 1) := by decide +kernel
theorem dX9_isSaid_11 : decode cX9_isSaid 11 = .ok (.ifCond .ne 7, 3) := by decide +kernel
theorem dX9_isSaid_14 : decode cX9_isSaid 14 = .ok (.iconst 1, 1) := by decide +kernel
theorem dX9_isSaid_15 : decode cX9_isSaid 15 = .ok (.goto 4, 3) := by decide +kernel
theorem dX9_isSaid_18 : decode cX9_isSaid 18 = .ok (.iconst 0, 1) := by decide +kernel
theorem dX9_isSaid_19 : decode cX9_isSaid 19 = .ok (.ireturn, 1) := by decide +kernel
theorem dX9_ofStatement_0 : decode cX9_ofStatement 0 = .ok (.aload_n 0, 1) := by decide +kernel
theorem dX9_ofStatement_1 : decode cX9_ofStatement 1 = .ok (.getfield 7, 3) := by decide +kernel
theorem dX9_ofStatement_4 : decode cX9_ofStatement 4 = .ok (.bipush 18, 2) := by decide +kernel
theorem dX9_ofStatement_6 : decode cX9_ofStatement 6 = .ok (.iconst 4, 1) := by decide +kernel
theorem dX9_ofStatement_7 : decode cX9_ofStatement 7 = .ok (.iload_n 1, 1) := by decide +kernel
theorem dX9_ofStatement_8 : decode cX9_ofStatement 8 = .ok (.imul, 1) := by decide +kernel
theorem dX9_ofStatement_9 : decode cX9_ofStatement 9 = .ok (.iadd, 1) := by decide +kernel
theorem dX9_ofStatement_10 : decode cX9_ofStatement 10 = .ok (.iload_n 2, 1) := by decide +kernel
theorem dX9_ofStatement_11 : decode cX9_ofStatement 11 = .ok (.iadd, 1) := by decide +kernel
theorem dX9_ofStatement_12 : decode cX9_ofStatement 12 = .ok (.iaload, 1) := by decide +kernel
theorem dX9_ofStatement_13 : decode cX9_ofStatement 13 = .ok (.ireturn, 1) := by decide +kernel
theorem dX9_sayings_0 : decode cX9_sayings 0 = .ok (.aload_n 0, 1) := by decide +kernel
theorem dX9_sayings_1 : decode cX9_sayings 1 = .ok (.getfield 7, 3) := by decide +kernel
theorem dX9_sayings_4 : decode cX9_sayings 4 = .ok (.iconst 1, 1) := by decide +kernel
theorem dX9_sayings_5 : decode cX9_sayings 5 = .ok (.iaload, 1) := by decide +kernel
theorem dX9_sayings_6 : decode cX9_sayings 6 = .ok (.aload_n 0, 1) := by decide +kernel
theorem dX9_sayings_7 : decode cX9_sayings 7 = .ok (.getfield 7, 3) := by decide +kernel
theorem dX9_sayings_10 : decode cX9_sayings 10 = .ok (.iconst 0, 1) := by decide +kernel
theorem dX9_sayings_11 : decode cX9_sayings 11 = .ok (.iaload, 1) := by decide +kernel
theorem dX9_sayings_12 : decode cX9_sayings 12 = .ok (.isub, 1) := by decide +kernel
theorem dX9_sayings_13 : decode cX9_sayings 13 = .ok (.ireturn, 1) := by decide +kernel
theorem dX9_all_0 : decode cX9_all 0 = .ok (.iconst 1, 1) := by decide +kernel
theorem dX9_all_1 : decode cX9_all 1 = .ok (.aload_n 0, 1) := by decide +kernel
theorem dX9_all_2 : decode cX9_all 2 = .ok (.getfield 7, 3) := by decide +kernel
theorem dX9_all_5 : decode cX9_all 5 = .ok (.iconst 1, 1) := by decide +kernel
theorem dX9_all_6 : decode cX9_all 6 = .ok (.iaload, 1) := by decide +kernel
theorem dX9_all_7 : decode cX9_all 7 = .ok (.ishl, 1) := by decide +kernel
theorem dX9_all_8 : decode cX9_all 8 = .ok (.iconst 1, 1) := by decide +kernel
theorem dX9_all_9 : decode cX9_all 9 = .ok (.isub, 1) := by decide +kernel
theorem dX9_all_10 : decode cX9_all 10 = .ok (.ireturn, 1) := by decide +kernel
theorem dX9_type_0 : decode cX9_type 0 = .ok (.aload_n 0, 1) := by decide +kernel
theorem dX9_type_1 : decode cX9_type 1 = .ok (.iconst 0, 1) := by decide +kernel
theorem dX9_type_2 : decode cX9_type 2 = .ok (.putfield 63, 3) := by decide +kernel
theorem dX9_type_5 : decode cX9_type 5 = .ok (.iload_n 1, 1) := by decide +kernel
theorem dX9_type_6 : decode cX9_type 6 = .ok (.iconst 0, 1) := by decide +kernel
theorem dX9_type_7 : decode cX9_type 7 = .ok (.sipush 255, 3) := by decide +kernel
theorem dX9_type_10 : decode cX9_type 10 = .ok (.invokestatic 66, 3) := by decide +kernel
theorem dX9_type_13 : decode cX9_type 13 = .ok (.ifCond .ne 5, 3) := by decide +kernel
theorem dX9_type_16 : decode cX9_type 16 = .ok (.iconst (-1), 1) := by decide +kernel
theorem dX9_type_17 : decode cX9_type 17 = .ok (.ireturn, 1) := by decide +kernel
theorem dX9_type_18 : decode cX9_type 18 = .ok (.aload_n 0, 1) := by decide +kernel
theorem dX9_type_19 : decode cX9_type 19 = .ok (.getfield 74, 3) := by decide +kernel
theorem dX9_type_22 : decode cX9_type 22 = .ok (.bipush 80, 2) := by decide +kernel
theorem dX9_type_24 : decode cX9_type 24 = .ok (.if_icmp .ne 6, 3) := by decide +kernel
theorem dX9_type_27 : decode cX9_type 27 = .ok (.bipush (-3), 2) := by decide +kernel
theorem dX9_type_29 : decode cX9_type 29 = .ok (.ireturn, 1) := by decide +kernel
theorem dX9_type_30 : decode cX9_type 30 = .ok (.aload_n 0, 1) := by decide +kernel
theorem dX9_type_31 : decode cX9_type 31 = .ok (.getfield 35, 3) := by decide +kernel
theorem dX9_type_34 : decode cX9_type 34 = .ok (.aload_n 0, 1) := by decide +kernel
theorem dX9_type_35 : decode cX9_type 35 = .ok (.getfield 74, 3) := by decide +kernel
theorem dX9_type_38 : decode cX9_type 38 = .ok (.iload_n 1, 1) := by decide +kernel
theorem dX9_type_39 : decode cX9_type 39 = .ok (.iastore, 1) := by decide +kernel
theorem dX9_type_40 : decode cX9_type 40 = .ok (.aload_n 0, 1) := by decide +kernel
theorem dX9_type_41 : decode cX9_type 41 = .ok (.dup, 1) := by decide +kernel
theorem dX9_type_42 : decode cX9_type 42 = .ok (.getfield 74, 3) := by decide +kernel
theorem dX9_type_45 : decode cX9_type 45 = .ok (.iconst 1, 1) := by decide +kernel
theorem dX9_type_46 : decode cX9_type 46 = .ok (.iadd, 1) := by decide +kernel
theorem dX9_type_47 : decode cX9_type 47 = .ok (.putfield 74, 3) := by decide +kernel
theorem dX9_type_50 : decode cX9_type 50 = .ok (.aload_n 0, 1) := by decide +kernel
theorem dX9_type_51 : decode cX9_type 51 = .ok (.getfield 74, 3) := by decide +kernel
theorem dX9_type_54 : decode cX9_type 54 = .ok (.ireturn, 1) := by decide +kernel
theorem dX9_clear_0 : decode cX9_clear 0 = .ok (.aload_n 0, 1) := by decide +kernel
theorem dX9_clear_1 : decode cX9_clear 1 = .ok (.iconst 0, 1) := by decide +kernel
theorem dX9_clear_2 : decode cX9_clear 2 = .ok (.putfield 63, 3) := by decide +kernel
theorem dX9_clear_5 : decode cX9_clear 5 = .ok (.aload_n 0, 1) := by decide +kernel
theorem dX9_clear_6 : decode cX9_clear 6 = .ok (.getfield 74, 3) := by decide +kernel
theorem dX9_clear_9 : decode cX9_clear 9 = .ok (.istore_n 1, 1) := by decide +kernel
theorem dX9_clear_10 : decode cX9_clear 10 = .ok (.aload_n 0, 1) := by decide +kernel
theorem dX9_clear_11 : decode cX9_clear 11 = .ok (.iconst 0, 1) := by decide +kernel
theorem dX9_clear_12 : decode cX9_clear 12 = .ok (.putfield 74, 3) := by decide +kernel
theorem dX9_clear_15 : decode cX9_clear 15 = .ok (.iload_n 1, 1) := by decide +kernel
theorem dX9_clear_16 : decode cX9_clear 16 = .ok (.ireturn, 1) := by decide +kernel
theorem dX9_here_0 : decode cX9_here 0 = .ok (.aload_n 0, 1) := by decide +kernel
theorem dX9_here_1 : decode cX9_here 1 = .ok (.getfield 77, 3) := by decide +kernel
theorem dX9_here_4 : decode cX9_here 4 = .ok (.aload_n 0, 1) := by decide +kernel
theorem dX9_here_5 : decode cX9_here 5 = .ok (.getfield 74, 3) := by decide +kernel
theorem dX9_here_8 : decode cX9_here 8 = .ok (.if_icmp .ge 30, 3) := by decide +kernel
theorem dX9_here_11 : decode cX9_here 11 = .ok (.aload_n 0, 1) := by decide +kernel
theorem dX9_here_12 : decode cX9_here 12 = .ok (.getfield 35, 3) := by decide +kernel
theorem dX9_here_15 : decode cX9_here 15 = .ok (.aload_n 0, 1) := by decide +kernel
theorem dX9_here_16 : decode cX9_here 16 = .ok (.getfield 77, 3) := by decide +kernel
theorem dX9_here_19 : decode cX9_here 19 = .ok (.iaload, 1) := by decide +kernel
theorem dX9_here_20 : decode cX9_here 20 = .ok (.bipush 32, 2) := by decide +kernel
theorem dX9_here_22 : decode cX9_here 22 = .ok (.if_icmp .ne 16, 3) := by decide +kernel
theorem dX9_here_25 : decode cX9_here 25 = .ok (.aload_n 0, 1) := by decide +kernel
theorem dX9_here_26 : decode cX9_here 26 = .ok (.dup, 1) := by decide +kernel
theorem dX9_here_27 : decode cX9_here 27 = .ok (.getfield 77, 3) := by decide +kernel
theorem dX9_here_30 : decode cX9_here 30 = .ok (.iconst 1, 1) := by decide +kernel
theorem dX9_here_31 : decode cX9_here 31 = .ok (.iadd, 1) := by decide +kernel
theorem dX9_here_32 : decode cX9_here 32 = .ok (.putfield 77, 3) := by decide +kernel
theorem dX9_here_35 : decode cX9_here 35 = .ok (.goto (-35), 3) := by decide +kernel
theorem dX9_here_38 : decode cX9_here 38 = .ok (.aload_n 0, 1) := by decide +kernel
theorem dX9_here_39 : decode cX9_here 39 = .ok (.getfield 77, 3) := by decide +kernel
theorem dX9_here_42 : decode cX9_here 42 = .ok (.aload_n 0, 1) := by decide +kernel
theorem dX9_here_43 : decode cX9_here 43 = .ok (.getfield 74, 3) := by decide +kernel
theorem dX9_here_46 : decode cX9_here 46 = .ok (.if_icmp .ge 15, 3) := by decide +kernel
theorem dX9_here_49 : decode cX9_here 49 = .ok (.aload_n 0, 1) := by decide +kernel
theorem dX9_here_50 : decode cX9_here 50 = .ok (.getfield 35, 3) := by decide +kernel
theorem dX9_here_53 : decode cX9_here 53 = .ok (.aload_n 0, 1) := by decide +kernel
theorem dX9_here_54 : decode cX9_here 54 = .ok (.getfield 77, 3) := by decide +kernel
theorem dX9_here_57 : decode cX9_here 57 = .ok (.iaload, 1) := by decide +kernel
theorem dX9_here_58 : decode cX9_here 58 = .ok (.goto 4, 3) := by decide +kernel
theorem dX9_here_61 : decode cX9_here 61 = .ok (.iconst (-1), 1) := by decide +kernel
theorem dX9_here_62 : decode cX9_here 62 = .ok (.ireturn, 1) := by decide +kernel
theorem dX9_tenseOf_0 : decode cX9_tenseOf 0 = .ok (.iload_n 0, 1) := by decide +kernel
theorem dX9_tenseOf_1 : decode cX9_tenseOf 1 = .ok (.tableswitch 113 100 119 #[95, 113, 107, 105, 97, 113, 113, 113, 113, 113, 113, 113, 101, 113, 113, 113, 113, 110, 103, 99], 95) := by decide +kernel
theorem dX9_tenseOf_96 : decode cX9_tenseOf 96 = .ok (.iconst 0, 1) := by decide +kernel
theorem dX9_tenseOf_97 : decode cX9_tenseOf 97 = .ok (.ireturn, 1) := by decide +kernel
theorem dX9_tenseOf_98 : decode cX9_tenseOf 98 = .ok (.iconst 1, 1) := by decide +kernel
theorem dX9_tenseOf_99 : decode cX9_tenseOf 99 = .ok (.ireturn, 1) := by decide +kernel
theorem dX9_tenseOf_100 : decode cX9_tenseOf 100 = .ok (.iconst 2, 1) := by decide +kernel
theorem dX9_tenseOf_101 : decode cX9_tenseOf 101 = .ok (.ireturn, 1) := by decide +kernel
theorem dX9_tenseOf_102 : decode cX9_tenseOf 102 = .ok (.iconst 3, 1) := by decide +kernel
theorem dX9_tenseOf_103 : decode cX9_tenseOf 103 = .ok (.ireturn, 1) := by decide +kernel
theorem dX9_tenseOf_104 : decode cX9_tenseOf 104 = .ok (.iconst 4, 1) := by decide +kernel
theorem dX9_tenseOf_105 : decode cX9_tenseOf 105 = .ok (.ireturn, 1) := by decide +kernel
theorem dX9_tenseOf_106 : decode cX9_tenseOf 106 = .ok (.iconst 5, 1) := by decide +kernel
theorem dX9_tenseOf_107 : decode cX9_tenseOf 107 = .ok (.ireturn, 1) := by decide +kernel
theorem dX9_tenseOf_108 : decode cX9_tenseOf 108 = .ok (.bipush 6, 2) := by decide +kernel
theorem dX9_tenseOf_110 : decode cX9_tenseOf 110 = .ok (.ireturn, 1) := by decide +kernel
theorem dX9_tenseOf_111 : decode cX9_tenseOf 111 = .ok (.bipush 7, 2) := by decide +kernel
theorem dX9_tenseOf_113 : decode cX9_tenseOf 113 = .ok (.ireturn, 1) := by decide +kernel
theorem dX9_tenseOf_114 : decode cX9_tenseOf 114 = .ok (.bipush (-9), 2) := by decide +kernel
theorem dX9_tenseOf_116 : decode cX9_tenseOf 116 = .ok (.ireturn, 1) := by decide +kernel
theorem dX9_linkOf_0 : decode cX9_linkOf 0 = .ok (.iload_n 0, 1) := by decide +kernel
theorem dX9_linkOf_1 : decode cX9_linkOf 1 = .ok (.bipush 43, 2) := by decide +kernel
theorem dX9_linkOf_3 : decode cX9_linkOf 3 = .ok (.if_icmp .ne 7, 3) := by decide +kernel
theorem dX9_linkOf_6 : decode cX9_linkOf 6 = .ok (.iconst 0, 1) := by decide +kernel
theorem dX9_linkOf_7 : decode cX9_linkOf 7 = .ok (.goto 35, 3) := by decide +kernel
theorem dX9_linkOf_10 : decode cX9_linkOf 10 = .ok (.iload_n 0, 1) := by decide +kernel
theorem dX9_linkOf_11 : decode cX9_linkOf 11 = .ok (.bipush 61, 2) := by decide +kernel
theorem dX9_linkOf_13 : decode cX9_linkOf 13 = .ok (.if_icmp .ne 7, 3) := by decide +kernel
theorem dX9_linkOf_16 : decode cX9_linkOf 16 = .ok (.iconst 1, 1) := by decide +kernel
theorem dX9_linkOf_17 : decode cX9_linkOf 17 = .ok (.goto 25, 3) := by decide +kernel
theorem dX9_linkOf_20 : decode cX9_linkOf 20 = .ok (.iload_n 0, 1) := by decide +kernel
theorem dX9_linkOf_21 : decode cX9_linkOf 21 = .ok (.bipush 45, 2) := by decide +kernel
theorem dX9_linkOf_23 : decode cX9_linkOf 23 = .ok (.if_icmp .ne 7, 3) := by decide +kernel
theorem dX9_linkOf_26 : decode cX9_linkOf 26 = .ok (.iconst 2, 1) := by decide +kernel
theorem dX9_linkOf_27 : decode cX9_linkOf 27 = .ok (.goto 15, 3) := by decide +kernel
theorem dX9_linkOf_30 : decode cX9_linkOf 30 = .ok (.iload_n 0, 1) := by decide +kernel
theorem dX9_linkOf_31 : decode cX9_linkOf 31 = .ok (.bipush 47, 2) := by decide +kernel
theorem dX9_linkOf_33 : decode cX9_linkOf 33 = .ok (.if_icmp .ne 7, 3) := by decide +kernel
theorem dX9_linkOf_36 : decode cX9_linkOf 36 = .ok (.iconst 3, 1) := by decide +kernel
theorem dX9_linkOf_37 : decode cX9_linkOf 37 = .ok (.goto 5, 3) := by decide +kernel
theorem dX9_linkOf_40 : decode cX9_linkOf 40 = .ok (.bipush (-9), 2) := by decide +kernel
theorem dX9_linkOf_42 : decode cX9_linkOf 42 = .ok (.ireturn, 1) := by decide +kernel
theorem dX9_timeOf_0 : decode cX9_timeOf 0 = .ok (.iload_n 1, 1) := by decide +kernel
theorem dX9_timeOf_1 : decode cX9_timeOf 1 = .ok (.bipush 78, 2) := by decide +kernel
theorem dX9_timeOf_3 : decode cX9_timeOf 3 = .ok (.if_icmp .ne 7, 3) := by decide +kernel
theorem dX9_timeOf_6 : decode cX9_timeOf 6 = .ok (.iconst 0, 1) := by decide +kernel
theorem dX9_timeOf_7 : decode cX9_timeOf 7 = .ok (.goto 36, 3) := by decide +kernel
theorem dX9_timeOf_10 : decode cX9_timeOf 10 = .ok (.iload_n 1, 1) := by decide +kernel
theorem dX9_timeOf_11 : decode cX9_timeOf 11 = .ok (.bipush 65, 2) := by decide +kernel
theorem dX9_timeOf_13 : decode cX9_timeOf 13 = .ok (.bipush 65, 2) := by decide +kernel
theorem dX9_timeOf_15 : decode cX9_timeOf 15 = .ok (.aload_n 0, 1) := by decide +kernel
theorem dX9_timeOf_16 : decode cX9_timeOf 16 = .ok (.getfield 13, 3) := by decide +kernel
theorem dX9_timeOf_19 : decode cX9_timeOf 19 = .ok (.iconst 0, 1) := by decide +kernel
theorem dX9_timeOf_20 : decode cX9_timeOf 20 = .ok (.iaload, 1) := by decide +kernel
theorem dX9_timeOf_21 : decode cX9_timeOf 21 = .ok (.iadd, 1) := by decide +kernel
theorem dX9_timeOf_22 : decode cX9_timeOf 22 = .ok (.iconst 1, 1) := by decide +kernel
theorem dX9_timeOf_23 : decode cX9_timeOf 23 = .ok (.isub, 1) := by decide +kernel
theorem dX9_timeOf_24 : decode cX9_timeOf 24 = .ok (.invokestatic 66, 3) := by decide +kernel
theorem dX9_timeOf_27 : decode cX9_timeOf 27 = .ok (.ifCond .eq 14, 3) := by decide +kernel
theorem dX9_timeOf_30 : decode cX9_timeOf 30 = .ok (.iconst 2, 1) := by decide +kernel
theorem dX9_timeOf_31 : decode cX9_timeOf 31 = .ok (.iconst 2, 1) := by decide +kernel
theorem dX9_timeOf_32 : decode cX9_timeOf 32 = .ok (.iload_n 1, 1) := by decide +kernel
theorem dX9_timeOf_33 : decode cX9_timeOf 33 = .ok (.bipush 65, 2) := by decide +kernel
theorem dX9_timeOf_35 : decode cX9_timeOf 35 = .ok (.isub, 1) := by decide +kernel
theorem dX9_timeOf_36 : decode cX9_timeOf 36 = .ok (.imul, 1) := by decide +kernel
theorem dX9_timeOf_37 : decode cX9_timeOf 37 = .ok (.iadd, 1) := by decide +kernel
theorem dX9_timeOf_38 : decode cX9_timeOf 38 = .ok (.goto 5, 3) := by decide +kernel
theorem dX9_timeOf_41 : decode cX9_timeOf 41 = .ok (.bipush (-9), 2) := by decide +kernel
theorem dX9_timeOf_43 : decode cX9_timeOf 43 = .ok (.ireturn, 1) := by decide +kernel
theorem dX9_adds_0 : decode cX9_adds 0 = .ok (.bipush 18, 2) := by decide +kernel
theorem dX9_adds_2 : decode cX9_adds 2 = .ok (.iconst 4, 1) := by decide +kernel
theorem dX9_adds_3 : decode cX9_adds 3 = .ok (.aload_n 0, 1) := by decide +kernel
theorem dX9_adds_4 : decode cX9_adds 4 = .ok (.getfield 13, 3) := by decide +kernel
theorem dX9_adds_7 : decode cX9_adds 7 = .ok (.iconst 1, 1) := by decide +kernel
theorem dX9_adds_8 : decode cX9_adds 8 = .ok (.iaload, 1) := by decide +kernel
theorem dX9_adds_9 : decode cX9_adds 9 = .ok (.imul, 1) := by decide +kernel
theorem dX9_adds_10 : decode cX9_adds 10 = .ok (.iadd, 1) := by decide +kernel
theorem dX9_adds_11 : decode cX9_adds 11 = .ok (.istore 5, 2) := by decide +kernel
theorem dX9_adds_13 : decode cX9_adds 13 = .ok (.aload_n 0, 1) := by decide +kernel
theorem dX9_adds_14 : decode cX9_adds 14 = .ok (.getfield 13, 3) := by decide +kernel
theorem dX9_adds_17 : decode cX9_adds 17 = .ok (.iload 5, 2) := by decide +kernel
theorem dX9_adds_19 : decode cX9_adds 19 = .ok (.iload_n 1, 1) := by decide +kernel
theorem dX9_adds_20 : decode cX9_adds 20 = .ok (.iastore, 1) := by decide +kernel
theorem dX9_adds_21 : decode cX9_adds 21 = .ok (.aload_n 0, 1) := by decide +kernel
theorem dX9_adds_22 : decode cX9_adds 22 = .ok (.getfield 13, 3) := by decide +kernel
theorem dX9_adds_25 : decode cX9_adds 25 = .ok (.iload 5, 2) := by decide +kernel
theorem dX9_adds_27 : decode cX9_adds 27 = .ok (.iconst 1, 1) := by decide +kernel
theorem dX9_adds_28 : decode cX9_adds 28 = .ok (.iadd, 1) := by decide +kernel
theorem dX9_adds_29 : decode cX9_adds 29 = .ok (.iload_n 2, 1) := by decide +kernel
theorem dX9_adds_30 : decode cX9_adds 30 = .ok (.iastore, 1) := by decide +kernel
theorem dX9_adds_31 : decode cX9_adds 31 = .ok (.aload_n 0, 1) := by decide +kernel
theorem dX9_adds_32 : decode cX9_adds 32 = .ok (.getfield 13, 3) := by decide +kernel
theorem dX9_adds_35 : decode cX9_adds 35 = .ok (.iload 5, 2) := by decide +kernel
theorem dX9_adds_37 : decode cX9_adds 37 = .ok (.iconst 2, 1) := by decide +kernel
theorem dX9_adds_38 : decode cX9_adds 38 = .ok (.iadd, 1) := by decide +kernel
theorem dX9_adds_39 : decode cX9_adds 39 = .ok (.iload_n 3, 1) := by decide +kernel
theorem dX9_adds_40 : decode cX9_adds 40 = .ok (.iastore, 1) := by decide +kernel
theorem dX9_adds_41 : decode cX9_adds 41 = .ok (.aload_n 0, 1) := by decide +kernel
theorem dX9_adds_42 : decode cX9_adds 42 = .ok (.getfield 13, 3) := by decide +kernel
theorem dX9_adds_45 : decode cX9_adds 45 = .ok (.iload 5, 2) := by decide +kernel
theorem dX9_adds_47 : decode cX9_adds 47 = .ok (.iconst 3, 1) := by decide +kernel
theorem dX9_adds_48 : decode cX9_adds 48 = .ok (.iadd, 1) := by decide +kernel
theorem dX9_adds_49 : decode cX9_adds 49 = .ok (.iload 4, 2) := by decide +kernel
theorem dX9_adds_51 : decode cX9_adds 51 = .ok (.iastore, 1) := by decide +kernel
theorem dX9_adds_52 : decode cX9_adds 52 = .ok (.aload_n 0, 1) := by decide +kernel
theorem dX9_adds_53 : decode cX9_adds 53 = .ok (.getfield 13, 3) := by decide +kernel
theorem dX9_adds_56 : decode cX9_adds 56 = .ok (.iconst 1, 1) := by decide +kernel
theorem dX9_adds_57 : decode cX9_adds 57 = .ok (.dup2, 1) := by decide +kernel
theorem dX9_adds_58 : decode cX9_adds 58 = .ok (.iaload, 1) := by decide +kernel
theorem dX9_adds_59 : decode cX9_adds 59 = .ok (.iconst 1, 1) := by decide +kernel
theorem dX9_adds_60 : decode cX9_adds 60 = .ok (.iadd, 1) := by decide +kernel
theorem dX9_adds_61 : decode cX9_adds 61 = .ok (.iastore, 1) := by decide +kernel
theorem dX9_adds_62 : decode cX9_adds 62 = .ok (.return_, 1) := by decide +kernel
theorem dX9_readsSaying_0 : decode cX9_readsSaying 0 = .ok (.aload_n 0, 1) := by decide +kernel
theorem dX9_readsSaying_1 : decode cX9_readsSaying 1 = .ok (.aload_n 0, 1) := by decide +kernel
theorem dX9_readsSaying_2 : decode cX9_readsSaying 2 = .ok (.invokevirtual 80, 3) := by decide +kernel
theorem dX9_readsSaying_5 : decode cX9_readsSaying 5 = .ok (.invokevirtual 84, 3) := by decide +kernel
theorem dX9_readsSaying_8 : decode cX9_readsSaying 8 = .ok (.istore_n 1, 1) := by decide +kernel
theorem dX9_readsSaying_9 : decode cX9_readsSaying 9 = .ok (.iload_n 1, 1) := by decide +kernel
theorem dX9_readsSaying_10 : decode cX9_readsSaying 10 = .ok (.bipush (-9), 2) := by decide +kernel
theorem dX9_readsSaying_12 : decode cX9_readsSaying 12 = .ok (.if_icmp .eq 21, 3) := by decide +kernel
theorem dX9_readsSaying_15 : decode cX9_readsSaying 15 = .ok (.aload_n 0, 1) := by decide +kernel
theorem dX9_readsSaying_16 : decode cX9_readsSaying 16 = .ok (.getfield 13, 3) := by decide +kernel
theorem dX9_readsSaying_19 : decode cX9_readsSaying 19 = .ok (.iconst 1, 1) := by decide +kernel
theorem dX9_readsSaying_20 : decode cX9_readsSaying 20 = .ok (.iaload, 1) := by decide +kernel
theorem dX9_readsSaying_21 : decode cX9_readsSaying 21 = .ok (.aload_n 0, 1) := by decide +kernel
theorem dX9_readsSaying_22 : decode cX9_readsSaying 22 = .ok (.getfield 13, 3) := by decide +kernel
theorem dX9_readsSaying_25 : decode cX9_readsSaying 25 = .ok (.iconst 0, 1) := by decide +kernel
theorem dX9_readsSaying_26 : decode cX9_readsSaying 26 = .ok (.iaload, 1) := by decide +kernel
theorem dX9_readsSaying_27 : decode cX9_readsSaying 27 = .ok (.isub, 1) := by decide +kernel
theorem dX9_readsSaying_28 : decode cX9_readsSaying 28 = .ok (.bipush 6, 2) := by decide +kernel
theorem dX9_readsSaying_30 : decode cX9_readsSaying 30 = .ok (.if_icmp .ne 5, 3) := by decide +kernel
theorem dX9_readsSaying_33 : decode cX9_readsSaying 33 = .ok (.iconst 0, 1) := by decide +kernel
theorem dX9_readsSaying_34 : decode cX9_readsSaying 34 = .ok (.ireturn, 1) := by decide +kernel
theorem dX9_readsSaying_35 : decode cX9_readsSaying 35 = .ok (.aload_n 0, 1) := by decide +kernel
theorem dX9_readsSaying_36 : decode cX9_readsSaying 36 = .ok (.dup, 1) := by decide +kernel
theorem dX9_readsSaying_37 : decode cX9_readsSaying 37 = .ok (.getfield 77, 3) := by decide +kernel
theorem dX9_readsSaying_40 : decode cX9_readsSaying 40 = .ok (.iconst 1, 1) := by decide +kernel
theorem dX9_readsSaying_41 : decode cX9_readsSaying 41 = .ok (.iadd, 1) := by decide +kernel
theorem dX9_readsSaying_42 : decode cX9_readsSaying 42 = .ok (.putfield 77, 3) := by decide +kernel
theorem dX9_readsSaying_45 : decode cX9_readsSaying 45 = .ok (.aload_n 0, 1) := by decide +kernel
theorem dX9_readsSaying_46 : decode cX9_readsSaying 46 = .ok (.invokevirtual 80, 3) := by decide +kernel
theorem dX9_readsSaying_49 : decode cX9_readsSaying 49 = .ok (.bipush 60, 2) := by decide +kernel
theorem dX9_readsSaying_51 : decode cX9_readsSaying 51 = .ok (.if_icmp .ne 7, 3) := by decide +kernel
theorem dX9_readsSaying_54 : decode cX9_readsSaying 54 = .ok (.iconst 0, 1) := by decide +kernel
theorem dX9_readsSaying_55 : decode cX9_readsSaying 55 = .ok (.goto 18, 3) := by decide +kernel
theorem dX9_readsSaying_58 : decode cX9_readsSaying 58 = .ok (.aload_n 0, 1) := by decide +kernel
theorem dX9_readsSaying_59 : decode cX9_readsSaying 59 = .ok (.invokevirtual 80, 3) := by decide +kernel
theorem dX9_readsSaying_62 : decode cX9_readsSaying 62 = .ok (.bipush 61, 2) := by decide +kernel
theorem dX9_readsSaying_64 : decode cX9_readsSaying 64 = .ok (.if_icmp .ne 7, 3) := by decide +kernel
theorem dX9_readsSaying_67 : decode cX9_readsSaying 67 = .ok (.iconst 1, 1) := by decide +kernel
theorem dX9_readsSaying_68 : decode cX9_readsSaying 68 = .ok (.goto 5, 3) := by decide +kernel
theorem dX9_readsSaying_71 : decode cX9_readsSaying 71 = .ok (.bipush (-9), 2) := by decide +kernel
theorem dX9_readsSaying_73 : decode cX9_readsSaying 73 = .ok (.istore_n 2, 1) := by decide +kernel
theorem dX9_readsSaying_74 : decode cX9_readsSaying 74 = .ok (.iload_n 2, 1) := by decide +kernel
theorem dX9_readsSaying_75 : decode cX9_readsSaying 75 = .ok (.bipush (-9), 2) := by decide +kernel
theorem dX9_readsSaying_77 : decode cX9_readsSaying 77 = .ok (.if_icmp .ne 5, 3) := by decide +kernel
theorem dX9_readsSaying_80 : decode cX9_readsSaying 80 = .ok (.iconst 0, 1) := by decide +kernel
theorem dX9_readsSaying_81 : decode cX9_readsSaying 81 = .ok (.ireturn, 1) := by decide +kernel
theorem dX9_readsSaying_82 : decode cX9_readsSaying 82 = .ok (.aload_n 0, 1) := by decide +kernel
theorem dX9_readsSaying_83 : decode cX9_readsSaying 83 = .ok (.dup, 1) := by decide +kernel
theorem dX9_readsSaying_84 : decode cX9_readsSaying 84 = .ok (.getfield 77, 3) := by decide +kernel
theorem dX9_readsSaying_87 : decode cX9_readsSaying 87 = .ok (.iconst 1, 1) := by decide +kernel
theorem dX9_readsSaying_88 : decode cX9_readsSaying 88 = .ok (.iadd, 1) := by decide +kernel
theorem dX9_readsSaying_89 : decode cX9_readsSaying 89 = .ok (.putfield 77, 3) := by decide +kernel
theorem dX9_readsSaying_92 : decode cX9_readsSaying 92 = .ok (.aload_n 0, 1) := by decide +kernel
theorem dX9_readsSaying_93 : decode cX9_readsSaying 93 = .ok (.aload_n 0, 1) := by decide +kernel
theorem dX9_readsSaying_94 : decode cX9_readsSaying 94 = .ok (.invokevirtual 80, 3) := by decide +kernel
theorem dX9_readsSaying_97 : decode cX9_readsSaying 97 = .ok (.invokevirtual 84, 3) := by decide +kernel
theorem dX9_readsSaying_100 : decode cX9_readsSaying 100 = .ok (.istore_n 3, 1) := by decide +kernel
theorem dX9_readsSaying_101 : decode cX9_readsSaying 101 = .ok (.iload_n 3, 1) := by decide +kernel
theorem dX9_readsSaying_102 : decode cX9_readsSaying 102 = .ok (.bipush (-9), 2) := by decide +kernel
theorem dX9_readsSaying_104 : decode cX9_readsSaying 104 = .ok (.if_icmp .eq 8, 3) := by decide +kernel
theorem dX9_readsSaying_107 : decode cX9_readsSaying 107 = .ok (.iload_n 3, 1) := by decide +kernel
theorem dX9_readsSaying_108 : decode cX9_readsSaying 108 = .ok (.iload_n 1, 1) := by decide +kernel
theorem dX9_readsSaying_109 : decode cX9_readsSaying 109 = .ok (.if_icmp .ne 5, 3) := by decide +kernel
theorem dX9_readsSaying_112 : decode cX9_readsSaying 112 = .ok (.iconst 0, 1) := by decide +kernel
theorem dX9_readsSaying_113 : decode cX9_readsSaying 113 = .ok (.ireturn, 1) := by decide +kernel
theorem dX9_readsSaying_114 : decode cX9_readsSaying 114 = .ok (.aload_n 0, 1) := by decide +kernel
theorem dX9_readsSaying_115 : decode cX9_readsSaying 115 = .ok (.dup, 1) := by decide +kernel
theorem dX9_readsSaying_116 : decode cX9_readsSaying 116 = .ok (.getfield 77, 3) := by decide +kernel
theorem dX9_readsSaying_119 : decode cX9_readsSaying 119 = .ok (.iconst 1, 1) := by decide +kernel
theorem dX9_readsSaying_120 : decode cX9_readsSaying 120 = .ok (.iadd, 1) := by decide +kernel
theorem dX9_readsSaying_121 : decode cX9_readsSaying 121 = .ok (.putfield 77, 3) := by decide +kernel
theorem dX9_readsSaying_124 : decode cX9_readsSaying 124 = .ok (.aload_n 0, 1) := by decide +kernel
theorem dX9_readsSaying_125 : decode cX9_readsSaying 125 = .ok (.bipush (-9), 2) := by decide +kernel
theorem dX9_readsSaying_127 : decode cX9_readsSaying 127 = .ok (.iload_n 1, 1) := by decide +kernel
theorem dX9_readsSaying_128 : decode cX9_readsSaying 128 = .ok (.iload_n 2, 1) := by decide +kernel
theorem dX9_readsSaying_129 : decode cX9_readsSaying 129 = .ok (.iload_n 3, 1) := by decide +kernel
theorem dX9_readsSaying_130 : decode cX9_readsSaying 130 = .ok (.invokevirtual 88, 3) := by decide +kernel
theorem dX9_readsSaying_133 : decode cX9_readsSaying 133 = .ok (.iconst 1, 1) := by decide +kernel
theorem dX9_readsSaying_134 : decode cX9_readsSaying 134 = .ok (.ireturn, 1) := by decide +kernel
theorem dX9_readsClause_0 : decode cX9_readsClause 0 = .ok (.aload_n 0, 1) := by decide +kernel
theorem dX9_readsClause_1 : decode cX9_readsClause 1 = .ok (.getfield 13, 3) := by decide +kernel
theorem dX9_readsClause_4 : decode cX9_readsClause 4 = .ok (.iconst 0, 1) := by decide +kernel
theorem dX9_readsClause_5 : decode cX9_readsClause 5 = .ok (.iaload, 1) := by decide +kernel
theorem dX9_readsClause_6 : decode cX9_readsClause 6 = .ok (.istore_n 1, 1) := by decide +kernel
theorem dX9_readsClause_7 : decode cX9_readsClause 7 = .ok (.bipush (-9), 2) := by decide +kernel
theorem dX9_readsClause_9 : decode cX9_readsClause 9 = .ok (.istore_n 2, 1) := by decide +kernel
theorem dX9_readsClause_10 : decode cX9_readsClause 10 = .ok (.iload_n 1, 1) := by decide +kernel
theorem dX9_readsClause_11 : decode cX9_readsClause 11 = .ok (.ifCond .le 35, 3) := by decide +kernel
theorem dX9_readsClause_14 : decode cX9_readsClause 14 = .ok (.aload_n 0, 1) := by decide +kernel
theorem dX9_readsClause_15 : decode cX9_readsClause 15 = .ok (.invokevirtual 80, 3) := by decide +kernel
theorem dX9_readsClause_18 : decode cX9_readsClause 18 = .ok (.invokestatic 92, 3) := by decide +kernel
theorem dX9_readsClause_21 : decode cX9_readsClause 21 = .ok (.istore_n 2, 1) := by decide +kernel
theorem dX9_readsClause_22 : decode cX9_readsClause 22 = .ok (.iload_n 2, 1) := by decide +kernel
theorem dX9_readsClause_23 : decode cX9_readsClause 23 = .ok (.bipush (-9), 2) := by decide +kernel
theorem dX9_readsClause_25 : decode cX9_readsClause 25 = .ok (.if_icmp .eq 9, 3) := by decide +kernel
theorem dX9_readsClause_28 : decode cX9_readsClause 28 = .ok (.iload_n 1, 1) := by decide +kernel
theorem dX9_readsClause_29 : decode cX9_readsClause 29 = .ok (.bipush 8, 2) := by decide +kernel
theorem dX9_readsClause_31 : decode cX9_readsClause 31 = .ok (.if_icmp .ne 5, 3) := by decide +kernel
theorem dX9_readsClause_34 : decode cX9_readsClause 34 = .ok (.iconst 0, 1) := by decide +kernel
theorem dX9_readsClause_35 : decode cX9_readsClause 35 = .ok (.ireturn, 1) := by decide +kernel
theorem dX9_readsClause_36 : decode cX9_readsClause 36 = .ok (.aload_n 0, 1) := by decide +kernel
theorem dX9_readsClause_37 : decode cX9_readsClause 37 = .ok (.dup, 1) := by decide +kernel
theorem dX9_readsClause_38 : decode cX9_readsClause 38 = .ok (.getfield 77, 3) := by decide +kernel
theorem dX9_readsClause_41 : decode cX9_readsClause 41 = .ok (.iconst 1, 1) := by decide +kernel
theorem dX9_readsClause_42 : decode cX9_readsClause 42 = .ok (.iadd, 1) := by decide +kernel
theorem dX9_readsClause_43 : decode cX9_readsClause 43 = .ok (.putfield 77, 3) := by decide +kernel
theorem dX9_readsClause_46 : decode cX9_readsClause 46 = .ok (.aload_n 0, 1) := by decide +kernel
theorem dX9_readsClause_47 : decode cX9_readsClause 47 = .ok (.invokevirtual 80, 3) := by decide +kernel
theorem dX9_readsClause_50 : decode cX9_readsClause 50 = .ok (.invokestatic 95, 3) := by decide +kernel
theorem dX9_readsClause_53 : decode cX9_readsClause 53 = .ok (.istore_n 3, 1) := by decide +kernel
theorem dX9_readsClause_54 : decode cX9_readsClause 54 = .ok (.iload_n 3, 1) := by decide +kernel
theorem dX9_readsClause_55 : decode cX9_readsClause 55 = .ok (.bipush (-9), 2) := by decide +kernel
theorem dX9_readsClause_57 : decode cX9_readsClause 57 = .ok (.if_icmp .ne 5, 3) := by decide +kernel
theorem dX9_readsClause_60 : decode cX9_readsClause 60 = .ok (.iconst 0, 1) := by decide +kernel
theorem dX9_readsClause_61 : decode cX9_readsClause 61 = .ok (.ireturn, 1) := by decide +kernel
theorem dX9_readsClause_62 : decode cX9_readsClause 62 = .ok (.aload_n 0, 1) := by decide +kernel
theorem dX9_readsClause_63 : decode cX9_readsClause 63 = .ok (.dup, 1) := by decide +kernel
theorem dX9_readsClause_64 : decode cX9_readsClause 64 = .ok (.getfield 77, 3) := by decide +kernel
theorem dX9_readsClause_67 : decode cX9_readsClause 67 = .ok (.iconst 1, 1) := by decide +kernel
theorem dX9_readsClause_68 : decode cX9_readsClause 68 = .ok (.iadd, 1) := by decide +kernel
theorem dX9_readsClause_69 : decode cX9_readsClause 69 = .ok (.putfield 77, 3) := by decide +kernel
theorem dX9_readsClause_72 : decode cX9_readsClause 72 = .ok (.aload_n 0, 1) := by decide +kernel
theorem dX9_readsClause_73 : decode cX9_readsClause 73 = .ok (.getfield 13, 3) := by decide +kernel
theorem dX9_readsClause_76 : decode cX9_readsClause 76 = .ok (.iconst 2, 1) := by decide +kernel
theorem dX9_readsClause_77 : decode cX9_readsClause 77 = .ok (.iconst 2, 1) := by decide +kernel
theorem dX9_readsClause_78 : decode cX9_readsClause 78 = .ok (.iload_n 1, 1) := by decide +kernel
theorem dX9_readsClause_79 : decode cX9_readsClause 79 = .ok (.imul, 1) := by decide +kernel
theorem dX9_readsClause_80 : decode cX9_readsClause 80 = .ok (.iadd, 1) := by decide +kernel
theorem dX9_readsClause_81 : decode cX9_readsClause 81 = .ok (.iload_n 3, 1) := by decide +kernel
theorem dX9_readsClause_82 : decode cX9_readsClause 82 = .ok (.iastore, 1) := by decide +kernel
theorem dX9_readsClause_83 : decode cX9_readsClause 83 = .ok (.aload_n 0, 1) := by decide +kernel
theorem dX9_readsClause_84 : decode cX9_readsClause 84 = .ok (.getfield 13, 3) := by decide +kernel
theorem dX9_readsClause_87 : decode cX9_readsClause 87 = .ok (.iconst 2, 1) := by decide +kernel
theorem dX9_readsClause_88 : decode cX9_readsClause 88 = .ok (.iconst 2, 1) := by decide +kernel
theorem dX9_readsClause_89 : decode cX9_readsClause 89 = .ok (.iload_n 1, 1) := by decide +kernel
theorem dX9_readsClause_90 : decode cX9_readsClause 90 = .ok (.imul, 1) := by decide +kernel
theorem dX9_readsClause_91 : decode cX9_readsClause 91 = .ok (.iadd, 1) := by decide +kernel
theorem dX9_readsClause_92 : decode cX9_readsClause 92 = .ok (.iconst 1, 1) := by decide +kernel
theorem dX9_readsClause_93 : decode cX9_readsClause 93 = .ok (.iadd, 1) := by decide +kernel
theorem dX9_readsClause_94 : decode cX9_readsClause 94 = .ok (.iload_n 2, 1) := by decide +kernel
theorem dX9_readsClause_95 : decode cX9_readsClause 95 = .ok (.iastore, 1) := by decide +kernel
theorem dX9_readsClause_96 : decode cX9_readsClause 96 = .ok (.aload_n 0, 1) := by decide +kernel
theorem dX9_readsClause_97 : decode cX9_readsClause 97 = .ok (.iload_n 1, 1) := by decide +kernel
theorem dX9_readsClause_98 : decode cX9_readsClause 98 = .ok (.bipush (-9), 2) := by decide +kernel
theorem dX9_readsClause_100 : decode cX9_readsClause 100 = .ok (.bipush (-9), 2) := by decide +kernel
theorem dX9_readsClause_102 : decode cX9_readsClause 102 = .ok (.bipush (-9), 2) := by decide +kernel
theorem dX9_readsClause_104 : decode cX9_readsClause 104 = .ok (.invokevirtual 88, 3) := by decide +kernel
theorem dX9_readsClause_107 : decode cX9_readsClause 107 = .ok (.aload_n 0, 1) := by decide +kernel
theorem dX9_readsClause_108 : decode cX9_readsClause 108 = .ok (.getfield 13, 3) := by decide +kernel
theorem dX9_readsClause_111 : decode cX9_readsClause 111 = .ok (.iconst 0, 1) := by decide +kernel
theorem dX9_readsClause_112 : decode cX9_readsClause 112 = .ok (.dup2, 1) := by decide +kernel
theorem dX9_readsClause_113 : decode cX9_readsClause 113 = .ok (.iaload, 1) := by decide +kernel
theorem dX9_readsClause_114 : decode cX9_readsClause 114 = .ok (.iconst 1, 1) := by decide +kernel
theorem dX9_readsClause_115 : decode cX9_readsClause 115 = .ok (.iadd, 1) := by decide +kernel
theorem dX9_readsClause_116 : decode cX9_readsClause 116 = .ok (.iastore, 1) := by decide +kernel
theorem dX9_readsClause_117 : decode cX9_readsClause 117 = .ok (.iconst 1, 1) := by decide +kernel
theorem dX9_readsClause_118 : decode cX9_readsClause 118 = .ok (.ireturn, 1) := by decide +kernel
theorem dX9_reads_0 : decode cX9_reads 0 = .ok (.aload_n 0, 1) := by decide +kernel
theorem dX9_reads_1 : decode cX9_reads 1 = .ok (.iconst 0, 1) := by decide +kernel
theorem dX9_reads_2 : decode cX9_reads 2 = .ok (.putfield 63, 3) := by decide +kernel
theorem dX9_reads_5 : decode cX9_reads 5 = .ok (.aload_n 0, 1) := by decide +kernel
theorem dX9_reads_6 : decode cX9_reads 6 = .ok (.getfield 13, 3) := by decide +kernel
theorem dX9_reads_9 : decode cX9_reads 9 = .ok (.iconst 0, 1) := by decide +kernel
theorem dX9_reads_10 : decode cX9_reads 10 = .ok (.iconst 0, 1) := by decide +kernel
theorem dX9_reads_11 : decode cX9_reads 11 = .ok (.iastore, 1) := by decide +kernel
theorem dX9_reads_12 : decode cX9_reads 12 = .ok (.aload_n 0, 1) := by decide +kernel
theorem dX9_reads_13 : decode cX9_reads 13 = .ok (.getfield 13, 3) := by decide +kernel
theorem dX9_reads_16 : decode cX9_reads 16 = .ok (.iconst 1, 1) := by decide +kernel
theorem dX9_reads_17 : decode cX9_reads 17 = .ok (.iconst 0, 1) := by decide +kernel
theorem dX9_reads_18 : decode cX9_reads 18 = .ok (.iastore, 1) := by decide +kernel
theorem dX9_reads_19 : decode cX9_reads 19 = .ok (.aload_n 0, 1) := by decide +kernel
theorem dX9_reads_20 : decode cX9_reads 20 = .ok (.iconst 0, 1) := by decide +kernel
theorem dX9_reads_21 : decode cX9_reads 21 = .ok (.putfield 77, 3) := by decide +kernel
theorem dX9_reads_24 : decode cX9_reads 24 = .ok (.iconst 0, 1) := by decide +kernel
theorem dX9_reads_25 : decode cX9_reads 25 = .ok (.istore_n 1, 1) := by decide +kernel
theorem dX9_reads_26 : decode cX9_reads 26 = .ok (.aload_n 0, 1) := by decide +kernel
theorem dX9_reads_27 : decode cX9_reads 27 = .ok (.invokevirtual 80, 3) := by decide +kernel
theorem dX9_reads_30 : decode cX9_reads 30 = .ok (.ifCond .lt 69, 3) := by decide +kernel
theorem dX9_reads_33 : decode cX9_reads 33 = .ok (.aload_n 0, 1) := by decide +kernel
theorem dX9_reads_34 : decode cX9_reads 34 = .ok (.invokevirtual 80, 3) := by decide +kernel
theorem dX9_reads_37 : decode cX9_reads 37 = .ok (.bipush 65, 2) := by decide +kernel
theorem dX9_reads_39 : decode cX9_reads 39 = .ok (.bipush 90, 2) := by decide +kernel
theorem dX9_reads_41 : decode cX9_reads 41 = .ok (.invokestatic 66, 3) := by decide +kernel
theorem dX9_reads_44 : decode cX9_reads 44 = .ok (.istore_n 2, 1) := by decide +kernel
theorem dX9_reads_45 : decode cX9_reads 45 = .ok (.iload_n 2, 1) := by decide +kernel
theorem dX9_reads_46 : decode cX9_reads 46 = .ok (.ifCond .eq 13, 3) := by decide +kernel
theorem dX9_reads_49 : decode cX9_reads 49 = .ok (.aload_n 0, 1) := by decide +kernel
theorem dX9_reads_50 : decode cX9_reads 50 = .ok (.invokevirtual 98, 3) := by decide +kernel
theorem dX9_reads_53 : decode cX9_reads 53 = .ok (.ifCond .eq 22, 3) := by decide +kernel
theorem dX9_reads_56 : decode cX9_reads 56 = .ok (.goto 10, 3) := by decide +kernel
theorem dX9_reads_59 : decode cX9_reads 59 = .ok (.aload_n 0, 1) := by decide +kernel
theorem dX9_reads_60 : decode cX9_reads 60 = .ok (.invokevirtual 102, 3) := by decide +kernel
theorem dX9_reads_63 : decode cX9_reads 63 = .ok (.ifCond .eq 12, 3) := by decide +kernel
theorem dX9_reads_66 : decode cX9_reads 66 = .ok (.aload_n 0, 1) := by decide +kernel
theorem dX9_reads_67 : decode cX9_reads 67 = .ok (.invokevirtual 80, 3) := by decide +kernel
theorem dX9_reads_70 : decode cX9_reads 70 = .ok (.bipush 59, 2) := by decide +kernel
theorem dX9_reads_72 : decode cX9_reads 72 = .ok (.if_icmp .eq 11, 3) := by decide +kernel
theorem dX9_reads_75 : decode cX9_reads 75 = .ok (.bipush (-10), 2) := by decide +kernel
theorem dX9_reads_77 : decode cX9_reads 77 = .ok (.aload_n 0, 1) := by decide +kernel
theorem dX9_reads_78 : decode cX9_reads 78 = .ok (.getfield 77, 3) := by decide +kernel
theorem dX9_reads_81 : decode cX9_reads 81 = .ok (.isub, 1) := by decide +kernel
theorem dX9_reads_82 : decode cX9_reads 82 = .ok (.ireturn, 1) := by decide +kernel
theorem dX9_reads_83 : decode cX9_reads 83 = .ok (.aload_n 0, 1) := by decide +kernel
theorem dX9_reads_84 : decode cX9_reads 84 = .ok (.dup, 1) := by decide +kernel
theorem dX9_reads_85 : decode cX9_reads 85 = .ok (.getfield 77, 3) := by decide +kernel
theorem dX9_reads_88 : decode cX9_reads 88 = .ok (.iconst 1, 1) := by decide +kernel
theorem dX9_reads_89 : decode cX9_reads 89 = .ok (.iadd, 1) := by decide +kernel
theorem dX9_reads_90 : decode cX9_reads 90 = .ok (.putfield 77, 3) := by decide +kernel
theorem dX9_reads_93 : decode cX9_reads 93 = .ok (.iinc 1 1, 3) := by decide +kernel
theorem dX9_reads_96 : decode cX9_reads 96 = .ok (.goto (-70), 3) := by decide +kernel
theorem dX9_reads_99 : decode cX9_reads 99 = .ok (.iconst 0, 1) := by decide +kernel
theorem dX9_reads_100 : decode cX9_reads 100 = .ok (.istore_n 2, 1) := by decide +kernel
theorem dX9_reads_101 : decode cX9_reads 101 = .ok (.iload_n 2, 1) := by decide +kernel
theorem dX9_reads_102 : decode cX9_reads 102 = .ok (.bipush 74, 2) := by decide +kernel
theorem dX9_reads_104 : decode cX9_reads 104 = .ok (.if_icmp .ge 21, 3) := by decide +kernel
theorem dX9_reads_107 : decode cX9_reads 107 = .ok (.aload_n 0, 1) := by decide +kernel
theorem dX9_reads_108 : decode cX9_reads 108 = .ok (.getfield 7, 3) := by decide +kernel
theorem dX9_reads_111 : decode cX9_reads 111 = .ok (.iload_n 2, 1) := by decide +kernel
theorem dX9_reads_112 : decode cX9_reads 112 = .ok (.aload_n 0, 1) := by decide +kernel
theorem dX9_reads_113 : decode cX9_reads 113 = .ok (.getfield 13, 3) := by decide +kernel
theorem dX9_reads_116 : decode cX9_reads 116 = .ok (.iload_n 2, 1) := by decide +kernel
theorem dX9_reads_117 : decode cX9_reads 117 = .ok (.iaload, 1) := by decide +kernel
theorem dX9_reads_118 : decode cX9_reads 118 = .ok (.iastore, 1) := by decide +kernel
theorem dX9_reads_119 : decode cX9_reads 119 = .ok (.iinc 2 1, 3) := by decide +kernel
theorem dX9_reads_122 : decode cX9_reads 122 = .ok (.goto (-21), 3) := by decide +kernel
theorem dX9_reads_125 : decode cX9_reads 125 = .ok (.aload_n 0, 1) := by decide +kernel
theorem dX9_reads_126 : decode cX9_reads 126 = .ok (.iconst 0, 1) := by decide +kernel
theorem dX9_reads_127 : decode cX9_reads 127 = .ok (.putfield 74, 3) := by decide +kernel
theorem dX9_reads_130 : decode cX9_reads 130 = .ok (.aload_n 0, 1) := by decide +kernel
theorem dX9_reads_131 : decode cX9_reads 131 = .ok (.iconst 0, 1) := by decide +kernel
theorem dX9_reads_132 : decode cX9_reads 132 = .ok (.putfield 105, 3) := by decide +kernel
theorem dX9_reads_135 : decode cX9_reads 135 = .ok (.aload_n 0, 1) := by decide +kernel
theorem dX9_reads_136 : decode cX9_reads 136 = .ok (.iconst 0, 1) := by decide +kernel
theorem dX9_reads_137 : decode cX9_reads 137 = .ok (.putfield 59, 3) := by decide +kernel
theorem dX9_reads_140 : decode cX9_reads 140 = .ok (.aload_n 0, 1) := by decide +kernel
theorem dX9_reads_141 : decode cX9_reads 141 = .ok (.getfield 22, 3) := by decide +kernel
theorem dX9_reads_144 : decode cX9_reads 144 = .ok (.iconst 0, 1) := by decide +kernel
theorem dX9_reads_145 : decode cX9_reads 145 = .ok (.iconst 0, 1) := by decide +kernel
theorem dX9_reads_146 : decode cX9_reads 146 = .ok (.bastore, 1) := by decide +kernel
theorem dX9_reads_147 : decode cX9_reads 147 = .ok (.aload_n 0, 1) := by decide +kernel
theorem dX9_reads_148 : decode cX9_reads 148 = .ok (.getfield 22, 3) := by decide +kernel
theorem dX9_reads_151 : decode cX9_reads 151 = .ok (.iconst 1, 1) := by decide +kernel
theorem dX9_reads_152 : decode cX9_reads 152 = .ok (.iconst 0, 1) := by decide +kernel
theorem dX9_reads_153 : decode cX9_reads 153 = .ok (.bastore, 1) := by decide +kernel
theorem dX9_reads_154 : decode cX9_reads 154 = .ok (.iload_n 1, 1) := by decide +kernel
theorem dX9_reads_155 : decode cX9_reads 155 = .ok (.ireturn, 1) := by decide +kernel
theorem dX9_areSame_0 : decode cX9_areSame 0 = .ok (.aload_n 0, 1) := by decide +kernel
theorem dX9_areSame_1 : decode cX9_areSame 1 = .ok (.getfield 38, 3) := by decide +kernel
theorem dX9_areSame_4 : decode cX9_areSame 4 = .ok (.iload_n 1, 1) := by decide +kernel
theorem dX9_areSame_5 : decode cX9_areSame 5 = .ok (.iaload, 1) := by decide +kernel
theorem dX9_areSame_6 : decode cX9_areSame 6 = .ok (.istore_n 3, 1) := by decide +kernel
theorem dX9_areSame_7 : decode cX9_areSame 7 = .ok (.aload_n 0, 1) := by decide +kernel
theorem dX9_areSame_8 : decode cX9_areSame 8 = .ok (.getfield 38, 3) := by decide +kernel
theorem dX9_areSame_11 : decode cX9_areSame 11 = .ok (.iload_n 2, 1) := by decide +kernel
theorem dX9_areSame_12 : decode cX9_areSame 12 = .ok (.iaload, 1) := by decide +kernel
theorem dX9_areSame_13 : decode cX9_areSame 13 = .ok (.istore 4, 2) := by decide +kernel
theorem dX9_areSame_15 : decode cX9_areSame 15 = .ok (.iconst 0, 1) := by decide +kernel
theorem dX9_areSame_16 : decode cX9_areSame 16 = .ok (.istore 5, 2) := by decide +kernel
theorem dX9_areSame_18 : decode cX9_areSame 18 = .ok (.iload 5, 2) := by decide +kernel
theorem dX9_areSame_20 : decode cX9_areSame 20 = .ok (.aload_n 0, 1) := by decide +kernel
theorem dX9_areSame_21 : decode cX9_areSame 21 = .ok (.getfield 108, 3) := by decide +kernel
theorem dX9_areSame_24 : decode cX9_areSame 24 = .ok (.if_icmp .ge 39, 3) := by decide +kernel
theorem dX9_areSame_27 : decode cX9_areSame 27 = .ok (.aload_n 0, 1) := by decide +kernel
theorem dX9_areSame_28 : decode cX9_areSame 28 = .ok (.getfield 38, 3) := by decide +kernel
theorem dX9_areSame_31 : decode cX9_areSame 31 = .ok (.iload 5, 2) := by decide +kernel
theorem dX9_areSame_33 : decode cX9_areSame 33 = .ok (.aload_n 0, 1) := by decide +kernel
theorem dX9_areSame_34 : decode cX9_areSame 34 = .ok (.getfield 38, 3) := by decide +kernel
theorem dX9_areSame_37 : decode cX9_areSame 37 = .ok (.iload 5, 2) := by decide +kernel
theorem dX9_areSame_39 : decode cX9_areSame 39 = .ok (.iaload, 1) := by decide +kernel
theorem dX9_areSame_40 : decode cX9_areSame 40 = .ok (.iload_n 3, 1) := by decide +kernel
theorem dX9_areSame_41 : decode cX9_areSame 41 = .ok (.if_icmp .ne 8, 3) := by decide +kernel
theorem dX9_areSame_44 : decode cX9_areSame 44 = .ok (.iload 4, 2) := by decide +kernel
theorem dX9_areSame_46 : decode cX9_areSame 46 = .ok (.goto 10, 3) := by decide +kernel
theorem dX9_areSame_49 : decode cX9_areSame 49 = .ok (.aload_n 0, 1) := by decide +kernel
theorem dX9_areSame_50 : decode cX9_areSame 50 = .ok (.getfield 38, 3) := by decide +kernel
theorem dX9_areSame_53 : decode cX9_areSame 53 = .ok (.iload 5, 2) := by decide +kernel
theorem dX9_areSame_55 : decode cX9_areSame 55 = .ok (.iaload, 1) := by decide +kernel
theorem dX9_areSame_56 : decode cX9_areSame 56 = .ok (.iastore, 1) := by decide +kernel
theorem dX9_areSame_57 : decode cX9_areSame 57 = .ok (.iinc 5 1, 3) := by decide +kernel
theorem dX9_areSame_60 : decode cX9_areSame 60 = .ok (.goto (-42), 3) := by decide +kernel
theorem dX9_areSame_63 : decode cX9_areSame 63 = .ok (.return_, 1) := by decide +kernel
theorem dX9_isAhead_0 : decode cX9_isAhead 0 = .ok (.aload_n 0, 1) := by decide +kernel
theorem dX9_isAhead_1 : decode cX9_isAhead 1 = .ok (.getfield 41, 3) := by decide +kernel
theorem dX9_isAhead_4 : decode cX9_isAhead 4 = .ok (.iload_n 2, 1) := by decide +kernel
theorem dX9_isAhead_5 : decode cX9_isAhead 5 = .ok (.dup2, 1) := by decide +kernel
theorem dX9_isAhead_6 : decode cX9_isAhead 6 = .ok (.iaload, 1) := by decide +kernel
theorem dX9_isAhead_7 : decode cX9_isAhead 7 = .ok (.iconst 1, 1) := by decide +kernel
theorem dX9_isAhead_8 : decode cX9_isAhead 8 = .ok (.iload_n 1, 1) := by decide +kernel
theorem dX9_isAhead_9 : decode cX9_isAhead 9 = .ok (.ishl, 1) := by decide +kernel
theorem dX9_isAhead_10 : decode cX9_isAhead 10 = .ok (.ior, 1) := by decide +kernel
theorem dX9_isAhead_11 : decode cX9_isAhead 11 = .ok (.iastore, 1) := by decide +kernel
theorem dX9_isAhead_12 : decode cX9_isAhead 12 = .ok (.return_, 1) := by decide +kernel
theorem dX9_lays_0 : decode cX9_lays 0 = .ok (.iload_n 2, 1) := by decide +kernel
theorem dX9_lays_1 : decode cX9_lays 1 = .ok (.ifCond .ne 12, 3) := by decide +kernel
theorem dX9_lays_4 : decode cX9_lays 4 = .ok (.aload_n 0, 1) := by decide +kernel
theorem dX9_lays_5 : decode cX9_lays 5 = .ok (.iload_n 1, 1) := by decide +kernel
theorem dX9_lays_6 : decode cX9_lays 6 = .ok (.iload_n 3, 1) := by decide +kernel
theorem dX9_lays_7 : decode cX9_lays 7 = .ok (.invokevirtual 111, 3) := by decide +kernel
theorem dX9_lays_10 : decode cX9_lays 10 = .ok (.goto 9, 3) := by decide +kernel
theorem dX9_lays_13 : decode cX9_lays 13 = .ok (.aload_n 0, 1) := by decide +kernel
theorem dX9_lays_14 : decode cX9_lays 14 = .ok (.iload_n 1, 1) := by decide +kernel
theorem dX9_lays_15 : decode cX9_lays 15 = .ok (.iload_n 3, 1) := by decide +kernel
theorem dX9_lays_16 : decode cX9_lays 16 = .ok (.invokevirtual 115, 3) := by decide +kernel
theorem dX9_lays_19 : decode cX9_lays 19 = .ok (.return_, 1) := by decide +kernel
theorem dX9_laysTense_0 : decode cX9_laysTense 0 = .ok (.iconst 1, 1) := by decide +kernel
theorem dX9_laysTense_1 : decode cX9_laysTense 1 = .ok (.iconst 2, 1) := by decide +kernel
theorem dX9_laysTense_2 : decode cX9_laysTense 2 = .ok (.iload_n 1, 1) := by decide +kernel
theorem dX9_laysTense_3 : decode cX9_laysTense 3 = .ok (.imul, 1) := by decide +kernel
theorem dX9_laysTense_4 : decode cX9_laysTense 4 = .ok (.iadd, 1) := by decide +kernel
theorem dX9_laysTense_5 : decode cX9_laysTense 5 = .ok (.istore_n 2, 1) := by decide +kernel
theorem dX9_laysTense_6 : decode cX9_laysTense 6 = .ok (.iconst 2, 1) := by decide +kernel
theorem dX9_laysTense_7 : decode cX9_laysTense 7 = .ok (.iconst 2, 1) := by decide +kernel
theorem dX9_laysTense_8 : decode cX9_laysTense 8 = .ok (.iload_n 1, 1) := by decide +kernel
theorem dX9_laysTense_9 : decode cX9_laysTense 9 = .ok (.imul, 1) := by decide +kernel
theorem dX9_laysTense_10 : decode cX9_laysTense 10 = .ok (.iadd, 1) := by decide +kernel
theorem dX9_laysTense_11 : decode cX9_laysTense 11 = .ok (.istore_n 3, 1) := by decide +kernel
theorem dX9_laysTense_12 : decode cX9_laysTense 12 = .ok (.aload_n 0, 1) := by decide +kernel
theorem dX9_laysTense_13 : decode cX9_laysTense 13 = .ok (.getfield 7, 3) := by decide +kernel
theorem dX9_laysTense_16 : decode cX9_laysTense 16 = .ok (.iconst 2, 1) := by decide +kernel
theorem dX9_laysTense_17 : decode cX9_laysTense 17 = .ok (.iconst 2, 1) := by decide +kernel
theorem dX9_laysTense_18 : decode cX9_laysTense 18 = .ok (.iload_n 1, 1) := by decide +kernel
theorem dX9_laysTense_19 : decode cX9_laysTense 19 = .ok (.imul, 1) := by decide +kernel
theorem dX9_laysTense_20 : decode cX9_laysTense 20 = .ok (.iadd, 1) := by decide +kernel
theorem dX9_laysTense_21 : decode cX9_laysTense 21 = .ok (.iaload, 1) := by decide +kernel
theorem dX9_laysTense_22 : decode cX9_laysTense 22 = .ok (.istore 4, 2) := by decide +kernel
theorem dX9_laysTense_24 : decode cX9_laysTense 24 = .ok (.iload 4, 2) := by decide +kernel
theorem dX9_laysTense_26 : decode cX9_laysTense 26 = .ok (.ifCond .eq 16, 3) := by decide +kernel
theorem dX9_laysTense_29 : decode cX9_laysTense 29 = .ok (.iload 4, 2) := by decide +kernel
theorem dX9_laysTense_31 : decode cX9_laysTense 31 = .ok (.iconst 3, 1) := by decide +kernel
theorem dX9_laysTense_32 : decode cX9_laysTense 32 = .ok (.if_icmp .eq 10, 3) := by decide +kernel
theorem dX9_laysTense_35 : decode cX9_laysTense 35 = .ok (.iload 4, 2) := by decide +kernel
theorem dX9_laysTense_37 : decode cX9_laysTense 37 = .ok (.bipush 6, 2) := by decide +kernel
theorem dX9_laysTense_39 : decode cX9_laysTense 39 = .ok (.if_icmp .ne 7, 3) := by decide +kernel
theorem dX9_laysTense_42 : decode cX9_laysTense 42 = .ok (.iconst 1, 1) := by decide +kernel
theorem dX9_laysTense_43 : decode cX9_laysTense 43 = .ok (.goto 4, 3) := by decide +kernel
theorem dX9_laysTense_46 : decode cX9_laysTense 46 = .ok (.iconst 0, 1) := by decide +kernel
theorem dX9_laysTense_47 : decode cX9_laysTense 47 = .ok (.istore 5, 2) := by decide +kernel
theorem dX9_laysTense_49 : decode cX9_laysTense 49 = .ok (.iload 4, 2) := by decide +kernel
theorem dX9_laysTense_51 : decode cX9_laysTense 51 = .ok (.iconst 1, 1) := by decide +kernel
theorem dX9_laysTense_52 : decode cX9_laysTense 52 = .ok (.if_icmp .eq 16, 3) := by decide +kernel
theorem dX9_laysTense_55 : decode cX9_laysTense 55 = .ok (.iload 4, 2) := by decide +kernel
theorem dX9_laysTense_57 : decode cX9_laysTense 57 = .ok (.iconst 4, 1) := by decide +kernel
theorem dX9_laysTense_58 : decode cX9_laysTense 58 = .ok (.if_icmp .eq 10, 3) := by decide +kernel
theorem dX9_laysTense_61 : decode cX9_laysTense 61 = .ok (.iload 4, 2) := by decide +kernel
theorem dX9_laysTense_63 : decode cX9_laysTense 63 = .ok (.bipush 7, 2) := by decide +kernel
theorem dX9_laysTense_65 : decode cX9_laysTense 65 = .ok (.if_icmp .ne 7, 3) := by decide +kernel
theorem dX9_laysTense_68 : decode cX9_laysTense 68 = .ok (.iconst 1, 1) := by decide +kernel
theorem dX9_laysTense_69 : decode cX9_laysTense 69 = .ok (.goto 4, 3) := by decide +kernel
theorem dX9_laysTense_72 : decode cX9_laysTense 72 = .ok (.iconst 0, 1) := by decide +kernel
theorem dX9_laysTense_73 : decode cX9_laysTense 73 = .ok (.istore 6, 2) := by decide +kernel
theorem dX9_laysTense_75 : decode cX9_laysTense 75 = .ok (.iload 5, 2) := by decide +kernel
theorem dX9_laysTense_77 : decode cX9_laysTense 77 = .ok (.ifCond .eq 12, 3) := by decide +kernel
theorem dX9_laysTense_80 : decode cX9_laysTense 80 = .ok (.aload_n 0, 1) := by decide +kernel
theorem dX9_laysTense_81 : decode cX9_laysTense 81 = .ok (.iload_n 3, 1) := by decide +kernel
theorem dX9_laysTense_82 : decode cX9_laysTense 82 = .ok (.iload_n 2, 1) := by decide +kernel
theorem dX9_laysTense_83 : decode cX9_laysTense 83 = .ok (.invokevirtual 115, 3) := by decide +kernel
theorem dX9_laysTense_86 : decode cX9_laysTense 86 = .ok (.goto 23, 3) := by decide +kernel
theorem dX9_laysTense_89 : decode cX9_laysTense 89 = .ok (.iload 6, 2) := by decide +kernel
theorem dX9_laysTense_91 : decode cX9_laysTense 91 = .ok (.ifCond .eq 12, 3) := by decide +kernel
theorem dX9_laysTense_94 : decode cX9_laysTense 94 = .ok (.aload_n 0, 1) := by decide +kernel
theorem dX9_laysTense_95 : decode cX9_laysTense 95 = .ok (.iload_n 3, 1) := by decide +kernel
theorem dX9_laysTense_96 : decode cX9_laysTense 96 = .ok (.iload_n 2, 1) := by decide +kernel
theorem dX9_laysTense_97 : decode cX9_laysTense 97 = .ok (.invokevirtual 111, 3) := by decide +kernel
theorem dX9_laysTense_100 : decode cX9_laysTense 100 = .ok (.goto 9, 3) := by decide +kernel
theorem dX9_laysTense_103 : decode cX9_laysTense 103 = .ok (.aload_n 0, 1) := by decide +kernel
theorem dX9_laysTense_104 : decode cX9_laysTense 104 = .ok (.iload_n 2, 1) := by decide +kernel
theorem dX9_laysTense_105 : decode cX9_laysTense 105 = .ok (.iload_n 3, 1) := by decide +kernel
theorem dX9_laysTense_106 : decode cX9_laysTense 106 = .ok (.invokevirtual 111, 3) := by decide +kernel
theorem dX9_laysTense_109 : decode cX9_laysTense 109 = .ok (.iload 4, 2) := by decide +kernel
theorem dX9_laysTense_111 : decode cX9_laysTense 111 = .ok (.iconst 3, 1) := by decide +kernel
theorem dX9_laysTense_112 : decode cX9_laysTense 112 = .ok (.if_icmp .ge 12, 3) := by decide +kernel
theorem dX9_laysTense_115 : decode cX9_laysTense 115 = .ok (.aload_n 0, 1) := by decide +kernel
theorem dX9_laysTense_116 : decode cX9_laysTense 116 = .ok (.iload_n 2, 1) := by decide +kernel
theorem dX9_laysTense_117 : decode cX9_laysTense 117 = .ok (.iconst 0, 1) := by decide +kernel
theorem dX9_laysTense_118 : decode cX9_laysTense 118 = .ok (.invokevirtual 111, 3) := by decide +kernel
theorem dX9_laysTense_121 : decode cX9_laysTense 121 = .ok (.goto 25, 3) := by decide +kernel
theorem dX9_laysTense_124 : decode cX9_laysTense 124 = .ok (.iload 4, 2) := by decide +kernel
theorem dX9_laysTense_126 : decode cX9_laysTense 126 = .ok (.bipush 6, 2) := by decide +kernel
theorem dX9_laysTense_128 : decode cX9_laysTense 128 = .ok (.if_icmp .ge 12, 3) := by decide +kernel
theorem dX9_laysTense_131 : decode cX9_laysTense 131 = .ok (.aload_n 0, 1) := by decide +kernel
theorem dX9_laysTense_132 : decode cX9_laysTense 132 = .ok (.iload_n 2, 1) := by decide +kernel
theorem dX9_laysTense_133 : decode cX9_laysTense 133 = .ok (.iconst 0, 1) := by decide +kernel
theorem dX9_laysTense_134 : decode cX9_laysTense 134 = .ok (.invokevirtual 115, 3) := by decide +kernel
theorem dX9_laysTense_137 : decode cX9_laysTense 137 = .ok (.goto 9, 3) := by decide +kernel
theorem dX9_laysTense_140 : decode cX9_laysTense 140 = .ok (.aload_n 0, 1) := by decide +kernel
theorem dX9_laysTense_141 : decode cX9_laysTense 141 = .ok (.iconst 0, 1) := by decide +kernel
theorem dX9_laysTense_142 : decode cX9_laysTense 142 = .ok (.iload_n 2, 1) := by decide +kernel
theorem dX9_laysTense_143 : decode cX9_laysTense 143 = .ok (.invokevirtual 111, 3) := by decide +kernel
theorem dX9_laysTense_146 : decode cX9_laysTense 146 = .ok (.return_, 1) := by decide +kernel
theorem dX9_laysLink_0 : decode cX9_laysLink 0 = .ok (.aload_n 0, 1) := by decide +kernel
theorem dX9_laysLink_1 : decode cX9_laysLink 1 = .ok (.getfield 7, 3) := by decide +kernel
theorem dX9_laysLink_4 : decode cX9_laysLink 4 = .ok (.iconst 2, 1) := by decide +kernel
theorem dX9_laysLink_5 : decode cX9_laysLink 5 = .ok (.iconst 2, 1) := by decide +kernel
theorem dX9_laysLink_6 : decode cX9_laysLink 6 = .ok (.iload_n 1, 1) := by decide +kernel
theorem dX9_laysLink_7 : decode cX9_laysLink 7 = .ok (.imul, 1) := by decide +kernel
theorem dX9_laysLink_8 : decode cX9_laysLink 8 = .ok (.iadd, 1) := by decide +kernel
theorem dX9_laysLink_9 : decode cX9_laysLink 9 = .ok (.iconst 1, 1) := by decide +kernel
theorem dX9_laysLink_10 : decode cX9_laysLink 10 = .ok (.iadd, 1) := by decide +kernel
theorem dX9_laysLink_11 : decode cX9_laysLink 11 = .ok (.iaload, 1) := by decide +kernel
theorem dX9_laysLink_12 : decode cX9_laysLink 12 = .ok (.istore_n 2, 1) := by decide +kernel
theorem dX9_laysLink_13 : decode cX9_laysLink 13 = .ok (.iconst 1, 1) := by decide +kernel
theorem dX9_laysLink_14 : decode cX9_laysLink 14 = .ok (.iconst 2, 1) := by decide +kernel
theorem dX9_laysLink_15 : decode cX9_laysLink 15 = .ok (.iload_n 1, 1) := by decide +kernel
theorem dX9_laysLink_16 : decode cX9_laysLink 16 = .ok (.imul, 1) := by decide +kernel
theorem dX9_laysLink_17 : decode cX9_laysLink 17 = .ok (.iadd, 1) := by decide +kernel
theorem dX9_laysLink_18 : decode cX9_laysLink 18 = .ok (.istore_n 3, 1) := by decide +kernel
theorem dX9_laysLink_19 : decode cX9_laysLink 19 = .ok (.iload_n 2, 1) := by decide +kernel
theorem dX9_laysLink_20 : decode cX9_laysLink 20 = .ok (.ifCond .ne 14, 3) := by decide +kernel
theorem dX9_laysLink_23 : decode cX9_laysLink 23 = .ok (.aload_n 0, 1) := by decide +kernel
theorem dX9_laysLink_24 : decode cX9_laysLink 24 = .ok (.iload_n 3, 1) := by decide +kernel
theorem dX9_laysLink_25 : decode cX9_laysLink 25 = .ok (.iconst 2, 1) := by decide +kernel
theorem dX9_laysLink_26 : decode cX9_laysLink 26 = .ok (.isub, 1) := by decide +kernel
theorem dX9_laysLink_27 : decode cX9_laysLink 27 = .ok (.iload_n 3, 1) := by decide +kernel
theorem dX9_laysLink_28 : decode cX9_laysLink 28 = .ok (.invokevirtual 111, 3) := by decide +kernel
theorem dX9_laysLink_31 : decode cX9_laysLink 31 = .ok (.goto 32, 3) := by decide +kernel
theorem dX9_laysLink_34 : decode cX9_laysLink 34 = .ok (.iload_n 2, 1) := by decide +kernel
theorem dX9_laysLink_35 : decode cX9_laysLink 35 = .ok (.iconst 1, 1) := by decide +kernel
theorem dX9_laysLink_36 : decode cX9_laysLink 36 = .ok (.if_icmp .ne 14, 3) := by decide +kernel
theorem dX9_laysLink_39 : decode cX9_laysLink 39 = .ok (.aload_n 0, 1) := by decide +kernel
theorem dX9_laysLink_40 : decode cX9_laysLink 40 = .ok (.iload_n 3, 1) := by decide +kernel
theorem dX9_laysLink_41 : decode cX9_laysLink 41 = .ok (.iconst 2, 1) := by decide +kernel
theorem dX9_laysLink_42 : decode cX9_laysLink 42 = .ok (.isub, 1) := by decide +kernel
theorem dX9_laysLink_43 : decode cX9_laysLink 43 = .ok (.iload_n 3, 1) := by decide +kernel
theorem dX9_laysLink_44 : decode cX9_laysLink 44 = .ok (.invokevirtual 115, 3) := by decide +kernel
theorem dX9_laysLink_47 : decode cX9_laysLink 47 = .ok (.goto 16, 3) := by decide +kernel
theorem dX9_laysLink_50 : decode cX9_laysLink 50 = .ok (.iload_n 2, 1) := by decide +kernel
theorem dX9_laysLink_51 : decode cX9_laysLink 51 = .ok (.iconst 2, 1) := by decide +kernel
theorem dX9_laysLink_52 : decode cX9_laysLink 52 = .ok (.if_icmp .ne 11, 3) := by decide +kernel
theorem dX9_laysLink_55 : decode cX9_laysLink 55 = .ok (.aload_n 0, 1) := by decide +kernel
theorem dX9_laysLink_56 : decode cX9_laysLink 56 = .ok (.iload_n 3, 1) := by decide +kernel
theorem dX9_laysLink_57 : decode cX9_laysLink 57 = .ok (.iload_n 3, 1) := by decide +kernel
theorem dX9_laysLink_58 : decode cX9_laysLink 58 = .ok (.iconst 2, 1) := by decide +kernel
theorem dX9_laysLink_59 : decode cX9_laysLink 59 = .ok (.isub, 1) := by decide +kernel
theorem dX9_laysLink_60 : decode cX9_laysLink 60 = .ok (.invokevirtual 111, 3) := by decide +kernel
theorem dX9_laysLink_63 : decode cX9_laysLink 63 = .ok (.return_, 1) := by decide +kernel
theorem dX9_laysAll_0 : decode cX9_laysAll 0 = .ok (.aload_n 0, 1) := by decide +kernel
theorem dX9_laysAll_1 : decode cX9_laysAll 1 = .ok (.iconst 1, 1) := by decide +kernel
theorem dX9_laysAll_2 : decode cX9_laysAll 2 = .ok (.iconst 2, 1) := by decide +kernel
theorem dX9_laysAll_3 : decode cX9_laysAll 3 = .ok (.aload_n 0, 1) := by decide +kernel
theorem dX9_laysAll_4 : decode cX9_laysAll 4 = .ok (.getfield 7, 3) := by decide +kernel
theorem dX9_laysAll_7 : decode cX9_laysAll 7 = .ok (.iconst 0, 1) := by decide +kernel
theorem dX9_laysAll_8 : decode cX9_laysAll 8 = .ok (.iaload, 1) := by decide +kernel
theorem dX9_laysAll_9 : decode cX9_laysAll 9 = .ok (.imul, 1) := by decide +kernel
theorem dX9_laysAll_10 : decode cX9_laysAll 10 = .ok (.iadd, 1) := by decide +kernel
theorem dX9_laysAll_11 : decode cX9_laysAll 11 = .ok (.putfield 108, 3) := by decide +kernel
theorem dX9_laysAll_14 : decode cX9_laysAll 14 = .ok (.iconst 0, 1) := by decide +kernel
theorem dX9_laysAll_15 : decode cX9_laysAll 15 = .ok (.istore 5, 2) := by decide +kernel
theorem dX9_laysAll_17 : decode cX9_laysAll 17 = .ok (.iload 5, 2) := by decide +kernel
theorem dX9_laysAll_19 : decode cX9_laysAll 19 = .ok (.aload_n 0, 1) := by decide +kernel
theorem dX9_laysAll_20 : decode cX9_laysAll 20 = .ok (.getfield 108, 3) := by decide +kernel
theorem dX9_laysAll_23 : decode cX9_laysAll 23 = .ok (.if_icmp .ge 26, 3) := by decide +kernel
theorem dX9_laysAll_26 : decode cX9_laysAll 26 = .ok (.aload_n 0, 1) := by decide +kernel
theorem dX9_laysAll_27 : decode cX9_laysAll 27 = .ok (.getfield 38, 3) := by decide +kernel
theorem dX9_laysAll_30 : decode cX9_laysAll 30 = .ok (.iload 5, 2) := by decide +kernel
theorem dX9_laysAll_32 : decode cX9_laysAll 32 = .ok (.iload 5, 2) := by decide +kernel
theorem dX9_laysAll_34 : decode cX9_laysAll 34 = .ok (.iastore, 1) := by decide +kernel
theorem dX9_laysAll_35 : decode cX9_laysAll 35 = .ok (.aload_n 0, 1) := by decide +kernel
theorem dX9_laysAll_36 : decode cX9_laysAll 36 = .ok (.getfield 41, 3) := by decide +kernel
theorem dX9_laysAll_39 : decode cX9_laysAll 39 = .ok (.iload 5, 2) := by decide +kernel
theorem dX9_laysAll_41 : decode cX9_laysAll 41 = .ok (.iconst 0, 1) := by decide +kernel
theorem dX9_laysAll_42 : decode cX9_laysAll 42 = .ok (.iastore, 1) := by decide +kernel
theorem dX9_laysAll_43 : decode cX9_laysAll 43 = .ok (.iinc 5 1, 3) := by decide +kernel
theorem dX9_laysAll_46 : decode cX9_laysAll 46 = .ok (.goto (-29), 3) := by decide +kernel
theorem dX9_laysAll_49 : decode cX9_laysAll 49 = .ok (.iconst 0, 1) := by decide +kernel
theorem dX9_laysAll_50 : decode cX9_laysAll 50 = .ok (.istore 5, 2) := by decide +kernel
theorem dX9_laysAll_52 : decode cX9_laysAll 52 = .ok (.iload 5, 2) := by decide +kernel
theorem dX9_laysAll_54 : decode cX9_laysAll 54 = .ok (.aload_n 0, 1) := by decide +kernel
theorem dX9_laysAll_55 : decode cX9_laysAll 55 = .ok (.getfield 7, 3) := by decide +kernel
theorem dX9_laysAll_58 : decode cX9_laysAll 58 = .ok (.iconst 1, 1) := by decide +kernel
theorem dX9_laysAll_59 : decode cX9_laysAll 59 = .ok (.iaload, 1) := by decide +kernel
theorem dX9_laysAll_60 : decode cX9_laysAll 60 = .ok (.if_icmp .ge 75, 3) := by decide +kernel
theorem dX9_laysAll_63 : decode cX9_laysAll 63 = .ok (.iload_n 1, 1) := by decide +kernel
theorem dX9_laysAll_64 : decode cX9_laysAll 64 = .ok (.iload 5, 2) := by decide +kernel
theorem dX9_laysAll_66 : decode cX9_laysAll 66 = .ok (.ishr, 1) := by decide +kernel
theorem dX9_laysAll_67 : decode cX9_laysAll 67 = .ok (.iconst 1, 1) := by decide +kernel
theorem dX9_laysAll_68 : decode cX9_laysAll 68 = .ok (.iand, 1) := by decide +kernel
theorem dX9_laysAll_69 : decode cX9_laysAll 69 = .ok (.iconst 1, 1) := by decide +kernel
theorem dX9_laysAll_70 : decode cX9_laysAll 70 = .ok (.if_icmp .ne 59, 3) := by decide +kernel
theorem dX9_laysAll_73 : decode cX9_laysAll 73 = .ok (.aload_n 0, 1) := by decide +kernel
theorem dX9_laysAll_74 : decode cX9_laysAll 74 = .ok (.iload 5, 2) := by decide +kernel
theorem dX9_laysAll_76 : decode cX9_laysAll 76 = .ok (.iconst 0, 1) := by decide +kernel
theorem dX9_laysAll_77 : decode cX9_laysAll 77 = .ok (.invokevirtual 118, 3) := by decide +kernel
theorem dX9_laysAll_80 : decode cX9_laysAll 80 = .ok (.istore 6, 2) := by decide +kernel
theorem dX9_laysAll_82 : decode cX9_laysAll 82 = .ok (.iload 6, 2) := by decide +kernel
theorem dX9_laysAll_84 : decode cX9_laysAll 84 = .ok (.bipush (-9), 2) := by decide +kernel
theorem dX9_laysAll_86 : decode cX9_laysAll 86 = .ok (.if_icmp .ne 31, 3) := by decide +kernel
theorem dX9_laysAll_89 : decode cX9_laysAll 89 = .ok (.aload_n 0, 1) := by decide +kernel
theorem dX9_laysAll_90 : decode cX9_laysAll 90 = .ok (.aload_n 0, 1) := by decide +kernel
theorem dX9_laysAll_91 : decode cX9_laysAll 91 = .ok (.iload 5, 2) := by decide +kernel
theorem dX9_laysAll_93 : decode cX9_laysAll 93 = .ok (.iconst 1, 1) := by decide +kernel
theorem dX9_laysAll_94 : decode cX9_laysAll 94 = .ok (.invokevirtual 118, 3) := by decide +kernel
theorem dX9_laysAll_97 : decode cX9_laysAll 97 = .ok (.aload_n 0, 1) := by decide +kernel
theorem dX9_laysAll_98 : decode cX9_laysAll 98 = .ok (.iload 5, 2) := by decide +kernel
theorem dX9_laysAll_100 : decode cX9_laysAll 100 = .ok (.iconst 2, 1) := by decide +kernel
theorem dX9_laysAll_101 : decode cX9_laysAll 101 = .ok (.invokevirtual 118, 3) := by decide +kernel
theorem dX9_laysAll_104 : decode cX9_laysAll 104 = .ok (.aload_n 0, 1) := by decide +kernel
theorem dX9_laysAll_105 : decode cX9_laysAll 105 = .ok (.iload 5, 2) := by decide +kernel
theorem dX9_laysAll_107 : decode cX9_laysAll 107 = .ok (.iconst 3, 1) := by decide +kernel
theorem dX9_laysAll_108 : decode cX9_laysAll 108 = .ok (.invokevirtual 118, 3) := by decide +kernel
theorem dX9_laysAll_111 : decode cX9_laysAll 111 = .ok (.invokevirtual 122, 3) := by decide +kernel
theorem dX9_laysAll_114 : decode cX9_laysAll 114 = .ok (.goto 15, 3) := by decide +kernel
theorem dX9_laysAll_117 : decode cX9_laysAll 117 = .ok (.aload_n 0, 1) := by decide +kernel
theorem dX9_laysAll_118 : decode cX9_laysAll 118 = .ok (.iload 6, 2) := by decide +kernel
theorem dX9_laysAll_120 : decode cX9_laysAll 120 = .ok (.invokevirtual 126, 3) := by decide +kernel
theorem dX9_laysAll_123 : decode cX9_laysAll 123 = .ok (.aload_n 0, 1) := by decide +kernel
theorem dX9_laysAll_124 : decode cX9_laysAll 124 = .ok (.iload 6, 2) := by decide +kernel
theorem dX9_laysAll_126 : decode cX9_laysAll 126 = .ok (.invokevirtual 130, 3) := by decide +kernel
theorem dX9_laysAll_129 : decode cX9_laysAll 129 = .ok (.iinc 5 1, 3) := by decide +kernel
theorem dX9_laysAll_132 : decode cX9_laysAll 132 = .ok (.goto (-80), 3) := by decide +kernel
theorem dX9_laysAll_135 : decode cX9_laysAll 135 = .ok (.iload_n 3, 1) := by decide +kernel
theorem dX9_laysAll_136 : decode cX9_laysAll 136 = .ok (.bipush (-9), 2) := by decide +kernel
theorem dX9_laysAll_138 : decode cX9_laysAll 138 = .ok (.if_icmp .eq 11, 3) := by decide +kernel
theorem dX9_laysAll_141 : decode cX9_laysAll 141 = .ok (.aload_n 0, 1) := by decide +kernel
theorem dX9_laysAll_142 : decode cX9_laysAll 142 = .ok (.iload_n 2, 1) := by decide +kernel
theorem dX9_laysAll_143 : decode cX9_laysAll 143 = .ok (.iload_n 3, 1) := by decide +kernel
theorem dX9_laysAll_144 : decode cX9_laysAll 144 = .ok (.iload 4, 2) := by decide +kernel
theorem dX9_laysAll_146 : decode cX9_laysAll 146 = .ok (.invokevirtual 122, 3) := by decide +kernel
theorem dX9_laysAll_149 : decode cX9_laysAll 149 = .ok (.return_, 1) := by decide +kernel
theorem dX9_classOf_0 : decode cX9_classOf 0 = .ok (.iconst 0, 1) := by decide +kernel
theorem dX9_classOf_1 : decode cX9_classOf 1 = .ok (.istore_n 2, 1) := by decide +kernel
theorem dX9_classOf_2 : decode cX9_classOf 2 = .ok (.iconst 0, 1) := by decide +kernel
theorem dX9_classOf_3 : decode cX9_classOf 3 = .ok (.istore_n 3, 1) := by decide +kernel
theorem dX9_classOf_4 : decode cX9_classOf 4 = .ok (.iload_n 3, 1) := by decide +kernel
theorem dX9_classOf_5 : decode cX9_classOf 5 = .ok (.aload_n 0, 1) := by decide +kernel
theorem dX9_classOf_6 : decode cX9_classOf 6 = .ok (.getfield 108, 3) := by decide +kernel
theorem dX9_classOf_9 : decode cX9_classOf 9 = .ok (.if_icmp .ge 34, 3) := by decide +kernel
theorem dX9_classOf_12 : decode cX9_classOf 12 = .ok (.iload_n 2, 1) := by decide +kernel
theorem dX9_classOf_13 : decode cX9_classOf 13 = .ok (.aload_n 0, 1) := by decide +kernel
theorem dX9_classOf_14 : decode cX9_classOf 14 = .ok (.getfield 38, 3) := by decide +kernel
theorem dX9_classOf_17 : decode cX9_classOf 17 = .ok (.iload_n 3, 1) := by decide +kernel
theorem dX9_classOf_18 : decode cX9_classOf 18 = .ok (.iaload, 1) := by decide +kernel
theorem dX9_classOf_19 : decode cX9_classOf 19 = .ok (.aload_n 0, 1) := by decide +kernel
theorem dX9_classOf_20 : decode cX9_classOf 20 = .ok (.getfield 38, 3) := by decide +kernel
theorem dX9_classOf_23 : decode cX9_classOf 23 = .ok (.iload_n 1, 1) := by decide +kernel
theorem dX9_classOf_24 : decode cX9_classOf 24 = .ok (.iaload, 1) := by decide +kernel
theorem dX9_classOf_25 : decode cX9_classOf 25 = .ok (.if_icmp .ne 9, 3) := by decide +kernel
theorem dX9_classOf_28 : decode cX9_classOf 28 = .ok (.iconst 1, 1) := by decide +kernel
theorem dX9_classOf_29 : decode cX9_classOf 29 = .ok (.iload_n 3, 1) := by decide +kernel
theorem dX9_classOf_30 : decode cX9_classOf 30 = .ok (.ishl, 1) := by decide +kernel
theorem dX9_classOf_31 : decode cX9_classOf 31 = .ok (.goto 4, 3) := by decide +kernel
theorem dX9_classOf_34 : decode cX9_classOf 34 = .ok (.iconst 0, 1) := by decide +kernel
theorem dX9_classOf_35 : decode cX9_classOf 35 = .ok (.ior, 1) := by decide +kernel
theorem dX9_classOf_36 : decode cX9_classOf 36 = .ok (.istore_n 2, 1) := by decide +kernel
theorem dX9_classOf_37 : decode cX9_classOf 37 = .ok (.iinc 3 1, 3) := by decide +kernel
theorem dX9_classOf_40 : decode cX9_classOf 40 = .ok (.goto (-36), 3) := by decide +kernel
theorem dX9_classOf_43 : decode cX9_classOf 43 = .ok (.iload_n 2, 1) := by decide +kernel
theorem dX9_classOf_44 : decode cX9_classOf 44 = .ok (.ireturn, 1) := by decide +kernel
theorem dX9_isSound_0 : decode cX9_isSound 0 = .ok (.iconst 0, 1) := by decide +kernel
theorem dX9_isSound_1 : decode cX9_isSound 1 = .ok (.istore_n 1, 1) := by decide +kernel
theorem dX9_isSound_2 : decode cX9_isSound 2 = .ok (.iconst 0, 1) := by decide +kernel
theorem dX9_isSound_3 : decode cX9_isSound 3 = .ok (.istore_n 2, 1) := by decide +kernel
theorem dX9_isSound_4 : decode cX9_isSound 4 = .ok (.iconst 1, 1) := by decide +kernel
theorem dX9_isSound_5 : decode cX9_isSound 5 = .ok (.aload_n 0, 1) := by decide +kernel
theorem dX9_isSound_6 : decode cX9_isSound 6 = .ok (.getfield 108, 3) := by decide +kernel
theorem dX9_isSound_9 : decode cX9_isSound 9 = .ok (.ishl, 1) := by decide +kernel
theorem dX9_isSound_10 : decode cX9_isSound 10 = .ok (.iconst 1, 1) := by decide +kernel
theorem dX9_isSound_11 : decode cX9_isSound 11 = .ok (.isub, 1) := by decide +kernel
theorem dX9_isSound_12 : decode cX9_isSound 12 = .ok (.istore_n 3, 1) := by decide +kernel
theorem dX9_isSound_13 : decode cX9_isSound 13 = .ok (.iconst 1, 1) := by decide +kernel
theorem dX9_isSound_14 : decode cX9_isSound 14 = .ok (.istore 4, 2) := by decide +kernel
theorem dX9_isSound_16 : decode cX9_isSound 16 = .ok (.iload 4, 2) := by decide +kernel
theorem dX9_isSound_18 : decode cX9_isSound 18 = .ok (.ifCond .eq 186, 3) := by decide +kernel
theorem dX9_isSound_21 : decode cX9_isSound 21 = .ok (.iconst 0, 1) := by decide +kernel
theorem dX9_isSound_22 : decode cX9_isSound 22 = .ok (.istore 5, 2) := by decide +kernel
theorem dX9_isSound_24 : decode cX9_isSound 24 = .ok (.iconst 0, 1) := by decide +kernel
theorem dX9_isSound_25 : decode cX9_isSound 25 = .ok (.istore 6, 2) := by decide +kernel
theorem dX9_isSound_27 : decode cX9_isSound 27 = .ok (.iload 6, 2) := by decide +kernel
theorem dX9_isSound_29 : decode cX9_isSound 29 = .ok (.aload_n 0, 1) := by decide +kernel
theorem dX9_isSound_30 : decode cX9_isSound 30 = .ok (.getfield 108, 3) := by decide +kernel
theorem dX9_isSound_33 : decode cX9_isSound 33 = .ok (.if_icmp .ge 96, 3) := by decide +kernel
theorem dX9_isSound_36 : decode cX9_isSound 36 = .ok (.aload_n 0, 1) := by decide +kernel
theorem dX9_isSound_37 : decode cX9_isSound 37 = .ok (.iload 6, 2) := by decide +kernel
theorem dX9_isSound_39 : decode cX9_isSound 39 = .ok (.invokevirtual 133, 3) := by decide +kernel
theorem dX9_isSound_42 : decode cX9_isSound 42 = .ok (.istore 7, 2) := by decide +kernel
theorem dX9_isSound_44 : decode cX9_isSound 44 = .ok (.iconst 0, 1) := by decide +kernel
theorem dX9_isSound_45 : decode cX9_isSound 45 = .ok (.istore 8, 2) := by decide +kernel
theorem dX9_isSound_47 : decode cX9_isSound 47 = .ok (.iconst 0, 1) := by decide +kernel
theorem dX9_isSound_48 : decode cX9_isSound 48 = .ok (.istore 9, 2) := by decide +kernel
theorem dX9_isSound_50 : decode cX9_isSound 50 = .ok (.iload 9, 2) := by decide +kernel
theorem dX9_isSound_52 : decode cX9_isSound 52 = .ok (.aload_n 0, 1) := by decide +kernel
theorem dX9_isSound_53 : decode cX9_isSound 53 = .ok (.getfield 108, 3) := by decide +kernel
theorem dX9_isSound_56 : decode cX9_isSound 56 = .ok (.if_icmp .ge 36, 3) := by decide +kernel
theorem dX9_isSound_59 : decode cX9_isSound 59 = .ok (.iload 8, 2) := by decide +kernel
theorem dX9_isSound_61 : decode cX9_isSound 61 = .ok (.iload 7, 2) := by decide +kernel
theorem dX9_isSound_63 : decode cX9_isSound 63 = .ok (.iload 9, 2) := by decide +kernel
theorem dX9_isSound_65 : decode cX9_isSound 65 = .ok (.ishr, 1) := by decide +kernel
theorem dX9_isSound_66 : decode cX9_isSound 66 = .ok (.iconst 1, 1) := by decide +kernel
theorem dX9_isSound_67 : decode cX9_isSound 67 = .ok (.iand, 1) := by decide +kernel
theorem dX9_isSound_68 : decode cX9_isSound 68 = .ok (.iconst 1, 1) := by decide +kernel
theorem dX9_isSound_69 : decode cX9_isSound 69 = .ok (.if_icmp .ne 13, 3) := by decide +kernel
theorem dX9_isSound_72 : decode cX9_isSound 72 = .ok (.aload_n 0, 1) := by decide +kernel
theorem dX9_isSound_73 : decode cX9_isSound 73 = .ok (.getfield 41, 3) := by decide +kernel
theorem dX9_isSound_76 : decode cX9_isSound 76 = .ok (.iload 9, 2) := by decide +kernel
theorem dX9_isSound_78 : decode cX9_isSound 78 = .ok (.iaload, 1) := by decide +kernel
theorem dX9_isSound_79 : decode cX9_isSound 79 = .ok (.goto 4, 3) := by decide +kernel
theorem dX9_isSound_82 : decode cX9_isSound 82 = .ok (.iconst 0, 1) := by decide +kernel
theorem dX9_isSound_83 : decode cX9_isSound 83 = .ok (.ior, 1) := by decide +kernel
theorem dX9_isSound_84 : decode cX9_isSound 84 = .ok (.istore 8, 2) := by decide +kernel
theorem dX9_isSound_86 : decode cX9_isSound 86 = .ok (.iinc 9 1, 3) := by decide +kernel
theorem dX9_isSound_89 : decode cX9_isSound 89 = .ok (.goto (-39), 3) := by decide +kernel
theorem dX9_isSound_92 : decode cX9_isSound 92 = .ok (.iload 5, 2) := by decide +kernel
theorem dX9_isSound_94 : decode cX9_isSound 94 = .ok (.iload_n 1, 1) := by decide +kernel
theorem dX9_isSound_95 : decode cX9_isSound 95 = .ok (.iload 6, 2) := by decide +kernel
theorem dX9_isSound_97 : decode cX9_isSound 97 = .ok (.ishr, 1) := by decide +kernel
theorem dX9_isSound_98 : decode cX9_isSound 98 = .ok (.iconst 1, 1) := by decide +kernel
theorem dX9_isSound_99 : decode cX9_isSound 99 = .ok (.iand, 1) := by decide +kernel
theorem dX9_isSound_100 : decode cX9_isSound 100 = .ok (.ifCond .ne 19, 3) := by decide +kernel
theorem dX9_isSound_103 : decode cX9_isSound 103 = .ok (.iload 8, 2) := by decide +kernel
theorem dX9_isSound_105 : decode cX9_isSound 105 = .ok (.iload_n 1, 1) := by decide +kernel
theorem dX9_isSound_106 : decode cX9_isSound 106 = .ok (.iconst (-1), 1) := by decide +kernel
theorem dX9_isSound_107 : decode cX9_isSound 107 = .ok (.ixor, 1) := by decide +kernel
theorem dX9_isSound_108 : decode cX9_isSound 108 = .ok (.iand, 1) := by decide +kernel
theorem dX9_isSound_109 : decode cX9_isSound 109 = .ok (.ifCond .ne 10, 3) := by decide +kernel
theorem dX9_isSound_112 : decode cX9_isSound 112 = .ok (.iconst 1, 1) := by decide +kernel
theorem dX9_isSound_113 : decode cX9_isSound 113 = .ok (.iload 6, 2) := by decide +kernel
theorem dX9_isSound_115 : decode cX9_isSound 115 = .ok (.ishl, 1) := by decide +kernel
theorem dX9_isSound_116 : decode cX9_isSound 116 = .ok (.goto 4, 3) := by decide +kernel
theorem dX9_isSound_119 : decode cX9_isSound 119 = .ok (.iconst 0, 1) := by decide +kernel
theorem dX9_isSound_120 : decode cX9_isSound 120 = .ok (.ior, 1) := by decide +kernel
theorem dX9_isSound_121 : decode cX9_isSound 121 = .ok (.istore 5, 2) := by decide +kernel
theorem dX9_isSound_123 : decode cX9_isSound 123 = .ok (.iinc 6 1, 3) := by decide +kernel
theorem dX9_isSound_126 : decode cX9_isSound 126 = .ok (.goto (-99), 3) := by decide +kernel
theorem dX9_isSound_129 : decode cX9_isSound 129 = .ok (.iconst 0, 1) := by decide +kernel
theorem dX9_isSound_130 : decode cX9_isSound 130 = .ok (.istore 6, 2) := by decide +kernel
theorem dX9_isSound_132 : decode cX9_isSound 132 = .ok (.iload 6, 2) := by decide +kernel
theorem dX9_isSound_134 : decode cX9_isSound 134 = .ok (.aload_n 0, 1) := by decide +kernel
theorem dX9_isSound_135 : decode cX9_isSound 135 = .ok (.getfield 108, 3) := by decide +kernel
theorem dX9_isSound_138 : decode cX9_isSound 138 = .ok (.if_icmp .ge 38, 3) := by decide +kernel
theorem dX9_isSound_141 : decode cX9_isSound 141 = .ok (.aload_n 0, 1) := by decide +kernel
theorem dX9_isSound_142 : decode cX9_isSound 142 = .ok (.getfield 44, 3) := by decide +kernel
theorem dX9_isSound_145 : decode cX9_isSound 145 = .ok (.iload 6, 2) := by decide +kernel
theorem dX9_isSound_147 : decode cX9_isSound 147 = .ok (.iload 5, 2) := by decide +kernel
theorem dX9_isSound_149 : decode cX9_isSound 149 = .ok (.iload 6, 2) := by decide +kernel
theorem dX9_isSound_151 : decode cX9_isSound 151 = .ok (.ishr, 1) := by decide +kernel
theorem dX9_isSound_152 : decode cX9_isSound 152 = .ok (.iconst 1, 1) := by decide +kernel
theorem dX9_isSound_153 : decode cX9_isSound 153 = .ok (.iand, 1) := by decide +kernel
theorem dX9_isSound_154 : decode cX9_isSound 154 = .ok (.iconst 1, 1) := by decide +kernel
theorem dX9_isSound_155 : decode cX9_isSound 155 = .ok (.if_icmp .ne 7, 3) := by decide +kernel
theorem dX9_isSound_158 : decode cX9_isSound 158 = .ok (.iload_n 2, 1) := by decide +kernel
theorem dX9_isSound_159 : decode cX9_isSound 159 = .ok (.goto 10, 3) := by decide +kernel
theorem dX9_isSound_162 : decode cX9_isSound 162 = .ok (.aload_n 0, 1) := by decide +kernel
theorem dX9_isSound_163 : decode cX9_isSound 163 = .ok (.getfield 44, 3) := by decide +kernel
theorem dX9_isSound_166 : decode cX9_isSound 166 = .ok (.iload 6, 2) := by decide +kernel
theorem dX9_isSound_168 : decode cX9_isSound 168 = .ok (.iaload, 1) := by decide +kernel
theorem dX9_isSound_169 : decode cX9_isSound 169 = .ok (.iastore, 1) := by decide +kernel
theorem dX9_isSound_170 : decode cX9_isSound 170 = .ok (.iinc 6 1, 3) := by decide +kernel
theorem dX9_isSound_173 : decode cX9_isSound 173 = .ok (.goto (-41), 3) := by decide +kernel
theorem dX9_isSound_176 : decode cX9_isSound 176 = .ok (.iload_n 1, 1) := by decide +kernel
theorem dX9_isSound_177 : decode cX9_isSound 177 = .ok (.iload 5, 2) := by decide +kernel
theorem dX9_isSound_179 : decode cX9_isSound 179 = .ok (.ior, 1) := by decide +kernel
theorem dX9_isSound_180 : decode cX9_isSound 180 = .ok (.istore_n 1, 1) := by decide +kernel
theorem dX9_isSound_181 : decode cX9_isSound 181 = .ok (.iinc 2 1, 3) := by decide +kernel
theorem dX9_isSound_184 : decode cX9_isSound 184 = .ok (.iload 5, 2) := by decide +kernel
theorem dX9_isSound_186 : decode cX9_isSound 186 = .ok (.ifCond .eq 12, 3) := by decide +kernel
theorem dX9_isSound_189 : decode cX9_isSound 189 = .ok (.iload_n 1, 1) := by decide +kernel
theorem dX9_isSound_190 : decode cX9_isSound 190 = .ok (.iload_n 3, 1) := by decide +kernel
theorem dX9_isSound_191 : decode cX9_isSound 191 = .ok (.if_icmp .eq 7, 3) := by decide +kernel
theorem dX9_isSound_194 : decode cX9_isSound 194 = .ok (.iconst 1, 1) := by decide +kernel
theorem dX9_isSound_195 : decode cX9_isSound 195 = .ok (.goto 4, 3) := by decide +kernel
theorem dX9_isSound_198 : decode cX9_isSound 198 = .ok (.iconst 0, 1) := by decide +kernel
theorem dX9_isSound_199 : decode cX9_isSound 199 = .ok (.istore 4, 2) := by decide +kernel
theorem dX9_isSound_201 : decode cX9_isSound 201 = .ok (.goto (-185), 3) := by decide +kernel
theorem dX9_isSound_204 : decode cX9_isSound 204 = .ok (.iload_n 1, 1) := by decide +kernel
theorem dX9_isSound_205 : decode cX9_isSound 205 = .ok (.iload_n 3, 1) := by decide +kernel
theorem dX9_isSound_206 : decode cX9_isSound 206 = .ok (.if_icmp .ne 7, 3) := by decide +kernel
theorem dX9_isSound_209 : decode cX9_isSound 209 = .ok (.iconst 1, 1) := by decide +kernel
theorem dX9_isSound_210 : decode cX9_isSound 210 = .ok (.goto 4, 3) := by decide +kernel
theorem dX9_isSound_213 : decode cX9_isSound 213 = .ok (.iconst 0, 1) := by decide +kernel
theorem dX9_isSound_214 : decode cX9_isSound 214 = .ok (.ireturn, 1) := by decide +kernel
theorem dX9_laysBelow_0 : decode cX9_laysBelow 0 = .ok (.iconst 0, 1) := by decide +kernel
theorem dX9_laysBelow_1 : decode cX9_laysBelow 1 = .ok (.istore_n 1, 1) := by decide +kernel
theorem dX9_laysBelow_2 : decode cX9_laysBelow 2 = .ok (.iload_n 1, 1) := by decide +kernel
theorem dX9_laysBelow_3 : decode cX9_laysBelow 3 = .ok (.aload_n 0, 1) := by decide +kernel
theorem dX9_laysBelow_4 : decode cX9_laysBelow 4 = .ok (.getfield 108, 3) := by decide +kernel
theorem dX9_laysBelow_7 : decode cX9_laysBelow 7 = .ok (.if_icmp .ge 16, 3) := by decide +kernel
theorem dX9_laysBelow_10 : decode cX9_laysBelow 10 = .ok (.aload_n 0, 1) := by decide +kernel
theorem dX9_laysBelow_11 : decode cX9_laysBelow 11 = .ok (.getfield 47, 3) := by decide +kernel
theorem dX9_laysBelow_14 : decode cX9_laysBelow 14 = .ok (.iload_n 1, 1) := by decide +kernel
theorem dX9_laysBelow_15 : decode cX9_laysBelow 15 = .ok (.iconst 0, 1) := by decide +kernel
theorem dX9_laysBelow_16 : decode cX9_laysBelow 16 = .ok (.iastore, 1) := by decide +kernel
theorem dX9_laysBelow_17 : decode cX9_laysBelow 17 = .ok (.iinc 1 1, 3) := by decide +kernel
theorem dX9_laysBelow_20 : decode cX9_laysBelow 20 = .ok (.goto (-18), 3) := by decide +kernel
theorem dX9_laysBelow_23 : decode cX9_laysBelow 23 = .ok (.iconst 0, 1) := by decide +kernel
theorem dX9_laysBelow_24 : decode cX9_laysBelow 24 = .ok (.istore_n 1, 1) := by decide +kernel
theorem dX9_laysBelow_25 : decode cX9_laysBelow 25 = .ok (.iload_n 1, 1) := by decide +kernel
theorem dX9_laysBelow_26 : decode cX9_laysBelow 26 = .ok (.aload_n 0, 1) := by decide +kernel
theorem dX9_laysBelow_27 : decode cX9_laysBelow 27 = .ok (.getfield 108, 3) := by decide +kernel
theorem dX9_laysBelow_30 : decode cX9_laysBelow 30 = .ok (.if_icmp .ge 142, 3) := by decide +kernel
theorem dX9_laysBelow_33 : decode cX9_laysBelow 33 = .ok (.iconst 0, 1) := by decide +kernel
theorem dX9_laysBelow_34 : decode cX9_laysBelow 34 = .ok (.istore_n 2, 1) := by decide +kernel
theorem dX9_laysBelow_35 : decode cX9_laysBelow 35 = .ok (.iload_n 2, 1) := by decide +kernel
theorem dX9_laysBelow_36 : decode cX9_laysBelow 36 = .ok (.aload_n 0, 1) := by decide +kernel
theorem dX9_laysBelow_37 : decode cX9_laysBelow 37 = .ok (.getfield 108, 3) := by decide +kernel
theorem dX9_laysBelow_40 : decode cX9_laysBelow 40 = .ok (.if_icmp .ge 126, 3) := by decide +kernel
theorem dX9_laysBelow_43 : decode cX9_laysBelow 43 = .ok (.aload_n 0, 1) := by decide +kernel
theorem dX9_laysBelow_44 : decode cX9_laysBelow 44 = .ok (.getfield 44, 3) := by decide +kernel
theorem dX9_laysBelow_47 : decode cX9_laysBelow 47 = .ok (.iload_n 2, 1) := by decide +kernel
theorem dX9_laysBelow_48 : decode cX9_laysBelow 48 = .ok (.iaload, 1) := by decide +kernel
theorem dX9_laysBelow_49 : decode cX9_laysBelow 49 = .ok (.iload_n 1, 1) := by decide +kernel
theorem dX9_laysBelow_50 : decode cX9_laysBelow 50 = .ok (.if_icmp .ne 110, 3) := by decide +kernel
theorem dX9_laysBelow_53 : decode cX9_laysBelow 53 = .ok (.aload_n 0, 1) := by decide +kernel
theorem dX9_laysBelow_54 : decode cX9_laysBelow 54 = .ok (.iload_n 2, 1) := by decide +kernel
theorem dX9_laysBelow_55 : decode cX9_laysBelow 55 = .ok (.invokevirtual 133, 3) := by decide +kernel
theorem dX9_laysBelow_58 : decode cX9_laysBelow 58 = .ok (.istore_n 3, 1) := by decide +kernel
theorem dX9_laysBelow_59 : decode cX9_laysBelow 59 = .ok (.iconst 0, 1) := by decide +kernel
theorem dX9_laysBelow_60 : decode cX9_laysBelow 60 = .ok (.istore 4, 2) := by decide +kernel
theorem dX9_laysBelow_62 : decode cX9_laysBelow 62 = .ok (.iload 4, 2) := by decide +kernel
theorem dX9_laysBelow_64 : decode cX9_laysBelow 64 = .ok (.aload_n 0, 1) := by decide +kernel
theorem dX9_laysBelow_65 : decode cX9_laysBelow 65 = .ok (.getfield 108, 3) := by decide +kernel
theorem dX9_laysBelow_68 : decode cX9_laysBelow 68 = .ok (.if_icmp .ge 92, 3) := by decide +kernel
theorem dX9_laysBelow_71 : decode cX9_laysBelow 71 = .ok (.iconst 0, 1) := by decide +kernel
theorem dX9_laysBelow_72 : decode cX9_laysBelow 72 = .ok (.istore 5, 2) := by decide +kernel
theorem dX9_laysBelow_74 : decode cX9_laysBelow 74 = .ok (.iload 5, 2) := by decide +kernel
theorem dX9_laysBelow_76 : decode cX9_laysBelow 76 = .ok (.aload_n 0, 1) := by decide +kernel
theorem dX9_laysBelow_77 : decode cX9_laysBelow 77 = .ok (.getfield 108, 3) := by decide +kernel
theorem dX9_laysBelow_80 : decode cX9_laysBelow 80 = .ok (.if_icmp .ge 74, 3) := by decide +kernel
theorem dX9_laysBelow_83 : decode cX9_laysBelow 83 = .ok (.iload_n 3, 1) := by decide +kernel
theorem dX9_laysBelow_84 : decode cX9_laysBelow 84 = .ok (.iload 4, 2) := by decide +kernel
theorem dX9_laysBelow_86 : decode cX9_laysBelow 86 = .ok (.ishr, 1) := by decide +kernel
theorem dX9_laysBelow_87 : decode cX9_laysBelow 87 = .ok (.iconst 1, 1) := by decide +kernel
theorem dX9_laysBelow_88 : decode cX9_laysBelow 88 = .ok (.iand, 1) := by decide +kernel
theorem dX9_laysBelow_89 : decode cX9_laysBelow 89 = .ok (.iconst 1, 1) := by decide +kernel
theorem dX9_laysBelow_90 : decode cX9_laysBelow 90 = .ok (.if_icmp .ne 23, 3) := by decide +kernel
theorem dX9_laysBelow_93 : decode cX9_laysBelow 93 = .ok (.aload_n 0, 1) := by decide +kernel
theorem dX9_laysBelow_94 : decode cX9_laysBelow 94 = .ok (.getfield 41, 3) := by decide +kernel
theorem dX9_laysBelow_97 : decode cX9_laysBelow 97 = .ok (.iload 4, 2) := by decide +kernel
theorem dX9_laysBelow_99 : decode cX9_laysBelow 99 = .ok (.iaload, 1) := by decide +kernel
theorem dX9_laysBelow_100 : decode cX9_laysBelow 100 = .ok (.iload 5, 2) := by decide +kernel
theorem dX9_laysBelow_102 : decode cX9_laysBelow 102 = .ok (.ishr, 1) := by decide +kernel
theorem dX9_laysBelow_103 : decode cX9_laysBelow 103 = .ok (.iconst 1, 1) := by decide +kernel
theorem dX9_laysBelow_104 : decode cX9_laysBelow 104 = .ok (.iand, 1) := by decide +kernel
theorem dX9_laysBelow_105 : decode cX9_laysBelow 105 = .ok (.iconst 1, 1) := by decide +kernel
theorem dX9_laysBelow_106 : decode cX9_laysBelow 106 = .ok (.if_icmp .ne 7, 3) := by decide +kernel
theorem dX9_laysBelow_109 : decode cX9_laysBelow 109 = .ok (.iconst 1, 1) := by decide +kernel
theorem dX9_laysBelow_110 : decode cX9_laysBelow 110 = .ok (.goto 4, 3) := by decide +kernel
theorem dX9_laysBelow_113 : decode cX9_laysBelow 113 = .ok (.iconst 0, 1) := by decide +kernel
theorem dX9_laysBelow_114 : decode cX9_laysBelow 114 = .ok (.istore 6, 2) := by decide +kernel
theorem dX9_laysBelow_116 : decode cX9_laysBelow 116 = .ok (.aload_n 0, 1) := by decide +kernel
theorem dX9_laysBelow_117 : decode cX9_laysBelow 117 = .ok (.getfield 47, 3) := by decide +kernel
theorem dX9_laysBelow_120 : decode cX9_laysBelow 120 = .ok (.iload_n 2, 1) := by decide +kernel
theorem dX9_laysBelow_121 : decode cX9_laysBelow 121 = .ok (.dup2, 1) := by decide +kernel
theorem dX9_laysBelow_122 : decode cX9_laysBelow 122 = .ok (.iaload, 1) := by decide +kernel
theorem dX9_laysBelow_123 : decode cX9_laysBelow 123 = .ok (.iload 6, 2) := by decide +kernel
theorem dX9_laysBelow_125 : decode cX9_laysBelow 125 = .ok (.ifCond .eq 20, 3) := by decide +kernel
theorem dX9_laysBelow_128 : decode cX9_laysBelow 128 = .ok (.aload_n 0, 1) := by decide +kernel
theorem dX9_laysBelow_129 : decode cX9_laysBelow 129 = .ok (.iload 5, 2) := by decide +kernel
theorem dX9_laysBelow_131 : decode cX9_laysBelow 131 = .ok (.invokevirtual 133, 3) := by decide +kernel
theorem dX9_laysBelow_134 : decode cX9_laysBelow 134 = .ok (.aload_n 0, 1) := by decide +kernel
theorem dX9_laysBelow_135 : decode cX9_laysBelow 135 = .ok (.getfield 47, 3) := by decide +kernel
theorem dX9_laysBelow_138 : decode cX9_laysBelow 138 = .ok (.iload 5, 2) := by decide +kernel
theorem dX9_laysBelow_140 : decode cX9_laysBelow 140 = .ok (.iaload, 1) := by decide +kernel
theorem dX9_laysBelow_141 : decode cX9_laysBelow 141 = .ok (.ior, 1) := by decide +kernel
theorem dX9_laysBelow_142 : decode cX9_laysBelow 142 = .ok (.goto 4, 3) := by decide +kernel
theorem dX9_laysBelow_145 : decode cX9_laysBelow 145 = .ok (.iconst 0, 1) := by decide +kernel
theorem dX9_laysBelow_146 : decode cX9_laysBelow 146 = .ok (.ior, 1) := by decide +kernel
theorem dX9_laysBelow_147 : decode cX9_laysBelow 147 = .ok (.iastore, 1) := by decide +kernel
theorem dX9_laysBelow_148 : decode cX9_laysBelow 148 = .ok (.iinc 5 1, 3) := by decide +kernel
theorem dX9_laysBelow_151 : decode cX9_laysBelow 151 = .ok (.goto (-77), 3) := by decide +kernel
theorem dX9_laysBelow_154 : decode cX9_laysBelow 154 = .ok (.iinc 4 1, 3) := by decide +kernel
theorem dX9_laysBelow_157 : decode cX9_laysBelow 157 = .ok (.goto (-95), 3) := by decide +kernel
theorem dX9_laysBelow_160 : decode cX9_laysBelow 160 = .ok (.iinc 2 1, 3) := by decide +kernel
theorem dX9_laysBelow_163 : decode cX9_laysBelow 163 = .ok (.goto (-128), 3) := by decide +kernel
theorem dX9_laysBelow_166 : decode cX9_laysBelow 166 = .ok (.iinc 1 1, 3) := by decide +kernel
theorem dX9_laysBelow_169 : decode cX9_laysBelow 169 = .ok (.goto (-144), 3) := by decide +kernel
theorem dX9_laysBelow_172 : decode cX9_laysBelow 172 = .ok (.return_, 1) := by decide +kernel
theorem dX9_knownBy_0 : decode cX9_knownBy 0 = .ok (.aload_n 0, 1) := by decide +kernel
theorem dX9_knownBy_1 : decode cX9_knownBy 1 = .ok (.iload_n 1, 1) := by decide +kernel
theorem dX9_knownBy_2 : decode cX9_knownBy 2 = .ok (.iconst 0, 1) := by decide +kernel
theorem dX9_knownBy_3 : decode cX9_knownBy 3 = .ok (.bipush (-9), 2) := by decide +kernel
theorem dX9_knownBy_5 : decode cX9_knownBy 5 = .ok (.iconst 0, 1) := by decide +kernel
theorem dX9_knownBy_6 : decode cX9_knownBy 6 = .ok (.invokevirtual 136, 3) := by decide +kernel
theorem dX9_knownBy_9 : decode cX9_knownBy 9 = .ok (.aload_n 0, 1) := by decide +kernel
theorem dX9_knownBy_10 : decode cX9_knownBy 10 = .ok (.invokevirtual 139, 3) := by decide +kernel
theorem dX9_knownBy_13 : decode cX9_knownBy 13 = .ok (.ifCond .ne 5, 3) := by decide +kernel
theorem dX9_knownBy_16 : decode cX9_knownBy 16 = .ok (.iconst 4, 1) := by decide +kernel
theorem dX9_knownBy_17 : decode cX9_knownBy 17 = .ok (.ireturn, 1) := by decide +kernel
theorem dX9_knownBy_18 : decode cX9_knownBy 18 = .ok (.aload_n 0, 1) := by decide +kernel
theorem dX9_knownBy_19 : decode cX9_knownBy 19 = .ok (.invokevirtual 142, 3) := by decide +kernel
theorem dX9_knownBy_22 : decode cX9_knownBy 22 = .ok (.aload_n 0, 1) := by decide +kernel
theorem dX9_knownBy_23 : decode cX9_knownBy 23 = .ok (.getfield 38, 3) := by decide +kernel
theorem dX9_knownBy_26 : decode cX9_knownBy 26 = .ok (.iload_n 2, 1) := by decide +kernel
theorem dX9_knownBy_27 : decode cX9_knownBy 27 = .ok (.iaload, 1) := by decide +kernel
theorem dX9_knownBy_28 : decode cX9_knownBy 28 = .ok (.aload_n 0, 1) := by decide +kernel
theorem dX9_knownBy_29 : decode cX9_knownBy 29 = .ok (.getfield 38, 3) := by decide +kernel
theorem dX9_knownBy_32 : decode cX9_knownBy 32 = .ok (.iload_n 3, 1) := by decide +kernel
theorem dX9_knownBy_33 : decode cX9_knownBy 33 = .ok (.iaload, 1) := by decide +kernel
theorem dX9_knownBy_34 : decode cX9_knownBy 34 = .ok (.if_icmp .ne 7, 3) := by decide +kernel
theorem dX9_knownBy_37 : decode cX9_knownBy 37 = .ok (.iconst 2, 1) := by decide +kernel
theorem dX9_knownBy_38 : decode cX9_knownBy 38 = .ok (.goto 40, 3) := by decide +kernel
theorem dX9_knownBy_41 : decode cX9_knownBy 41 = .ok (.aload_n 0, 1) := by decide +kernel
theorem dX9_knownBy_42 : decode cX9_knownBy 42 = .ok (.getfield 47, 3) := by decide +kernel
theorem dX9_knownBy_45 : decode cX9_knownBy 45 = .ok (.iload_n 3, 1) := by decide +kernel
theorem dX9_knownBy_46 : decode cX9_knownBy 46 = .ok (.iaload, 1) := by decide +kernel
theorem dX9_knownBy_47 : decode cX9_knownBy 47 = .ok (.iload_n 2, 1) := by decide +kernel
theorem dX9_knownBy_48 : decode cX9_knownBy 48 = .ok (.ishr, 1) := by decide +kernel
theorem dX9_knownBy_49 : decode cX9_knownBy 49 = .ok (.iconst 1, 1) := by decide +kernel
theorem dX9_knownBy_50 : decode cX9_knownBy 50 = .ok (.iand, 1) := by decide +kernel
theorem dX9_knownBy_51 : decode cX9_knownBy 51 = .ok (.iconst 1, 1) := by decide +kernel
theorem dX9_knownBy_52 : decode cX9_knownBy 52 = .ok (.if_icmp .ne 7, 3) := by decide +kernel
theorem dX9_knownBy_55 : decode cX9_knownBy 55 = .ok (.iconst 1, 1) := by decide +kernel
theorem dX9_knownBy_56 : decode cX9_knownBy 56 = .ok (.goto 22, 3) := by decide +kernel
theorem dX9_knownBy_59 : decode cX9_knownBy 59 = .ok (.aload_n 0, 1) := by decide +kernel
theorem dX9_knownBy_60 : decode cX9_knownBy 60 = .ok (.getfield 47, 3) := by decide +kernel
theorem dX9_knownBy_63 : decode cX9_knownBy 63 = .ok (.iload_n 2, 1) := by decide +kernel
theorem dX9_knownBy_64 : decode cX9_knownBy 64 = .ok (.iaload, 1) := by decide +kernel
theorem dX9_knownBy_65 : decode cX9_knownBy 65 = .ok (.iload_n 3, 1) := by decide +kernel
theorem dX9_knownBy_66 : decode cX9_knownBy 66 = .ok (.ishr, 1) := by decide +kernel
theorem dX9_knownBy_67 : decode cX9_knownBy 67 = .ok (.iconst 1, 1) := by decide +kernel
theorem dX9_knownBy_68 : decode cX9_knownBy 68 = .ok (.iand, 1) := by decide +kernel
theorem dX9_knownBy_69 : decode cX9_knownBy 69 = .ok (.iconst 1, 1) := by decide +kernel
theorem dX9_knownBy_70 : decode cX9_knownBy 70 = .ok (.if_icmp .ne 7, 3) := by decide +kernel
theorem dX9_knownBy_73 : decode cX9_knownBy 73 = .ok (.iconst 3, 1) := by decide +kernel
theorem dX9_knownBy_74 : decode cX9_knownBy 74 = .ok (.goto 4, 3) := by decide +kernel
theorem dX9_knownBy_77 : decode cX9_knownBy 77 = .ok (.iconst 0, 1) := by decide +kernel
theorem dX9_knownBy_78 : decode cX9_knownBy 78 = .ok (.ireturn, 1) := by decide +kernel
theorem dX9_clause_0 : decode cX9_clause 0 = .ok (.aload_n 0, 1) := by decide +kernel
theorem dX9_clause_1 : decode cX9_clause 1 = .ok (.iconst 0, 1) := by decide +kernel
theorem dX9_clause_2 : decode cX9_clause 2 = .ok (.putfield 63, 3) := by decide +kernel
theorem dX9_clause_5 : decode cX9_clause 5 = .ok (.aload_n 0, 1) := by decide +kernel
theorem dX9_clause_6 : decode cX9_clause 6 = .ok (.iload_n 1, 1) := by decide +kernel
theorem dX9_clause_7 : decode cX9_clause 7 = .ok (.invokevirtual 145, 3) := by decide +kernel
theorem dX9_clause_10 : decode cX9_clause 10 = .ok (.ifCond .eq 12, 3) := by decide +kernel
theorem dX9_clause_13 : decode cX9_clause 13 = .ok (.iload_n 2, 1) := by decide +kernel
theorem dX9_clause_14 : decode cX9_clause 14 = .ok (.iconst 0, 1) := by decide +kernel
theorem dX9_clause_15 : decode cX9_clause 15 = .ok (.iconst 2, 1) := by decide +kernel
theorem dX9_clause_16 : decode cX9_clause 16 = .ok (.invokestatic 66, 3) := by decide +kernel
theorem dX9_clause_19 : decode cX9_clause 19 = .ok (.ifCond .ne 5, 3) := by decide +kernel
theorem dX9_clause_22 : decode cX9_clause 22 = .ok (.iconst (-1), 1) := by decide +kernel
end
section
theorem dX9_clause_23 : decode cX9_clause 23 = .ok (.ireturn, 1) := by decide +kernel
theorem dX9_clause_24 : decode cX9_clause 24 = .ok (.iload_n 2, 1) := by decide +kernel
theorem dX9_clause_25 : decode cX9_clause 25 = .ok (.iconst 2, 1) := by decide +kernel
theorem dX9_clause_26 : decode cX9_clause 26 = .ok (.if_icmp .ge 16, 3) := by decide +kernel
theorem dX9_clause_29 : decode cX9_clause 29 = .ok (.aload_n 0, 1) := by decide +kernel
theorem dX9_clause_30 : decode cX9_clause 30 = .ok (.getfield 7, 3) := by decide +kernel
theorem dX9_clause_33 : decode cX9_clause 33 = .ok (.iconst 2, 1) := by decide +kernel
theorem dX9_clause_34 : decode cX9_clause 34 = .ok (.iconst 2, 1) := by decide +kernel
theorem dX9_clause_35 : decode cX9_clause 35 = .ok (.iload_n 1, 1) := by decide +kernel
theorem dX9_clause_36 : decode cX9_clause 36 = .ok (.imul, 1) := by decide +kernel
theorem dX9_clause_37 : decode cX9_clause 37 = .ok (.iadd, 1) := by decide +kernel
theorem dX9_clause_38 : decode cX9_clause 38 = .ok (.iload_n 2, 1) := by decide +kernel
theorem dX9_clause_39 : decode cX9_clause 39 = .ok (.iadd, 1) := by decide +kernel
theorem dX9_clause_40 : decode cX9_clause 40 = .ok (.iaload, 1) := by decide +kernel
theorem dX9_clause_41 : decode cX9_clause 41 = .ok (.ireturn, 1) := by decide +kernel
theorem dX9_clause_42 : decode cX9_clause 42 = .ok (.iconst 0, 1) := by decide +kernel
theorem dX9_clause_43 : decode cX9_clause 43 = .ok (.istore_n 3, 1) := by decide +kernel
theorem dX9_clause_44 : decode cX9_clause 44 = .ok (.aload_n 0, 1) := by decide +kernel
theorem dX9_clause_45 : decode cX9_clause 45 = .ok (.iload_n 3, 1) := by decide +kernel
theorem dX9_clause_46 : decode cX9_clause 46 = .ok (.iconst 0, 1) := by decide +kernel
theorem dX9_clause_47 : decode cX9_clause 47 = .ok (.invokevirtual 118, 3) := by decide +kernel
theorem dX9_clause_50 : decode cX9_clause 50 = .ok (.iload_n 1, 1) := by decide +kernel
theorem dX9_clause_51 : decode cX9_clause 51 = .ok (.if_icmp .eq 9, 3) := by decide +kernel
theorem dX9_clause_54 : decode cX9_clause 54 = .ok (.iinc 3 1, 3) := by decide +kernel
theorem dX9_clause_57 : decode cX9_clause 57 = .ok (.goto (-13), 3) := by decide +kernel
theorem dX9_clause_60 : decode cX9_clause 60 = .ok (.iload_n 3, 1) := by decide +kernel
theorem dX9_clause_61 : decode cX9_clause 61 = .ok (.ireturn, 1) := by decide +kernel
theorem dX9_statement_0 : decode cX9_statement 0 = .ok (.aload_n 0, 1) := by decide +kernel
theorem dX9_statement_1 : decode cX9_statement 1 = .ok (.iconst 0, 1) := by decide +kernel
theorem dX9_statement_2 : decode cX9_statement 2 = .ok (.putfield 63, 3) := by decide +kernel
theorem dX9_statement_5 : decode cX9_statement 5 = .ok (.aload_n 0, 1) := by decide +kernel
theorem dX9_statement_6 : decode cX9_statement 6 = .ok (.iload_n 1, 1) := by decide +kernel
theorem dX9_statement_7 : decode cX9_statement 7 = .ok (.invokevirtual 148, 3) := by decide +kernel
theorem dX9_statement_10 : decode cX9_statement 10 = .ok (.ifCond .eq 21, 3) := by decide +kernel
theorem dX9_statement_13 : decode cX9_statement 13 = .ok (.iload_n 2, 1) := by decide +kernel
theorem dX9_statement_14 : decode cX9_statement 14 = .ok (.iconst 0, 1) := by decide +kernel
theorem dX9_statement_15 : decode cX9_statement 15 = .ok (.iconst 3, 1) := by decide +kernel
theorem dX9_statement_16 : decode cX9_statement 16 = .ok (.invokestatic 66, 3) := by decide +kernel
theorem dX9_statement_19 : decode cX9_statement 19 = .ok (.ifCond .eq 12, 3) := by decide +kernel
theorem dX9_statement_22 : decode cX9_statement 22 = .ok (.aload_n 0, 1) := by decide +kernel
theorem dX9_statement_23 : decode cX9_statement 23 = .ok (.iload_n 1, 1) := by decide +kernel
theorem dX9_statement_24 : decode cX9_statement 24 = .ok (.iload_n 2, 1) := by decide +kernel
theorem dX9_statement_25 : decode cX9_statement 25 = .ok (.invokevirtual 118, 3) := by decide +kernel
theorem dX9_statement_28 : decode cX9_statement 28 = .ok (.goto 4, 3) := by decide +kernel
theorem dX9_statement_31 : decode cX9_statement 31 = .ok (.iconst (-1), 1) := by decide +kernel
theorem dX9_statement_32 : decode cX9_statement 32 = .ok (.ireturn, 1) := by decide +kernel
theorem dX9_sound_0 : decode cX9_sound 0 = .ok (.aload_n 0, 1) := by decide +kernel
theorem dX9_sound_1 : decode cX9_sound 1 = .ok (.iconst 0, 1) := by decide +kernel
theorem dX9_sound_2 : decode cX9_sound 2 = .ok (.putfield 63, 3) := by decide +kernel
theorem dX9_sound_5 : decode cX9_sound 5 = .ok (.aload_n 0, 1) := by decide +kernel
theorem dX9_sound_6 : decode cX9_sound 6 = .ok (.aload_n 0, 1) := by decide +kernel
theorem dX9_sound_7 : decode cX9_sound 7 = .ok (.invokevirtual 151, 3) := by decide +kernel
theorem dX9_sound_10 : decode cX9_sound 10 = .ok (.iconst 0, 1) := by decide +kernel
theorem dX9_sound_11 : decode cX9_sound 11 = .ok (.bipush (-9), 2) := by decide +kernel
theorem dX9_sound_13 : decode cX9_sound 13 = .ok (.iconst 0, 1) := by decide +kernel
theorem dX9_sound_14 : decode cX9_sound 14 = .ok (.invokevirtual 136, 3) := by decide +kernel
theorem dX9_sound_17 : decode cX9_sound 17 = .ok (.aload_n 0, 1) := by decide +kernel
theorem dX9_sound_18 : decode cX9_sound 18 = .ok (.invokevirtual 139, 3) := by decide +kernel
theorem dX9_sound_21 : decode cX9_sound 21 = .ok (.ifCond .eq 7, 3) := by decide +kernel
theorem dX9_sound_24 : decode cX9_sound 24 = .ok (.iconst 1, 1) := by decide +kernel
theorem dX9_sound_25 : decode cX9_sound 25 = .ok (.goto 4, 3) := by decide +kernel
theorem dX9_sound_28 : decode cX9_sound 28 = .ok (.iconst 0, 1) := by decide +kernel
theorem dX9_sound_29 : decode cX9_sound 29 = .ok (.ireturn, 1) := by decide +kernel
theorem dX9_ones_0 : decode cX9_ones 0 = .ok (.iconst 0, 1) := by decide +kernel
theorem dX9_ones_1 : decode cX9_ones 1 = .ok (.istore_n 1, 1) := by decide +kernel
theorem dX9_ones_2 : decode cX9_ones 2 = .ok (.iconst 0, 1) := by decide +kernel
theorem dX9_ones_3 : decode cX9_ones 3 = .ok (.istore_n 2, 1) := by decide +kernel
theorem dX9_ones_4 : decode cX9_ones 4 = .ok (.iload_n 2, 1) := by decide +kernel
theorem dX9_ones_5 : decode cX9_ones 5 = .ok (.bipush 14, 2) := by decide +kernel
theorem dX9_ones_7 : decode cX9_ones 7 = .ok (.if_icmp .ge 17, 3) := by decide +kernel
theorem dX9_ones_10 : decode cX9_ones 10 = .ok (.iload_n 1, 1) := by decide +kernel
theorem dX9_ones_11 : decode cX9_ones 11 = .ok (.iload_n 0, 1) := by decide +kernel
theorem dX9_ones_12 : decode cX9_ones 12 = .ok (.iload_n 2, 1) := by decide +kernel
theorem dX9_ones_13 : decode cX9_ones 13 = .ok (.ishr, 1) := by decide +kernel
theorem dX9_ones_14 : decode cX9_ones 14 = .ok (.iconst 1, 1) := by decide +kernel
theorem dX9_ones_15 : decode cX9_ones 15 = .ok (.iand, 1) := by decide +kernel
theorem dX9_ones_16 : decode cX9_ones 16 = .ok (.iadd, 1) := by decide +kernel
theorem dX9_ones_17 : decode cX9_ones 17 = .ok (.istore_n 1, 1) := by decide +kernel
theorem dX9_ones_18 : decode cX9_ones 18 = .ok (.iinc 2 1, 3) := by decide +kernel
theorem dX9_ones_21 : decode cX9_ones 21 = .ok (.goto (-17), 3) := by decide +kernel
theorem dX9_ones_24 : decode cX9_ones 24 = .ok (.iload_n 1, 1) := by decide +kernel
theorem dX9_ones_25 : decode cX9_ones 25 = .ok (.ireturn, 1) := by decide +kernel
theorem dX9_clash_0 : decode cX9_clash 0 = .ok (.aload_n 0, 1) := by decide +kernel
theorem dX9_clash_1 : decode cX9_clash 1 = .ok (.iconst 0, 1) := by decide +kernel
theorem dX9_clash_2 : decode cX9_clash 2 = .ok (.putfield 63, 3) := by decide +kernel
theorem dX9_clash_5 : decode cX9_clash 5 = .ok (.iload_n 1, 1) := by decide +kernel
theorem dX9_clash_6 : decode cX9_clash 6 = .ok (.iconst 0, 1) := by decide +kernel
theorem dX9_clash_7 : decode cX9_clash 7 = .ok (.iconst 1, 1) := by decide +kernel
theorem dX9_clash_8 : decode cX9_clash 8 = .ok (.invokestatic 66, 3) := by decide +kernel
theorem dX9_clash_11 : decode cX9_clash 11 = .ok (.ifCond .ne 5, 3) := by decide +kernel
theorem dX9_clash_14 : decode cX9_clash 14 = .ok (.iconst (-1), 1) := by decide +kernel
theorem dX9_clash_15 : decode cX9_clash 15 = .ok (.ireturn, 1) := by decide +kernel
theorem dX9_clash_16 : decode cX9_clash 16 = .ok (.aload_n 0, 1) := by decide +kernel
theorem dX9_clash_17 : decode cX9_clash 17 = .ok (.aload_n 0, 1) := by decide +kernel
theorem dX9_clash_18 : decode cX9_clash 18 = .ok (.invokevirtual 151, 3) := by decide +kernel
theorem dX9_clash_21 : decode cX9_clash 21 = .ok (.iconst 0, 1) := by decide +kernel
theorem dX9_clash_22 : decode cX9_clash 22 = .ok (.bipush (-9), 2) := by decide +kernel
theorem dX9_clash_24 : decode cX9_clash 24 = .ok (.iconst 0, 1) := by decide +kernel
theorem dX9_clash_25 : decode cX9_clash 25 = .ok (.invokevirtual 136, 3) := by decide +kernel
theorem dX9_clash_28 : decode cX9_clash 28 = .ok (.aload_n 0, 1) := by decide +kernel
theorem dX9_clash_29 : decode cX9_clash 29 = .ok (.invokevirtual 139, 3) := by decide +kernel
theorem dX9_clash_32 : decode cX9_clash 32 = .ok (.ifCond .eq 6, 3) := by decide +kernel
theorem dX9_clash_35 : decode cX9_clash 35 = .ok (.bipush (-9), 2) := by decide +kernel
theorem dX9_clash_37 : decode cX9_clash 37 = .ok (.ireturn, 1) := by decide +kernel
theorem dX9_clash_38 : decode cX9_clash 38 = .ok (.iconst 1, 1) := by decide +kernel
theorem dX9_clash_39 : decode cX9_clash 39 = .ok (.istore_n 2, 1) := by decide +kernel
theorem dX9_clash_40 : decode cX9_clash 40 = .ok (.iload_n 2, 1) := by decide +kernel
theorem dX9_clash_41 : decode cX9_clash 41 = .ok (.aload_n 0, 1) := by decide +kernel
theorem dX9_clash_42 : decode cX9_clash 42 = .ok (.getfield 7, 3) := by decide +kernel
theorem dX9_clash_45 : decode cX9_clash 45 = .ok (.iconst 1, 1) := by decide +kernel
theorem dX9_clash_46 : decode cX9_clash 46 = .ok (.iaload, 1) := by decide +kernel
theorem dX9_clash_47 : decode cX9_clash 47 = .ok (.if_icmp .ge 59, 3) := by decide +kernel
theorem dX9_clash_50 : decode cX9_clash 50 = .ok (.iconst 1, 1) := by decide +kernel
theorem dX9_clash_51 : decode cX9_clash 51 = .ok (.istore_n 3, 1) := by decide +kernel
theorem dX9_clash_52 : decode cX9_clash 52 = .ok (.iload_n 3, 1) := by decide +kernel
theorem dX9_clash_53 : decode cX9_clash 53 = .ok (.aload_n 0, 1) := by decide +kernel
theorem dX9_clash_54 : decode cX9_clash 54 = .ok (.invokevirtual 151, 3) := by decide +kernel
theorem dX9_clash_57 : decode cX9_clash 57 = .ok (.if_icmp .ge 43, 3) := by decide +kernel
theorem dX9_clash_60 : decode cX9_clash 60 = .ok (.iload_n 3, 1) := by decide +kernel
theorem dX9_clash_61 : decode cX9_clash 61 = .ok (.invokestatic 154, 3) := by decide +kernel
theorem dX9_clash_64 : decode cX9_clash 64 = .ok (.iload_n 2, 1) := by decide +kernel
theorem dX9_clash_65 : decode cX9_clash 65 = .ok (.if_icmp .ne 29, 3) := by decide +kernel
theorem dX9_clash_68 : decode cX9_clash 68 = .ok (.aload_n 0, 1) := by decide +kernel
theorem dX9_clash_69 : decode cX9_clash 69 = .ok (.iload_n 3, 1) := by decide +kernel
theorem dX9_clash_70 : decode cX9_clash 70 = .ok (.iconst 0, 1) := by decide +kernel
theorem dX9_clash_71 : decode cX9_clash 71 = .ok (.bipush (-9), 2) := by decide +kernel
theorem dX9_clash_73 : decode cX9_clash 73 = .ok (.iconst 0, 1) := by decide +kernel
theorem dX9_clash_74 : decode cX9_clash 74 = .ok (.invokevirtual 136, 3) := by decide +kernel
theorem dX9_clash_77 : decode cX9_clash 77 = .ok (.aload_n 0, 1) := by decide +kernel
theorem dX9_clash_78 : decode cX9_clash 78 = .ok (.invokevirtual 139, 3) := by decide +kernel
theorem dX9_clash_81 : decode cX9_clash 81 = .ok (.ifCond .ne 13, 3) := by decide +kernel
theorem dX9_clash_84 : decode cX9_clash 84 = .ok (.iload_n 1, 1) := by decide +kernel
theorem dX9_clash_85 : decode cX9_clash 85 = .ok (.ifCond .ne 7, 3) := by decide +kernel
theorem dX9_clash_88 : decode cX9_clash 88 = .ok (.iload_n 3, 1) := by decide +kernel
theorem dX9_clash_89 : decode cX9_clash 89 = .ok (.goto 4, 3) := by decide +kernel
theorem dX9_clash_92 : decode cX9_clash 92 = .ok (.iload_n 2, 1) := by decide +kernel
theorem dX9_clash_93 : decode cX9_clash 93 = .ok (.ireturn, 1) := by decide +kernel
theorem dX9_clash_94 : decode cX9_clash 94 = .ok (.iinc 3 1, 3) := by decide +kernel
theorem dX9_clash_97 : decode cX9_clash 97 = .ok (.goto (-45), 3) := by decide +kernel
theorem dX9_clash_100 : decode cX9_clash 100 = .ok (.iinc 2 1, 3) := by decide +kernel
theorem dX9_clash_103 : decode cX9_clash 103 = .ok (.goto (-63), 3) := by decide +kernel
theorem dX9_clash_106 : decode cX9_clash 106 = .ok (.iload_n 1, 1) := by decide +kernel
theorem dX9_clash_107 : decode cX9_clash 107 = .ok (.ifCond .ne 10, 3) := by decide +kernel
theorem dX9_clash_110 : decode cX9_clash 110 = .ok (.aload_n 0, 1) := by decide +kernel
theorem dX9_clash_111 : decode cX9_clash 111 = .ok (.invokevirtual 151, 3) := by decide +kernel
theorem dX9_clash_114 : decode cX9_clash 114 = .ok (.goto 9, 3) := by decide +kernel
theorem dX9_clash_117 : decode cX9_clash 117 = .ok (.aload_n 0, 1) := by decide +kernel
theorem dX9_clash_118 : decode cX9_clash 118 = .ok (.getfield 7, 3) := by decide +kernel
theorem dX9_clash_121 : decode cX9_clash 121 = .ok (.iconst 1, 1) := by decide +kernel
theorem dX9_clash_122 : decode cX9_clash 122 = .ok (.iaload, 1) := by decide +kernel
theorem dX9_clash_123 : decode cX9_clash 123 = .ok (.ireturn, 1) := by decide +kernel
theorem dX9_known_0 : decode cX9_known 0 = .ok (.aload_n 0, 1) := by decide +kernel
theorem dX9_known_1 : decode cX9_known 1 = .ok (.iconst 0, 1) := by decide +kernel
theorem dX9_known_2 : decode cX9_known 2 = .ok (.putfield 63, 3) := by decide +kernel
theorem dX9_known_5 : decode cX9_known 5 = .ok (.aload_n 0, 1) := by decide +kernel
theorem dX9_known_6 : decode cX9_known 6 = .ok (.iload_n 1, 1) := by decide +kernel
theorem dX9_known_7 : decode cX9_known 7 = .ok (.invokevirtual 70, 3) := by decide +kernel
theorem dX9_known_10 : decode cX9_known 10 = .ok (.ifCond .eq 24, 3) := by decide +kernel
theorem dX9_known_13 : decode cX9_known 13 = .ok (.aload_n 0, 1) := by decide +kernel
theorem dX9_known_14 : decode cX9_known 14 = .ok (.iload_n 2, 1) := by decide +kernel
theorem dX9_known_15 : decode cX9_known 15 = .ok (.invokevirtual 70, 3) := by decide +kernel
theorem dX9_known_18 : decode cX9_known 18 = .ok (.ifCond .eq 16, 3) := by decide +kernel
theorem dX9_known_21 : decode cX9_known 21 = .ok (.aload_n 0, 1) := by decide +kernel
theorem dX9_known_22 : decode cX9_known 22 = .ok (.aload_n 0, 1) := by decide +kernel
theorem dX9_known_23 : decode cX9_known 23 = .ok (.invokevirtual 151, 3) := by decide +kernel
theorem dX9_known_26 : decode cX9_known 26 = .ok (.iload_n 1, 1) := by decide +kernel
theorem dX9_known_27 : decode cX9_known 27 = .ok (.iload_n 2, 1) := by decide +kernel
theorem dX9_known_28 : decode cX9_known 28 = .ok (.invokevirtual 157, 3) := by decide +kernel
theorem dX9_known_31 : decode cX9_known 31 = .ok (.goto 4, 3) := by decide +kernel
theorem dX9_known_34 : decode cX9_known 34 = .ok (.iconst (-1), 1) := by decide +kernel
theorem dX9_known_35 : decode cX9_known 35 = .ok (.ireturn, 1) := by decide +kernel
theorem dX9_line_0 : decode cX9_line 0 = .ok (.aload_n 0, 1) := by decide +kernel
theorem dX9_line_1 : decode cX9_line 1 = .ok (.iconst 0, 1) := by decide +kernel
theorem dX9_line_2 : decode cX9_line 2 = .ok (.putfield 63, 3) := by decide +kernel
theorem dX9_line_5 : decode cX9_line 5 = .ok (.aload_n 0, 1) := by decide +kernel
theorem dX9_line_6 : decode cX9_line 6 = .ok (.iload_n 1, 1) := by decide +kernel
theorem dX9_line_7 : decode cX9_line 7 = .ok (.invokevirtual 70, 3) := by decide +kernel
theorem dX9_line_10 : decode cX9_line 10 = .ok (.ifCond .ne 5, 3) := by decide +kernel
theorem dX9_line_13 : decode cX9_line 13 = .ok (.iconst (-1), 1) := by decide +kernel
theorem dX9_line_14 : decode cX9_line 14 = .ok (.ireturn, 1) := by decide +kernel
theorem dX9_line_15 : decode cX9_line 15 = .ok (.aload_n 0, 1) := by decide +kernel
theorem dX9_line_16 : decode cX9_line 16 = .ok (.aload_n 0, 1) := by decide +kernel
theorem dX9_line_17 : decode cX9_line 17 = .ok (.invokevirtual 151, 3) := by decide +kernel
theorem dX9_line_20 : decode cX9_line 20 = .ok (.iconst 0, 1) := by decide +kernel
theorem dX9_line_21 : decode cX9_line 21 = .ok (.bipush (-9), 2) := by decide +kernel
theorem dX9_line_23 : decode cX9_line 23 = .ok (.iconst 0, 1) := by decide +kernel
theorem dX9_line_24 : decode cX9_line 24 = .ok (.invokevirtual 136, 3) := by decide +kernel
theorem dX9_line_27 : decode cX9_line 27 = .ok (.aload_n 0, 1) := by decide +kernel
theorem dX9_line_28 : decode cX9_line 28 = .ok (.invokevirtual 139, 3) := by decide +kernel
theorem dX9_line_31 : decode cX9_line 31 = .ok (.ifCond .eq 12, 3) := by decide +kernel
theorem dX9_line_34 : decode cX9_line 34 = .ok (.aload_n 0, 1) := by decide +kernel
theorem dX9_line_35 : decode cX9_line 35 = .ok (.getfield 44, 3) := by decide +kernel
theorem dX9_line_38 : decode cX9_line 38 = .ok (.iload_n 1, 1) := by decide +kernel
theorem dX9_line_39 : decode cX9_line 39 = .ok (.iaload, 1) := by decide +kernel
theorem dX9_line_40 : decode cX9_line 40 = .ok (.goto 5, 3) := by decide +kernel
theorem dX9_line_43 : decode cX9_line 43 = .ok (.bipush (-9), 2) := by decide +kernel
theorem dX9_line_45 : decode cX9_line 45 = .ok (.ireturn, 1) := by decide +kernel
theorem dX9_would_0 : decode cX9_would 0 = .ok (.aload_n 0, 1) := by decide +kernel
theorem dX9_would_1 : decode cX9_would 1 = .ok (.iconst 0, 1) := by decide +kernel
theorem dX9_would_2 : decode cX9_would 2 = .ok (.putfield 63, 3) := by decide +kernel
theorem dX9_would_5 : decode cX9_would 5 = .ok (.aload_n 0, 1) := by decide +kernel
theorem dX9_would_6 : decode cX9_would 6 = .ok (.iload_n 1, 1) := by decide +kernel
theorem dX9_would_7 : decode cX9_would 7 = .ok (.invokevirtual 161, 3) := by decide +kernel
theorem dX9_would_10 : decode cX9_would 10 = .ok (.ifCond .eq 25, 3) := by decide +kernel
theorem dX9_would_13 : decode cX9_would 13 = .ok (.aload_n 0, 1) := by decide +kernel
theorem dX9_would_14 : decode cX9_would 14 = .ok (.iload_n 3, 1) := by decide +kernel
theorem dX9_would_15 : decode cX9_would 15 = .ok (.invokevirtual 161, 3) := by decide +kernel
theorem dX9_would_18 : decode cX9_would 18 = .ok (.ifCond .eq 17, 3) := by decide +kernel
theorem dX9_would_21 : decode cX9_would 21 = .ok (.iload_n 1, 1) := by decide +kernel
theorem dX9_would_22 : decode cX9_would 22 = .ok (.iload_n 3, 1) := by decide +kernel
theorem dX9_would_23 : decode cX9_would 23 = .ok (.if_icmp .eq 12, 3) := by decide +kernel
theorem dX9_would_26 : decode cX9_would 26 = .ok (.iload_n 2, 1) := by decide +kernel
theorem dX9_would_27 : decode cX9_would 27 = .ok (.iconst 0, 1) := by decide +kernel
theorem dX9_would_28 : decode cX9_would 28 = .ok (.iconst 1, 1) := by decide +kernel
theorem dX9_would_29 : decode cX9_would 29 = .ok (.invokestatic 66, 3) := by decide +kernel
theorem dX9_would_32 : decode cX9_would 32 = .ok (.ifCond .ne 5, 3) := by decide +kernel
theorem dX9_would_35 : decode cX9_would 35 = .ok (.iconst (-1), 1) := by decide +kernel
theorem dX9_would_36 : decode cX9_would 36 = .ok (.ireturn, 1) := by decide +kernel
theorem dX9_would_37 : decode cX9_would 37 = .ok (.aload_n 0, 1) := by decide +kernel
theorem dX9_would_38 : decode cX9_would 38 = .ok (.aload_n 0, 1) := by decide +kernel
theorem dX9_would_39 : decode cX9_would 39 = .ok (.invokevirtual 151, 3) := by decide +kernel
theorem dX9_would_42 : decode cX9_would 42 = .ok (.iload_n 1, 1) := by decide +kernel
theorem dX9_would_43 : decode cX9_would 43 = .ok (.iload_n 3, 1) := by decide +kernel
theorem dX9_would_44 : decode cX9_would 44 = .ok (.invokevirtual 157, 3) := by decide +kernel
theorem dX9_would_47 : decode cX9_would 47 = .ok (.istore 4, 2) := by decide +kernel
theorem dX9_would_49 : decode cX9_would 49 = .ok (.iload 4, 2) := by decide +kernel
theorem dX9_would_51 : decode cX9_would 51 = .ok (.iconst 4, 1) := by decide +kernel
theorem dX9_would_52 : decode cX9_would 52 = .ok (.if_icmp .ne 5, 3) := by decide +kernel
theorem dX9_would_55 : decode cX9_would 55 = .ok (.iconst 4, 1) := by decide +kernel
theorem dX9_would_56 : decode cX9_would 56 = .ok (.ireturn, 1) := by decide +kernel
theorem dX9_would_57 : decode cX9_would 57 = .ok (.iload 4, 2) := by decide +kernel
theorem dX9_would_59 : decode cX9_would 59 = .ok (.iconst 1, 1) := by decide +kernel
theorem dX9_would_60 : decode cX9_would 60 = .ok (.iload_n 2, 1) := by decide +kernel
theorem dX9_would_61 : decode cX9_would 61 = .ok (.iadd, 1) := by decide +kernel
theorem dX9_would_62 : decode cX9_would 62 = .ok (.if_icmp .ne 5, 3) := by decide +kernel
theorem dX9_would_65 : decode cX9_would 65 = .ok (.iconst 0, 1) := by decide +kernel
theorem dX9_would_66 : decode cX9_would 66 = .ok (.ireturn, 1) := by decide +kernel
theorem dX9_would_67 : decode cX9_would 67 = .ok (.aload_n 0, 1) := by decide +kernel
theorem dX9_would_68 : decode cX9_would 68 = .ok (.aload_n 0, 1) := by decide +kernel
theorem dX9_would_69 : decode cX9_would 69 = .ok (.invokevirtual 151, 3) := by decide +kernel
theorem dX9_would_72 : decode cX9_would 72 = .ok (.iload_n 1, 1) := by decide +kernel
theorem dX9_would_73 : decode cX9_would 73 = .ok (.iload_n 2, 1) := by decide +kernel
theorem dX9_would_74 : decode cX9_would 74 = .ok (.iload_n 3, 1) := by decide +kernel
theorem dX9_would_75 : decode cX9_would 75 = .ok (.invokevirtual 136, 3) := by decide +kernel
theorem dX9_would_78 : decode cX9_would 78 = .ok (.aload_n 0, 1) := by decide +kernel
theorem dX9_would_79 : decode cX9_would 79 = .ok (.invokevirtual 139, 3) := by decide +kernel
theorem dX9_would_82 : decode cX9_would 82 = .ok (.ifCond .eq 7, 3) := by decide +kernel
theorem dX9_would_85 : decode cX9_would 85 = .ok (.iconst 1, 1) := by decide +kernel
theorem dX9_would_86 : decode cX9_would 86 = .ok (.goto 4, 3) := by decide +kernel
theorem dX9_would_89 : decode cX9_would 89 = .ok (.iconst 2, 1) := by decide +kernel
theorem dX9_would_90 : decode cX9_would 90 = .ok (.ireturn, 1) := by decide +kernel
theorem dX9_canCome_0 : decode cX9_canCome 0 = .ok (.iload_n 1, 1) := by decide +kernel
theorem dX9_canCome_1 : decode cX9_canCome 1 = .ok (.iload_n 2, 1) := by decide +kernel
theorem dX9_canCome_2 : decode cX9_canCome 2 = .ok (.iand, 1) := by decide +kernel
theorem dX9_canCome_3 : decode cX9_canCome 3 = .ok (.ifCond .ne 7, 3) := by decide +kernel
theorem dX9_canCome_6 : decode cX9_canCome 6 = .ok (.iconst 1, 1) := by decide +kernel
theorem dX9_canCome_7 : decode cX9_canCome 7 = .ok (.goto 4, 3) := by decide +kernel
theorem dX9_canCome_10 : decode cX9_canCome 10 = .ok (.iconst 0, 1) := by decide +kernel
theorem dX9_canCome_11 : decode cX9_canCome 11 = .ok (.istore_n 3, 1) := by decide +kernel
theorem dX9_canCome_12 : decode cX9_canCome 12 = .ok (.iconst 0, 1) := by decide +kernel
theorem dX9_canCome_13 : decode cX9_canCome 13 = .ok (.istore 4, 2) := by decide +kernel
theorem dX9_canCome_15 : decode cX9_canCome 15 = .ok (.iload 4, 2) := by decide +kernel
theorem dX9_canCome_17 : decode cX9_canCome 17 = .ok (.aload_n 0, 1) := by decide +kernel
theorem dX9_canCome_18 : decode cX9_canCome 18 = .ok (.getfield 7, 3) := by decide +kernel
theorem dX9_canCome_21 : decode cX9_canCome 21 = .ok (.iconst 0, 1) := by decide +kernel
theorem dX9_canCome_22 : decode cX9_canCome 22 = .ok (.iaload, 1) := by decide +kernel
theorem dX9_canCome_23 : decode cX9_canCome 23 = .ok (.if_icmp .ge 56, 3) := by decide +kernel
theorem dX9_canCome_26 : decode cX9_canCome 26 = .ok (.iload_n 3, 1) := by decide +kernel
theorem dX9_canCome_27 : decode cX9_canCome 27 = .ok (.ifCond .eq 52, 3) := by decide +kernel
theorem dX9_canCome_30 : decode cX9_canCome 30 = .ok (.iload_n 1, 1) := by decide +kernel
theorem dX9_canCome_31 : decode cX9_canCome 31 = .ok (.iload 4, 2) := by decide +kernel
theorem dX9_canCome_33 : decode cX9_canCome 33 = .ok (.ishr, 1) := by decide +kernel
theorem dX9_canCome_34 : decode cX9_canCome 34 = .ok (.iconst 1, 1) := by decide +kernel
theorem dX9_canCome_35 : decode cX9_canCome 35 = .ok (.iand, 1) := by decide +kernel
theorem dX9_canCome_36 : decode cX9_canCome 36 = .ok (.ifCond .eq 31, 3) := by decide +kernel
theorem dX9_canCome_39 : decode cX9_canCome 39 = .ok (.aload_n 0, 1) := by decide +kernel
theorem dX9_canCome_40 : decode cX9_canCome 40 = .ok (.getfield 53, 3) := by decide +kernel
theorem dX9_canCome_43 : decode cX9_canCome 43 = .ok (.iload 4, 2) := by decide +kernel
theorem dX9_canCome_45 : decode cX9_canCome 45 = .ok (.iaload, 1) := by decide +kernel
theorem dX9_canCome_46 : decode cX9_canCome 46 = .ok (.iload_n 2, 1) := by decide +kernel
theorem dX9_canCome_47 : decode cX9_canCome 47 = .ok (.iconst (-1), 1) := by decide +kernel
theorem dX9_canCome_48 : decode cX9_canCome 48 = .ok (.ixor, 1) := by decide +kernel
theorem dX9_canCome_49 : decode cX9_canCome 49 = .ok (.iand, 1) := by decide +kernel
theorem dX9_canCome_50 : decode cX9_canCome 50 = .ok (.ifCond .ne 21, 3) := by decide +kernel
theorem dX9_canCome_53 : decode cX9_canCome 53 = .ok (.aload_n 0, 1) := by decide +kernel
theorem dX9_canCome_54 : decode cX9_canCome 54 = .ok (.getfield 56, 3) := by decide +kernel
theorem dX9_canCome_57 : decode cX9_canCome 57 = .ok (.iload 4, 2) := by decide +kernel
theorem dX9_canCome_59 : decode cX9_canCome 59 = .ok (.iaload, 1) := by decide +kernel
theorem dX9_canCome_60 : decode cX9_canCome 60 = .ok (.iload_n 1, 1) := by decide +kernel
theorem dX9_canCome_61 : decode cX9_canCome 61 = .ok (.iconst (-1), 1) := by decide +kernel
theorem dX9_canCome_62 : decode cX9_canCome 62 = .ok (.ixor, 1) := by decide +kernel
theorem dX9_canCome_63 : decode cX9_canCome 63 = .ok (.iand, 1) := by decide +kernel
theorem dX9_canCome_64 : decode cX9_canCome 64 = .ok (.ifCond .ne 7, 3) := by decide +kernel
theorem dX9_canCome_67 : decode cX9_canCome 67 = .ok (.iconst 1, 1) := by decide +kernel
theorem dX9_canCome_68 : decode cX9_canCome 68 = .ok (.goto 4, 3) := by decide +kernel
theorem dX9_canCome_71 : decode cX9_canCome 71 = .ok (.iconst 0, 1) := by decide +kernel
theorem dX9_canCome_72 : decode cX9_canCome 72 = .ok (.istore_n 3, 1) := by decide +kernel
theorem dX9_canCome_73 : decode cX9_canCome 73 = .ok (.iinc 4 1, 3) := by decide +kernel
theorem dX9_canCome_76 : decode cX9_canCome 76 = .ok (.goto (-61), 3) := by decide +kernel
theorem dX9_canCome_79 : decode cX9_canCome 79 = .ok (.iload_n 3, 1) := by decide +kernel
theorem dX9_canCome_80 : decode cX9_canCome 80 = .ok (.ireturn, 1) := by decide +kernel
theorem dX9_ordersWith_0 : decode cX9_ordersWith 0 = .ok (.aload_n 0, 1) := by decide +kernel
theorem dX9_ordersWith_1 : decode cX9_ordersWith 1 = .ok (.aload_n 0, 1) := by decide +kernel
theorem dX9_ordersWith_2 : decode cX9_ordersWith 2 = .ok (.invokevirtual 151, 3) := by decide +kernel
theorem dX9_ordersWith_5 : decode cX9_ordersWith 5 = .ok (.iload_n 1, 1) := by decide +kernel
theorem dX9_ordersWith_6 : decode cX9_ordersWith 6 = .ok (.iload_n 2, 1) := by decide +kernel
theorem dX9_ordersWith_7 : decode cX9_ordersWith 7 = .ok (.iload_n 3, 1) := by decide +kernel
theorem dX9_ordersWith_8 : decode cX9_ordersWith 8 = .ok (.invokevirtual 136, 3) := by decide +kernel
theorem dX9_ordersWith_11 : decode cX9_ordersWith 11 = .ok (.aload_n 0, 1) := by decide +kernel
theorem dX9_ordersWith_12 : decode cX9_ordersWith 12 = .ok (.invokevirtual 139, 3) := by decide +kernel
theorem dX9_ordersWith_15 : decode cX9_ordersWith 15 = .ok (.ifCond .ne 5, 3) := by decide +kernel
theorem dX9_ordersWith_18 : decode cX9_ordersWith 18 = .ok (.iconst 0, 1) := by decide +kernel
theorem dX9_ordersWith_19 : decode cX9_ordersWith 19 = .ok (.ireturn, 1) := by decide +kernel
theorem dX9_ordersWith_20 : decode cX9_ordersWith 20 = .ok (.aload_n 0, 1) := by decide +kernel
theorem dX9_ordersWith_21 : decode cX9_ordersWith 21 = .ok (.invokevirtual 142, 3) := by decide +kernel
theorem dX9_ordersWith_24 : decode cX9_ordersWith 24 = .ok (.aload_n 0, 1) := by decide +kernel
theorem dX9_ordersWith_25 : decode cX9_ordersWith 25 = .ok (.getfield 7, 3) := by decide +kernel
theorem dX9_ordersWith_28 : decode cX9_ordersWith 28 = .ok (.iconst 0, 1) := by decide +kernel
theorem dX9_ordersWith_29 : decode cX9_ordersWith 29 = .ok (.iaload, 1) := by decide +kernel
theorem dX9_ordersWith_30 : decode cX9_ordersWith 30 = .ok (.istore 4, 2) := by decide +kernel
theorem dX9_ordersWith_32 : decode cX9_ordersWith 32 = .ok (.iconst 0, 1) := by decide +kernel
theorem dX9_ordersWith_33 : decode cX9_ordersWith 33 = .ok (.istore 5, 2) := by decide +kernel
theorem dX9_ordersWith_35 : decode cX9_ordersWith 35 = .ok (.iload 5, 2) := by decide +kernel
theorem dX9_ordersWith_37 : decode cX9_ordersWith 37 = .ok (.iload 4, 2) := by decide +kernel
theorem dX9_ordersWith_39 : decode cX9_ordersWith 39 = .ok (.if_icmp .ge 117, 3) := by decide +kernel
theorem dX9_ordersWith_42 : decode cX9_ordersWith 42 = .ok (.aload_n 0, 1) := by decide +kernel
theorem dX9_ordersWith_43 : decode cX9_ordersWith 43 = .ok (.getfield 53, 3) := by decide +kernel
theorem dX9_ordersWith_46 : decode cX9_ordersWith 46 = .ok (.iload 5, 2) := by decide +kernel
theorem dX9_ordersWith_48 : decode cX9_ordersWith 48 = .ok (.iconst 0, 1) := by decide +kernel
theorem dX9_ordersWith_49 : decode cX9_ordersWith 49 = .ok (.iastore, 1) := by decide +kernel
theorem dX9_ordersWith_50 : decode cX9_ordersWith 50 = .ok (.aload_n 0, 1) := by decide +kernel
theorem dX9_ordersWith_51 : decode cX9_ordersWith 51 = .ok (.getfield 56, 3) := by decide +kernel
theorem dX9_ordersWith_54 : decode cX9_ordersWith 54 = .ok (.iload 5, 2) := by decide +kernel
theorem dX9_ordersWith_56 : decode cX9_ordersWith 56 = .ok (.iconst 0, 1) := by decide +kernel
theorem dX9_ordersWith_57 : decode cX9_ordersWith 57 = .ok (.iastore, 1) := by decide +kernel
theorem dX9_ordersWith_58 : decode cX9_ordersWith 58 = .ok (.iconst 0, 1) := by decide +kernel
theorem dX9_ordersWith_59 : decode cX9_ordersWith 59 = .ok (.istore 6, 2) := by decide +kernel
theorem dX9_ordersWith_61 : decode cX9_ordersWith 61 = .ok (.iload 6, 2) := by decide +kernel
theorem dX9_ordersWith_63 : decode cX9_ordersWith 63 = .ok (.iload 4, 2) := by decide +kernel
theorem dX9_ordersWith_65 : decode cX9_ordersWith 65 = .ok (.if_icmp .ge 85, 3) := by decide +kernel
theorem dX9_ordersWith_68 : decode cX9_ordersWith 68 = .ok (.aload_n 0, 1) := by decide +kernel
theorem dX9_ordersWith_69 : decode cX9_ordersWith 69 = .ok (.getfield 53, 3) := by decide +kernel
theorem dX9_ordersWith_72 : decode cX9_ordersWith 72 = .ok (.iload 5, 2) := by decide +kernel
theorem dX9_ordersWith_74 : decode cX9_ordersWith 74 = .ok (.dup2, 1) := by decide +kernel
theorem dX9_ordersWith_75 : decode cX9_ordersWith 75 = .ok (.iaload, 1) := by decide +kernel
theorem dX9_ordersWith_76 : decode cX9_ordersWith 76 = .ok (.aload_n 0, 1) := by decide +kernel
theorem dX9_ordersWith_77 : decode cX9_ordersWith 77 = .ok (.getfield 47, 3) := by decide +kernel
theorem dX9_ordersWith_80 : decode cX9_ordersWith 80 = .ok (.iconst 2, 1) := by decide +kernel
theorem dX9_ordersWith_81 : decode cX9_ordersWith 81 = .ok (.iconst 2, 1) := by decide +kernel
theorem dX9_ordersWith_82 : decode cX9_ordersWith 82 = .ok (.iload 5, 2) := by decide +kernel
theorem dX9_ordersWith_84 : decode cX9_ordersWith 84 = .ok (.imul, 1) := by decide +kernel
theorem dX9_ordersWith_85 : decode cX9_ordersWith 85 = .ok (.iadd, 1) := by decide +kernel
theorem dX9_ordersWith_86 : decode cX9_ordersWith 86 = .ok (.iaload, 1) := by decide +kernel
theorem dX9_ordersWith_87 : decode cX9_ordersWith 87 = .ok (.iconst 2, 1) := by decide +kernel
theorem dX9_ordersWith_88 : decode cX9_ordersWith 88 = .ok (.iconst 2, 1) := by decide +kernel
theorem dX9_ordersWith_89 : decode cX9_ordersWith 89 = .ok (.iload 6, 2) := by decide +kernel
theorem dX9_ordersWith_91 : decode cX9_ordersWith 91 = .ok (.imul, 1) := by decide +kernel
theorem dX9_ordersWith_92 : decode cX9_ordersWith 92 = .ok (.iadd, 1) := by decide +kernel
theorem dX9_ordersWith_93 : decode cX9_ordersWith 93 = .ok (.ishr, 1) := by decide +kernel
theorem dX9_ordersWith_94 : decode cX9_ordersWith 94 = .ok (.iconst 1, 1) := by decide +kernel
theorem dX9_ordersWith_95 : decode cX9_ordersWith 95 = .ok (.iand, 1) := by decide +kernel
theorem dX9_ordersWith_96 : decode cX9_ordersWith 96 = .ok (.iload 6, 2) := by decide +kernel
theorem dX9_ordersWith_98 : decode cX9_ordersWith 98 = .ok (.ishl, 1) := by decide +kernel
theorem dX9_ordersWith_99 : decode cX9_ordersWith 99 = .ok (.ior, 1) := by decide +kernel
theorem dX9_ordersWith_100 : decode cX9_ordersWith 100 = .ok (.iastore, 1) := by decide +kernel
theorem dX9_ordersWith_101 : decode cX9_ordersWith 101 = .ok (.aload_n 0, 1) := by decide +kernel
theorem dX9_ordersWith_102 : decode cX9_ordersWith 102 = .ok (.getfield 56, 3) := by decide +kernel
theorem dX9_ordersWith_105 : decode cX9_ordersWith 105 = .ok (.iload 5, 2) := by decide +kernel
theorem dX9_ordersWith_107 : decode cX9_ordersWith 107 = .ok (.dup2, 1) := by decide +kernel
theorem dX9_ordersWith_108 : decode cX9_ordersWith 108 = .ok (.iaload, 1) := by decide +kernel
theorem dX9_ordersWith_109 : decode cX9_ordersWith 109 = .ok (.aload_n 0, 1) := by decide +kernel
theorem dX9_ordersWith_110 : decode cX9_ordersWith 110 = .ok (.getfield 38, 3) := by decide +kernel
theorem dX9_ordersWith_113 : decode cX9_ordersWith 113 = .ok (.iconst 2, 1) := by decide +kernel
theorem dX9_ordersWith_114 : decode cX9_ordersWith 114 = .ok (.iconst 2, 1) := by decide +kernel
theorem dX9_ordersWith_115 : decode cX9_ordersWith 115 = .ok (.iload 5, 2) := by decide +kernel
theorem dX9_ordersWith_117 : decode cX9_ordersWith 117 = .ok (.imul, 1) := by decide +kernel
theorem dX9_ordersWith_118 : decode cX9_ordersWith 118 = .ok (.iadd, 1) := by decide +kernel
theorem dX9_ordersWith_119 : decode cX9_ordersWith 119 = .ok (.iaload, 1) := by decide +kernel
theorem dX9_ordersWith_120 : decode cX9_ordersWith 120 = .ok (.aload_n 0, 1) := by decide +kernel
theorem dX9_ordersWith_121 : decode cX9_ordersWith 121 = .ok (.getfield 38, 3) := by decide +kernel
theorem dX9_ordersWith_124 : decode cX9_ordersWith 124 = .ok (.iconst 2, 1) := by decide +kernel
theorem dX9_ordersWith_125 : decode cX9_ordersWith 125 = .ok (.iconst 2, 1) := by decide +kernel
theorem dX9_ordersWith_126 : decode cX9_ordersWith 126 = .ok (.iload 6, 2) := by decide +kernel
theorem dX9_ordersWith_128 : decode cX9_ordersWith 128 = .ok (.imul, 1) := by decide +kernel
theorem dX9_ordersWith_129 : decode cX9_ordersWith 129 = .ok (.iadd, 1) := by decide +kernel
theorem dX9_ordersWith_130 : decode cX9_ordersWith 130 = .ok (.iaload, 1) := by decide +kernel
theorem dX9_ordersWith_131 : decode cX9_ordersWith 131 = .ok (.if_icmp .ne 10, 3) := by decide +kernel
theorem dX9_ordersWith_134 : decode cX9_ordersWith 134 = .ok (.iconst 1, 1) := by decide +kernel
theorem dX9_ordersWith_135 : decode cX9_ordersWith 135 = .ok (.iload 6, 2) := by decide +kernel
theorem dX9_ordersWith_137 : decode cX9_ordersWith 137 = .ok (.ishl, 1) := by decide +kernel
theorem dX9_ordersWith_138 : decode cX9_ordersWith 138 = .ok (.goto 4, 3) := by decide +kernel
theorem dX9_ordersWith_141 : decode cX9_ordersWith 141 = .ok (.iconst 0, 1) := by decide +kernel
theorem dX9_ordersWith_142 : decode cX9_ordersWith 142 = .ok (.ior, 1) := by decide +kernel
theorem dX9_ordersWith_143 : decode cX9_ordersWith 143 = .ok (.iastore, 1) := by decide +kernel
theorem dX9_ordersWith_144 : decode cX9_ordersWith 144 = .ok (.iinc 6 1, 3) := by decide +kernel
theorem dX9_ordersWith_147 : decode cX9_ordersWith 147 = .ok (.goto (-86), 3) := by decide +kernel
theorem dX9_ordersWith_150 : decode cX9_ordersWith 150 = .ok (.iinc 5 1, 3) := by decide +kernel
theorem dX9_ordersWith_153 : decode cX9_ordersWith 153 = .ok (.goto (-118), 3) := by decide +kernel
theorem dX9_ordersWith_156 : decode cX9_ordersWith 156 = .ok (.iconst 1, 1) := by decide +kernel
theorem dX9_ordersWith_157 : decode cX9_ordersWith 157 = .ok (.iload 4, 2) := by decide +kernel
theorem dX9_ordersWith_159 : decode cX9_ordersWith 159 = .ok (.ishl, 1) := by decide +kernel
theorem dX9_ordersWith_160 : decode cX9_ordersWith 160 = .ok (.iconst 1, 1) := by decide +kernel
theorem dX9_ordersWith_161 : decode cX9_ordersWith 161 = .ok (.isub, 1) := by decide +kernel
theorem dX9_ordersWith_162 : decode cX9_ordersWith 162 = .ok (.istore 5, 2) := by decide +kernel
theorem dX9_ordersWith_164 : decode cX9_ordersWith 164 = .ok (.iconst 0, 1) := by decide +kernel
theorem dX9_ordersWith_165 : decode cX9_ordersWith 165 = .ok (.istore 6, 2) := by decide +kernel
theorem dX9_ordersWith_167 : decode cX9_ordersWith 167 = .ok (.iload 6, 2) := by decide +kernel
theorem dX9_ordersWith_169 : decode cX9_ordersWith 169 = .ok (.iload 5, 2) := by decide +kernel
theorem dX9_ordersWith_171 : decode cX9_ordersWith 171 = .ok (.if_icmp .gt 26, 3) := by decide +kernel
theorem dX9_ordersWith_174 : decode cX9_ordersWith 174 = .ok (.aload_n 0, 1) := by decide +kernel
theorem dX9_ordersWith_175 : decode cX9_ordersWith 175 = .ok (.getfield 50, 3) := by decide +kernel
theorem dX9_ordersWith_178 : decode cX9_ordersWith 178 = .ok (.iload 6, 2) := by decide +kernel
theorem dX9_ordersWith_180 : decode cX9_ordersWith 180 = .ok (.iload 6, 2) := by decide +kernel
theorem dX9_ordersWith_182 : decode cX9_ordersWith 182 = .ok (.ifCond .ne 7, 3) := by decide +kernel
theorem dX9_ordersWith_185 : decode cX9_ordersWith 185 = .ok (.iconst 1, 1) := by decide +kernel
theorem dX9_ordersWith_186 : decode cX9_ordersWith 186 = .ok (.goto 4, 3) := by decide +kernel
theorem dX9_ordersWith_189 : decode cX9_ordersWith 189 = .ok (.iconst 0, 1) := by decide +kernel
theorem dX9_ordersWith_190 : decode cX9_ordersWith 190 = .ok (.iastore, 1) := by decide +kernel
theorem dX9_ordersWith_191 : decode cX9_ordersWith 191 = .ok (.iinc 6 1, 3) := by decide +kernel
theorem dX9_ordersWith_194 : decode cX9_ordersWith 194 = .ok (.goto (-27), 3) := by decide +kernel
theorem dX9_ordersWith_197 : decode cX9_ordersWith 197 = .ok (.iconst 0, 1) := by decide +kernel
theorem dX9_ordersWith_198 : decode cX9_ordersWith 198 = .ok (.istore 6, 2) := by decide +kernel
theorem dX9_ordersWith_200 : decode cX9_ordersWith 200 = .ok (.iload 6, 2) := by decide +kernel
theorem dX9_ordersWith_202 : decode cX9_ordersWith 202 = .ok (.iload 5, 2) := by decide +kernel
theorem dX9_ordersWith_204 : decode cX9_ordersWith 204 = .ok (.if_icmp .ge 70, 3) := by decide +kernel
theorem dX9_ordersWith_207 : decode cX9_ordersWith 207 = .ok (.iconst 1, 1) := by decide +kernel
theorem dX9_ordersWith_208 : decode cX9_ordersWith 208 = .ok (.istore 7, 2) := by decide +kernel
theorem dX9_ordersWith_210 : decode cX9_ordersWith 210 = .ok (.iload 7, 2) := by decide +kernel
theorem dX9_ordersWith_212 : decode cX9_ordersWith 212 = .ok (.iload 5, 2) := by decide +kernel
theorem dX9_ordersWith_214 : decode cX9_ordersWith 214 = .ok (.if_icmp .gt 54, 3) := by decide +kernel
theorem dX9_ordersWith_217 : decode cX9_ordersWith 217 = .ok (.aload_n 0, 1) := by decide +kernel
theorem dX9_ordersWith_218 : decode cX9_ordersWith 218 = .ok (.getfield 50, 3) := by decide +kernel
theorem dX9_ordersWith_221 : decode cX9_ordersWith 221 = .ok (.iload 6, 2) := by decide +kernel
theorem dX9_ordersWith_223 : decode cX9_ordersWith 223 = .ok (.iaload, 1) := by decide +kernel
theorem dX9_ordersWith_224 : decode cX9_ordersWith 224 = .ok (.ifCond .le 44, 3) := by decide +kernel
theorem dX9_ordersWith_227 : decode cX9_ordersWith 227 = .ok (.aload_n 0, 1) := by decide +kernel
theorem dX9_ordersWith_228 : decode cX9_ordersWith 228 = .ok (.getfield 50, 3) := by decide +kernel
theorem dX9_ordersWith_231 : decode cX9_ordersWith 231 = .ok (.iload 6, 2) := by decide +kernel
theorem dX9_ordersWith_233 : decode cX9_ordersWith 233 = .ok (.iload 7, 2) := by decide +kernel
theorem dX9_ordersWith_235 : decode cX9_ordersWith 235 = .ok (.ior, 1) := by decide +kernel
theorem dX9_ordersWith_236 : decode cX9_ordersWith 236 = .ok (.dup2, 1) := by decide +kernel
theorem dX9_ordersWith_237 : decode cX9_ordersWith 237 = .ok (.iaload, 1) := by decide +kernel
theorem dX9_ordersWith_238 : decode cX9_ordersWith 238 = .ok (.aload_n 0, 1) := by decide +kernel
theorem dX9_ordersWith_239 : decode cX9_ordersWith 239 = .ok (.iload 7, 2) := by decide +kernel
theorem dX9_ordersWith_241 : decode cX9_ordersWith 241 = .ok (.iload 6, 2) := by decide +kernel
theorem dX9_ordersWith_243 : decode cX9_ordersWith 243 = .ok (.invokevirtual 164, 3) := by decide +kernel
theorem dX9_ordersWith_246 : decode cX9_ordersWith 246 = .ok (.ifCond .eq 13, 3) := by decide +kernel
theorem dX9_ordersWith_249 : decode cX9_ordersWith 249 = .ok (.aload_n 0, 1) := by decide +kernel
theorem dX9_ordersWith_250 : decode cX9_ordersWith 250 = .ok (.getfield 50, 3) := by decide +kernel
theorem dX9_ordersWith_253 : decode cX9_ordersWith 253 = .ok (.iload 6, 2) := by decide +kernel
theorem dX9_ordersWith_255 : decode cX9_ordersWith 255 = .ok (.iaload, 1) := by decide +kernel
theorem dX9_ordersWith_256 : decode cX9_ordersWith 256 = .ok (.goto 4, 3) := by decide +kernel
theorem dX9_ordersWith_259 : decode cX9_ordersWith 259 = .ok (.iconst 0, 1) := by decide +kernel
theorem dX9_ordersWith_260 : decode cX9_ordersWith 260 = .ok (.iadd, 1) := by decide +kernel
theorem dX9_ordersWith_261 : decode cX9_ordersWith 261 = .ok (.iastore, 1) := by decide +kernel
theorem dX9_ordersWith_262 : decode cX9_ordersWith 262 = .ok (.iinc 7 1, 3) := by decide +kernel
theorem dX9_ordersWith_265 : decode cX9_ordersWith 265 = .ok (.goto (-55), 3) := by decide +kernel
theorem dX9_ordersWith_268 : decode cX9_ordersWith 268 = .ok (.iinc 6 1, 3) := by decide +kernel
theorem dX9_ordersWith_271 : decode cX9_ordersWith 271 = .ok (.goto (-71), 3) := by decide +kernel
theorem dX9_ordersWith_274 : decode cX9_ordersWith 274 = .ok (.aload_n 0, 1) := by decide +kernel
theorem dX9_ordersWith_275 : decode cX9_ordersWith 275 = .ok (.getfield 50, 3) := by decide +kernel
theorem dX9_ordersWith_278 : decode cX9_ordersWith 278 = .ok (.iload 5, 2) := by decide +kernel
theorem dX9_ordersWith_280 : decode cX9_ordersWith 280 = .ok (.iaload, 1) := by decide +kernel
theorem dX9_ordersWith_281 : decode cX9_ordersWith 281 = .ok (.ireturn, 1) := by decide +kernel
theorem dX9_orders_0 : decode cX9_orders 0 = .ok (.aload_n 0, 1) := by decide +kernel
theorem dX9_orders_1 : decode cX9_orders 1 = .ok (.iconst 0, 1) := by decide +kernel
theorem dX9_orders_2 : decode cX9_orders 2 = .ok (.putfield 63, 3) := by decide +kernel
theorem dX9_orders_5 : decode cX9_orders 5 = .ok (.aload_n 0, 1) := by decide +kernel
theorem dX9_orders_6 : decode cX9_orders 6 = .ok (.iconst 0, 1) := by decide +kernel
theorem dX9_orders_7 : decode cX9_orders 7 = .ok (.bipush (-9), 2) := by decide +kernel
theorem dX9_orders_9 : decode cX9_orders 9 = .ok (.iconst 0, 1) := by decide +kernel
theorem dX9_orders_10 : decode cX9_orders 10 = .ok (.invokevirtual 168, 3) := by decide +kernel
theorem dX9_orders_13 : decode cX9_orders 13 = .ok (.ireturn, 1) := by decide +kernel
theorem dX9_leftBy_0 : decode cX9_leftBy 0 = .ok (.iconst 2, 1) := by decide +kernel
theorem dX9_leftBy_1 : decode cX9_leftBy 1 = .ok (.iconst 2, 1) := by decide +kernel
theorem dX9_leftBy_2 : decode cX9_leftBy 2 = .ok (.iload_n 1, 1) := by decide +kernel
theorem dX9_leftBy_3 : decode cX9_leftBy 3 = .ok (.imul, 1) := by decide +kernel
theorem dX9_leftBy_4 : decode cX9_leftBy 4 = .ok (.iadd, 1) := by decide +kernel
theorem dX9_leftBy_5 : decode cX9_leftBy 5 = .ok (.istore 4, 2) := by decide +kernel
theorem dX9_leftBy_7 : decode cX9_leftBy 7 = .ok (.iconst 2, 1) := by decide +kernel
theorem dX9_leftBy_8 : decode cX9_leftBy 8 = .ok (.iconst 2, 1) := by decide +kernel
theorem dX9_leftBy_9 : decode cX9_leftBy 9 = .ok (.iload_n 2, 1) := by decide +kernel
theorem dX9_leftBy_10 : decode cX9_leftBy 10 = .ok (.imul, 1) := by decide +kernel
theorem dX9_leftBy_11 : decode cX9_leftBy 11 = .ok (.iadd, 1) := by decide +kernel
theorem dX9_leftBy_12 : decode cX9_leftBy 12 = .ok (.istore 5, 2) := by decide +kernel
theorem dX9_leftBy_14 : decode cX9_leftBy 14 = .ok (.iload_n 3, 1) := by decide +kernel
theorem dX9_leftBy_15 : decode cX9_leftBy 15 = .ok (.iconst 2, 1) := by decide +kernel
theorem dX9_leftBy_16 : decode cX9_leftBy 16 = .ok (.if_icmp .ne 15, 3) := by decide +kernel
theorem dX9_leftBy_19 : decode cX9_leftBy 19 = .ok (.aload_n 0, 1) := by decide +kernel
theorem dX9_leftBy_20 : decode cX9_leftBy 20 = .ok (.iload 5, 2) := by decide +kernel
theorem dX9_leftBy_22 : decode cX9_leftBy 22 = .ok (.iconst 0, 1) := by decide +kernel
theorem dX9_leftBy_23 : decode cX9_leftBy 23 = .ok (.iload 4, 2) := by decide +kernel
theorem dX9_leftBy_25 : decode cX9_leftBy 25 = .ok (.invokevirtual 168, 3) := by decide +kernel
theorem dX9_leftBy_28 : decode cX9_leftBy 28 = .ok (.goto 12, 3) := by decide +kernel
theorem dX9_leftBy_31 : decode cX9_leftBy 31 = .ok (.aload_n 0, 1) := by decide +kernel
theorem dX9_leftBy_32 : decode cX9_leftBy 32 = .ok (.iload 4, 2) := by decide +kernel
theorem dX9_leftBy_34 : decode cX9_leftBy 34 = .ok (.iload_n 3, 1) := by decide +kernel
theorem dX9_leftBy_35 : decode cX9_leftBy 35 = .ok (.iload 5, 2) := by decide +kernel
theorem dX9_leftBy_37 : decode cX9_leftBy 37 = .ok (.invokevirtual 168, 3) := by decide +kernel
theorem dX9_leftBy_40 : decode cX9_leftBy 40 = .ok (.ireturn, 1) := by decide +kernel
theorem dX9_left_0 : decode cX9_left 0 = .ok (.aload_n 0, 1) := by decide +kernel
theorem dX9_left_1 : decode cX9_left 1 = .ok (.iconst 0, 1) := by decide +kernel
theorem dX9_left_2 : decode cX9_left 2 = .ok (.putfield 63, 3) := by decide +kernel
theorem dX9_left_5 : decode cX9_left 5 = .ok (.aload_n 0, 1) := by decide +kernel
theorem dX9_left_6 : decode cX9_left 6 = .ok (.iload_n 1, 1) := by decide +kernel
theorem dX9_left_7 : decode cX9_left 7 = .ok (.invokevirtual 145, 3) := by decide +kernel
theorem dX9_left_10 : decode cX9_left 10 = .ok (.ifCond .eq 35, 3) := by decide +kernel
theorem dX9_left_13 : decode cX9_left 13 = .ok (.aload_n 0, 1) := by decide +kernel
theorem dX9_left_14 : decode cX9_left 14 = .ok (.iload_n 2, 1) := by decide +kernel
theorem dX9_left_15 : decode cX9_left 15 = .ok (.invokevirtual 145, 3) := by decide +kernel
theorem dX9_left_18 : decode cX9_left 18 = .ok (.ifCond .eq 27, 3) := by decide +kernel
theorem dX9_left_21 : decode cX9_left 21 = .ok (.iload_n 1, 1) := by decide +kernel
theorem dX9_left_22 : decode cX9_left 22 = .ok (.iload_n 2, 1) := by decide +kernel
theorem dX9_left_23 : decode cX9_left 23 = .ok (.if_icmp .eq 22, 3) := by decide +kernel
theorem dX9_left_26 : decode cX9_left 26 = .ok (.iload_n 3, 1) := by decide +kernel
theorem dX9_left_27 : decode cX9_left 27 = .ok (.iconst 0, 1) := by decide +kernel
theorem dX9_left_28 : decode cX9_left 28 = .ok (.iconst 2, 1) := by decide +kernel
theorem dX9_left_29 : decode cX9_left 29 = .ok (.invokestatic 66, 3) := by decide +kernel
theorem dX9_left_32 : decode cX9_left 32 = .ok (.ifCond .eq 13, 3) := by decide +kernel
theorem dX9_left_35 : decode cX9_left 35 = .ok (.aload_n 0, 1) := by decide +kernel
theorem dX9_left_36 : decode cX9_left 36 = .ok (.iload_n 1, 1) := by decide +kernel
theorem dX9_left_37 : decode cX9_left 37 = .ok (.iload_n 2, 1) := by decide +kernel
theorem dX9_left_38 : decode cX9_left 38 = .ok (.iload_n 3, 1) := by decide +kernel
theorem dX9_left_39 : decode cX9_left 39 = .ok (.invokevirtual 171, 3) := by decide +kernel
theorem dX9_left_42 : decode cX9_left 42 = .ok (.goto 4, 3) := by decide +kernel
theorem dX9_left_45 : decode cX9_left 45 = .ok (.iconst (-1), 1) := by decide +kernel
theorem dX9_left_46 : decode cX9_left 46 = .ok (.ireturn, 1) := by decide +kernel
theorem dX9_best_0 : decode cX9_best 0 = .ok (.aload_n 0, 1) := by decide +kernel
theorem dX9_best_1 : decode cX9_best 1 = .ok (.iconst 0, 1) := by decide +kernel
theorem dX9_best_2 : decode cX9_best 2 = .ok (.putfield 63, 3) := by decide +kernel
theorem dX9_best_5 : decode cX9_best 5 = .ok (.iload_n 1, 1) := by decide +kernel
theorem dX9_best_6 : decode cX9_best 6 = .ok (.iconst 0, 1) := by decide +kernel
theorem dX9_best_7 : decode cX9_best 7 = .ok (.iconst 2, 1) := by decide +kernel
theorem dX9_best_8 : decode cX9_best 8 = .ok (.invokestatic 66, 3) := by decide +kernel
theorem dX9_best_11 : decode cX9_best 11 = .ok (.ifCond .ne 5, 3) := by decide +kernel
theorem dX9_best_14 : decode cX9_best 14 = .ok (.iconst (-1), 1) := by decide +kernel
theorem dX9_best_15 : decode cX9_best 15 = .ok (.ireturn, 1) := by decide +kernel
theorem dX9_best_16 : decode cX9_best 16 = .ok (.iconst (-1), 1) := by decide +kernel
theorem dX9_best_17 : decode cX9_best 17 = .ok (.istore_n 2, 1) := by decide +kernel
theorem dX9_best_18 : decode cX9_best 18 = .ok (.bipush (-9), 2) := by decide +kernel
theorem dX9_best_20 : decode cX9_best 20 = .ok (.istore_n 3, 1) := by decide +kernel
theorem dX9_best_21 : decode cX9_best 21 = .ok (.iconst 0, 1) := by decide +kernel
theorem dX9_best_22 : decode cX9_best 22 = .ok (.istore 4, 2) := by decide +kernel
theorem dX9_best_24 : decode cX9_best 24 = .ok (.iload 4, 2) := by decide +kernel
theorem dX9_best_26 : decode cX9_best 26 = .ok (.aload_n 0, 1) := by decide +kernel
theorem dX9_best_27 : decode cX9_best 27 = .ok (.getfield 7, 3) := by decide +kernel
theorem dX9_best_30 : decode cX9_best 30 = .ok (.iconst 0, 1) := by decide +kernel
theorem dX9_best_31 : decode cX9_best 31 = .ok (.iaload, 1) := by decide +kernel
theorem dX9_best_32 : decode cX9_best 32 = .ok (.if_icmp .ge 161, 3) := by decide +kernel
theorem dX9_best_35 : decode cX9_best 35 = .ok (.iload 4, 2) := by decide +kernel
theorem dX9_best_37 : decode cX9_best 37 = .ok (.iconst 1, 1) := by decide +kernel
theorem dX9_best_38 : decode cX9_best 38 = .ok (.iadd, 1) := by decide +kernel
theorem dX9_best_39 : decode cX9_best 39 = .ok (.istore 5, 2) := by decide +kernel
theorem dX9_best_41 : decode cX9_best 41 = .ok (.iload 5, 2) := by decide +kernel
theorem dX9_best_43 : decode cX9_best 43 = .ok (.aload_n 0, 1) := by decide +kernel
theorem dX9_best_44 : decode cX9_best 44 = .ok (.getfield 7, 3) := by decide +kernel
theorem dX9_best_47 : decode cX9_best 47 = .ok (.iconst 0, 1) := by decide +kernel
theorem dX9_best_48 : decode cX9_best 48 = .ok (.iaload, 1) := by decide +kernel
theorem dX9_best_49 : decode cX9_best 49 = .ok (.if_icmp .ge 138, 3) := by decide +kernel
theorem dX9_best_52 : decode cX9_best 52 = .ok (.aload_n 0, 1) := by decide +kernel
theorem dX9_best_53 : decode cX9_best 53 = .ok (.aload_n 0, 1) := by decide +kernel
theorem dX9_best_54 : decode cX9_best 54 = .ok (.invokevirtual 151, 3) := by decide +kernel
theorem dX9_best_57 : decode cX9_best 57 = .ok (.iconst 2, 1) := by decide +kernel
theorem dX9_best_58 : decode cX9_best 58 = .ok (.iconst 2, 1) := by decide +kernel
theorem dX9_best_59 : decode cX9_best 59 = .ok (.iload 4, 2) := by decide +kernel
theorem dX9_best_61 : decode cX9_best 61 = .ok (.imul, 1) := by decide +kernel
theorem dX9_best_62 : decode cX9_best 62 = .ok (.iadd, 1) := by decide +kernel
theorem dX9_best_63 : decode cX9_best 63 = .ok (.iconst 2, 1) := by decide +kernel
theorem dX9_best_64 : decode cX9_best 64 = .ok (.iconst 2, 1) := by decide +kernel
theorem dX9_best_65 : decode cX9_best 65 = .ok (.iload 5, 2) := by decide +kernel
theorem dX9_best_67 : decode cX9_best 67 = .ok (.imul, 1) := by decide +kernel
theorem dX9_best_68 : decode cX9_best 68 = .ok (.iadd, 1) := by decide +kernel
theorem dX9_best_69 : decode cX9_best 69 = .ok (.invokevirtual 157, 3) := by decide +kernel
theorem dX9_best_72 : decode cX9_best 72 = .ok (.ifCond .ne 109, 3) := by decide +kernel
theorem dX9_best_75 : decode cX9_best 75 = .ok (.iconst 0, 1) := by decide +kernel
theorem dX9_best_76 : decode cX9_best 76 = .ok (.istore 6, 2) := by decide +kernel
theorem dX9_best_78 : decode cX9_best 78 = .ok (.iconst 0, 1) := by decide +kernel
theorem dX9_best_79 : decode cX9_best 79 = .ok (.istore 7, 2) := by decide +kernel
theorem dX9_best_81 : decode cX9_best 81 = .ok (.iload 7, 2) := by decide +kernel
theorem dX9_best_83 : decode cX9_best 83 = .ok (.iconst 3, 1) := by decide +kernel
theorem dX9_best_84 : decode cX9_best 84 = .ok (.if_icmp .ge 37, 3) := by decide +kernel
theorem dX9_best_87 : decode cX9_best 87 = .ok (.aload_n 0, 1) := by decide +kernel
theorem dX9_best_88 : decode cX9_best 88 = .ok (.iload 4, 2) := by decide +kernel
theorem dX9_best_90 : decode cX9_best 90 = .ok (.iload 5, 2) := by decide +kernel
theorem dX9_best_92 : decode cX9_best 92 = .ok (.iload 7, 2) := by decide +kernel
theorem dX9_best_94 : decode cX9_best 94 = .ok (.invokevirtual 171, 3) := by decide +kernel
theorem dX9_best_97 : decode cX9_best 97 = .ok (.istore 8, 2) := by decide +kernel
theorem dX9_best_99 : decode cX9_best 99 = .ok (.iload 8, 2) := by decide +kernel
theorem dX9_best_101 : decode cX9_best 101 = .ok (.iload 6, 2) := by decide +kernel
theorem dX9_best_103 : decode cX9_best 103 = .ok (.if_icmp .le 8, 3) := by decide +kernel
theorem dX9_best_106 : decode cX9_best 106 = .ok (.iload 8, 2) := by decide +kernel
theorem dX9_best_108 : decode cX9_best 108 = .ok (.goto 5, 3) := by decide +kernel
theorem dX9_best_111 : decode cX9_best 111 = .ok (.iload 6, 2) := by decide +kernel
theorem dX9_best_113 : decode cX9_best 113 = .ok (.istore 6, 2) := by decide +kernel
theorem dX9_best_115 : decode cX9_best 115 = .ok (.iinc 7 1, 3) := by decide +kernel
theorem dX9_best_118 : decode cX9_best 118 = .ok (.goto (-37), 3) := by decide +kernel
theorem dX9_best_121 : decode cX9_best 121 = .ok (.iload_n 2, 1) := by decide +kernel
theorem dX9_best_122 : decode cX9_best 122 = .ok (.ifCond .lt 9, 3) := by decide +kernel
theorem dX9_best_125 : decode cX9_best 125 = .ok (.iload 6, 2) := by decide +kernel
theorem dX9_best_127 : decode cX9_best 127 = .ok (.iload_n 2, 1) := by decide +kernel
theorem dX9_best_128 : decode cX9_best 128 = .ok (.if_icmp .ge 7, 3) := by decide +kernel
theorem dX9_best_131 : decode cX9_best 131 = .ok (.iconst 1, 1) := by decide +kernel
theorem dX9_best_132 : decode cX9_best 132 = .ok (.goto 4, 3) := by decide +kernel
theorem dX9_best_135 : decode cX9_best 135 = .ok (.iconst 0, 1) := by decide +kernel
theorem dX9_best_136 : decode cX9_best 136 = .ok (.istore 7, 2) := by decide +kernel
theorem dX9_best_138 : decode cX9_best 138 = .ok (.iload 7, 2) := by decide +kernel
theorem dX9_best_140 : decode cX9_best 140 = .ok (.ifCond .eq 27, 3) := by decide +kernel
theorem dX9_best_143 : decode cX9_best 143 = .ok (.iload_n 1, 1) := by decide +kernel
theorem dX9_best_144 : decode cX9_best 144 = .ok (.ifCond .ne 8, 3) := by decide +kernel
theorem dX9_best_147 : decode cX9_best 147 = .ok (.iload 4, 2) := by decide +kernel
theorem dX9_best_149 : decode cX9_best 149 = .ok (.goto 19, 3) := by decide +kernel
theorem dX9_best_152 : decode cX9_best 152 = .ok (.iload_n 1, 1) := by decide +kernel
theorem dX9_best_153 : decode cX9_best 153 = .ok (.iconst 1, 1) := by decide +kernel
theorem dX9_best_154 : decode cX9_best 154 = .ok (.if_icmp .ne 8, 3) := by decide +kernel
theorem dX9_best_157 : decode cX9_best 157 = .ok (.iload 5, 2) := by decide +kernel
theorem dX9_best_159 : decode cX9_best 159 = .ok (.goto 9, 3) := by decide +kernel
theorem dX9_best_162 : decode cX9_best 162 = .ok (.iload 6, 2) := by decide +kernel
theorem dX9_best_164 : decode cX9_best 164 = .ok (.goto 4, 3) := by decide +kernel
theorem dX9_best_167 : decode cX9_best 167 = .ok (.iload_n 3, 1) := by decide +kernel
theorem dX9_best_168 : decode cX9_best 168 = .ok (.istore_n 3, 1) := by decide +kernel
theorem dX9_best_169 : decode cX9_best 169 = .ok (.iload 7, 2) := by decide +kernel
theorem dX9_best_171 : decode cX9_best 171 = .ok (.ifCond .eq 8, 3) := by decide +kernel
theorem dX9_best_174 : decode cX9_best 174 = .ok (.iload 6, 2) := by decide +kernel
theorem dX9_best_176 : decode cX9_best 176 = .ok (.goto 4, 3) := by decide +kernel
theorem dX9_best_179 : decode cX9_best 179 = .ok (.iload_n 2, 1) := by decide +kernel
theorem dX9_best_180 : decode cX9_best 180 = .ok (.istore_n 2, 1) := by decide +kernel
theorem dX9_best_181 : decode cX9_best 181 = .ok (.iinc 5 1, 3) := by decide +kernel
theorem dX9_best_184 : decode cX9_best 184 = .ok (.goto (-143), 3) := by decide +kernel
theorem dX9_best_187 : decode cX9_best 187 = .ok (.iinc 4 1, 3) := by decide +kernel
theorem dX9_best_190 : decode cX9_best 190 = .ok (.goto (-166), 3) := by decide +kernel
theorem dX9_best_193 : decode cX9_best 193 = .ok (.iload_n 3, 1) := by decide +kernel
theorem dX9_best_194 : decode cX9_best 194 = .ok (.ireturn, 1) := by decide +kernel
theorem dX9_notes_0 : decode cX9_notes 0 = .ok (.aload_n 0, 1) := by decide +kernel
theorem dX9_notes_1 : decode cX9_notes 1 = .ok (.getfield 105, 3) := by decide +kernel
theorem dX9_notes_4 : decode cX9_notes 4 = .ok (.bipush 10, 2) := by decide +kernel
theorem dX9_notes_6 : decode cX9_notes 6 = .ok (.if_icmp .ne 43, 3) := by decide +kernel
theorem dX9_notes_9 : decode cX9_notes 9 = .ok (.iconst 0, 1) := by decide +kernel
theorem dX9_notes_10 : decode cX9_notes 10 = .ok (.istore_n 1, 1) := by decide +kernel
theorem dX9_notes_11 : decode cX9_notes 11 = .ok (.iload_n 1, 1) := by decide +kernel
theorem dX9_notes_12 : decode cX9_notes 12 = .ok (.sipush 666, 3) := by decide +kernel
theorem dX9_notes_15 : decode cX9_notes 15 = .ok (.if_icmp .ge 24, 3) := by decide +kernel
theorem dX9_notes_18 : decode cX9_notes 18 = .ok (.aload_n 0, 1) := by decide +kernel
theorem dX9_notes_19 : decode cX9_notes 19 = .ok (.getfield 16, 3) := by decide +kernel
theorem dX9_notes_22 : decode cX9_notes 22 = .ok (.iload_n 1, 1) := by decide +kernel
theorem dX9_notes_23 : decode cX9_notes 23 = .ok (.aload_n 0, 1) := by decide +kernel
theorem dX9_notes_24 : decode cX9_notes 24 = .ok (.getfield 16, 3) := by decide +kernel
theorem dX9_notes_27 : decode cX9_notes 27 = .ok (.iload_n 1, 1) := by decide +kernel
theorem dX9_notes_28 : decode cX9_notes 28 = .ok (.bipush 74, 2) := by decide +kernel
theorem dX9_notes_30 : decode cX9_notes 30 = .ok (.iadd, 1) := by decide +kernel
theorem dX9_notes_31 : decode cX9_notes 31 = .ok (.iaload, 1) := by decide +kernel
theorem dX9_notes_32 : decode cX9_notes 32 = .ok (.iastore, 1) := by decide +kernel
theorem dX9_notes_33 : decode cX9_notes 33 = .ok (.iinc 1 1, 3) := by decide +kernel
theorem dX9_notes_36 : decode cX9_notes 36 = .ok (.goto (-25), 3) := by decide +kernel
theorem dX9_notes_39 : decode cX9_notes 39 = .ok (.aload_n 0, 1) := by decide +kernel
theorem dX9_notes_40 : decode cX9_notes 40 = .ok (.dup, 1) := by decide +kernel
theorem dX9_notes_41 : decode cX9_notes 41 = .ok (.getfield 105, 3) := by decide +kernel
theorem dX9_notes_44 : decode cX9_notes 44 = .ok (.iconst 1, 1) := by decide +kernel
theorem dX9_notes_45 : decode cX9_notes 45 = .ok (.isub, 1) := by decide +kernel
theorem dX9_notes_46 : decode cX9_notes 46 = .ok (.putfield 105, 3) := by decide +kernel
theorem dX9_notes_49 : decode cX9_notes 49 = .ok (.iconst 0, 1) := by decide +kernel
theorem dX9_notes_50 : decode cX9_notes 50 = .ok (.istore_n 1, 1) := by decide +kernel
theorem dX9_notes_51 : decode cX9_notes 51 = .ok (.iload_n 1, 1) := by decide +kernel
theorem dX9_notes_52 : decode cX9_notes 52 = .ok (.bipush 74, 2) := by decide +kernel
theorem dX9_notes_54 : decode cX9_notes 54 = .ok (.if_icmp .ge 29, 3) := by decide +kernel
theorem dX9_notes_57 : decode cX9_notes 57 = .ok (.aload_n 0, 1) := by decide +kernel
theorem dX9_notes_58 : decode cX9_notes 58 = .ok (.getfield 16, 3) := by decide +kernel
theorem dX9_notes_61 : decode cX9_notes 61 = .ok (.bipush 74, 2) := by decide +kernel
theorem dX9_notes_63 : decode cX9_notes 63 = .ok (.aload_n 0, 1) := by decide +kernel
theorem dX9_notes_64 : decode cX9_notes 64 = .ok (.getfield 105, 3) := by decide +kernel
theorem dX9_notes_67 : decode cX9_notes 67 = .ok (.imul, 1) := by decide +kernel
theorem dX9_notes_68 : decode cX9_notes 68 = .ok (.iload_n 1, 1) := by decide +kernel
theorem dX9_notes_69 : decode cX9_notes 69 = .ok (.iadd, 1) := by decide +kernel
theorem dX9_notes_70 : decode cX9_notes 70 = .ok (.aload_n 0, 1) := by decide +kernel
theorem dX9_notes_71 : decode cX9_notes 71 = .ok (.getfield 7, 3) := by decide +kernel
theorem dX9_notes_74 : decode cX9_notes 74 = .ok (.iload_n 1, 1) := by decide +kernel
theorem dX9_notes_75 : decode cX9_notes 75 = .ok (.iaload, 1) := by decide +kernel
theorem dX9_notes_76 : decode cX9_notes 76 = .ok (.iastore, 1) := by decide +kernel
theorem dX9_notes_77 : decode cX9_notes 77 = .ok (.iinc 1 1, 3) := by decide +kernel
theorem dX9_notes_80 : decode cX9_notes 80 = .ok (.goto (-29), 3) := by decide +kernel
theorem dX9_notes_83 : decode cX9_notes 83 = .ok (.aload_n 0, 1) := by decide +kernel
theorem dX9_notes_84 : decode cX9_notes 84 = .ok (.dup, 1) := by decide +kernel
theorem dX9_notes_85 : decode cX9_notes 85 = .ok (.getfield 105, 3) := by decide +kernel
theorem dX9_notes_88 : decode cX9_notes 88 = .ok (.iconst 1, 1) := by decide +kernel
theorem dX9_notes_89 : decode cX9_notes 89 = .ok (.iadd, 1) := by decide +kernel
theorem dX9_notes_90 : decode cX9_notes 90 = .ok (.putfield 105, 3) := by decide +kernel
theorem dX9_notes_93 : decode cX9_notes 93 = .ok (.return_, 1) := by decide +kernel
theorem dX9_says_0 : decode cX9_says 0 = .ok (.aload_n 0, 1) := by decide +kernel
theorem dX9_says_1 : decode cX9_says 1 = .ok (.iconst 0, 1) := by decide +kernel
theorem dX9_says_2 : decode cX9_says 2 = .ok (.putfield 63, 3) := by decide +kernel
theorem dX9_says_5 : decode cX9_says 5 = .ok (.aload_n 0, 1) := by decide +kernel
theorem dX9_says_6 : decode cX9_says 6 = .ok (.iload_n 1, 1) := by decide +kernel
theorem dX9_says_7 : decode cX9_says 7 = .ok (.invokevirtual 161, 3) := by decide +kernel
theorem dX9_says_10 : decode cX9_says 10 = .ok (.ifCond .eq 25, 3) := by decide +kernel
theorem dX9_says_13 : decode cX9_says 13 = .ok (.aload_n 0, 1) := by decide +kernel
theorem dX9_says_14 : decode cX9_says 14 = .ok (.iload_n 3, 1) := by decide +kernel
theorem dX9_says_15 : decode cX9_says 15 = .ok (.invokevirtual 161, 3) := by decide +kernel
theorem dX9_says_18 : decode cX9_says 18 = .ok (.ifCond .eq 17, 3) := by decide +kernel
theorem dX9_says_21 : decode cX9_says 21 = .ok (.iload_n 1, 1) := by decide +kernel
theorem dX9_says_22 : decode cX9_says 22 = .ok (.iload_n 3, 1) := by decide +kernel
theorem dX9_says_23 : decode cX9_says 23 = .ok (.if_icmp .eq 12, 3) := by decide +kernel
theorem dX9_says_26 : decode cX9_says 26 = .ok (.iload_n 2, 1) := by decide +kernel
theorem dX9_says_27 : decode cX9_says 27 = .ok (.iconst 0, 1) := by decide +kernel
theorem dX9_says_28 : decode cX9_says 28 = .ok (.iconst 1, 1) := by decide +kernel
theorem dX9_says_29 : decode cX9_says 29 = .ok (.invokestatic 66, 3) := by decide +kernel
theorem dX9_says_32 : decode cX9_says 32 = .ok (.ifCond .ne 5, 3) := by decide +kernel
theorem dX9_says_35 : decode cX9_says 35 = .ok (.iconst (-1), 1) := by decide +kernel
theorem dX9_says_36 : decode cX9_says 36 = .ok (.ireturn, 1) := by decide +kernel
theorem dX9_says_37 : decode cX9_says 37 = .ok (.aload_n 0, 1) := by decide +kernel
theorem dX9_says_38 : decode cX9_says 38 = .ok (.invokevirtual 174, 3) := by decide +kernel
theorem dX9_says_41 : decode cX9_says 41 = .ok (.bipush 6, 2) := by decide +kernel
theorem dX9_says_43 : decode cX9_says 43 = .ok (.if_icmp .ne 6, 3) := by decide +kernel
theorem dX9_says_46 : decode cX9_says 46 = .ok (.bipush (-3), 2) := by decide +kernel
theorem dX9_says_48 : decode cX9_says 48 = .ok (.ireturn, 1) := by decide +kernel
theorem dX9_says_49 : decode cX9_says 49 = .ok (.aload_n 0, 1) := by decide +kernel
theorem dX9_says_50 : decode cX9_says 50 = .ok (.invokevirtual 177, 3) := by decide +kernel
theorem dX9_says_53 : decode cX9_says 53 = .ok (.bipush 18, 2) := by decide +kernel
theorem dX9_says_55 : decode cX9_says 55 = .ok (.iconst 4, 1) := by decide +kernel
theorem dX9_says_56 : decode cX9_says 56 = .ok (.aload_n 0, 1) := by decide +kernel
theorem dX9_says_57 : decode cX9_says 57 = .ok (.getfield 7, 3) := by decide +kernel
theorem dX9_says_60 : decode cX9_says 60 = .ok (.iconst 1, 1) := by decide +kernel
theorem dX9_says_61 : decode cX9_says 61 = .ok (.iaload, 1) := by decide +kernel
theorem dX9_says_62 : decode cX9_says 62 = .ok (.imul, 1) := by decide +kernel
theorem dX9_says_63 : decode cX9_says 63 = .ok (.iadd, 1) := by decide +kernel
theorem dX9_says_64 : decode cX9_says 64 = .ok (.istore 4, 2) := by decide +kernel
theorem dX9_says_66 : decode cX9_says 66 = .ok (.aload_n 0, 1) := by decide +kernel
theorem dX9_says_67 : decode cX9_says 67 = .ok (.getfield 7, 3) := by decide +kernel
theorem dX9_says_70 : decode cX9_says 70 = .ok (.iload 4, 2) := by decide +kernel
theorem dX9_says_72 : decode cX9_says 72 = .ok (.bipush (-9), 2) := by decide +kernel
theorem dX9_says_74 : decode cX9_says 74 = .ok (.iastore, 1) := by decide +kernel
theorem dX9_says_75 : decode cX9_says 75 = .ok (.aload_n 0, 1) := by decide +kernel
theorem dX9_says_76 : decode cX9_says 76 = .ok (.getfield 7, 3) := by decide +kernel
theorem dX9_says_79 : decode cX9_says 79 = .ok (.iload 4, 2) := by decide +kernel
theorem dX9_says_81 : decode cX9_says 81 = .ok (.iconst 1, 1) := by decide +kernel
theorem dX9_says_82 : decode cX9_says 82 = .ok (.iadd, 1) := by decide +kernel
theorem dX9_says_83 : decode cX9_says 83 = .ok (.iload_n 1, 1) := by decide +kernel
theorem dX9_says_84 : decode cX9_says 84 = .ok (.iastore, 1) := by decide +kernel
theorem dX9_says_85 : decode cX9_says 85 = .ok (.aload_n 0, 1) := by decide +kernel
theorem dX9_says_86 : decode cX9_says 86 = .ok (.getfield 7, 3) := by decide +kernel
theorem dX9_says_89 : decode cX9_says 89 = .ok (.iload 4, 2) := by decide +kernel
theorem dX9_says_91 : decode cX9_says 91 = .ok (.iconst 2, 1) := by decide +kernel
theorem dX9_says_92 : decode cX9_says 92 = .ok (.iadd, 1) := by decide +kernel
theorem dX9_says_93 : decode cX9_says 93 = .ok (.iload_n 2, 1) := by decide +kernel
theorem dX9_says_94 : decode cX9_says 94 = .ok (.iastore, 1) := by decide +kernel
theorem dX9_says_95 : decode cX9_says 95 = .ok (.aload_n 0, 1) := by decide +kernel
theorem dX9_says_96 : decode cX9_says 96 = .ok (.getfield 7, 3) := by decide +kernel
theorem dX9_says_99 : decode cX9_says 99 = .ok (.iload 4, 2) := by decide +kernel
theorem dX9_says_101 : decode cX9_says 101 = .ok (.iconst 3, 1) := by decide +kernel
theorem dX9_says_102 : decode cX9_says 102 = .ok (.iadd, 1) := by decide +kernel
theorem dX9_says_103 : decode cX9_says 103 = .ok (.iload_n 3, 1) := by decide +kernel
theorem dX9_says_104 : decode cX9_says 104 = .ok (.iastore, 1) := by decide +kernel
theorem dX9_says_105 : decode cX9_says 105 = .ok (.aload_n 0, 1) := by decide +kernel
theorem dX9_says_106 : decode cX9_says 106 = .ok (.getfield 7, 3) := by decide +kernel
theorem dX9_says_109 : decode cX9_says 109 = .ok (.iconst 1, 1) := by decide +kernel
theorem dX9_says_110 : decode cX9_says 110 = .ok (.dup2, 1) := by decide +kernel
theorem dX9_says_111 : decode cX9_says 111 = .ok (.iaload, 1) := by decide +kernel
theorem dX9_says_112 : decode cX9_says 112 = .ok (.iconst 1, 1) := by decide +kernel
theorem dX9_says_113 : decode cX9_says 113 = .ok (.iadd, 1) := by decide +kernel
theorem dX9_says_114 : decode cX9_says 114 = .ok (.iastore, 1) := by decide +kernel
theorem dX9_says_115 : decode cX9_says 115 = .ok (.aload_n 0, 1) := by decide +kernel
theorem dX9_says_116 : decode cX9_says 116 = .ok (.getfield 7, 3) := by decide +kernel
theorem dX9_says_119 : decode cX9_says 119 = .ok (.iconst 1, 1) := by decide +kernel
theorem dX9_says_120 : decode cX9_says 120 = .ok (.iaload, 1) := by decide +kernel
theorem dX9_says_121 : decode cX9_says 121 = .ok (.ireturn, 1) := by decide +kernel
theorem dX9_takes_0 : decode cX9_takes 0 = .ok (.aload_n 0, 1) := by decide +kernel
theorem dX9_takes_1 : decode cX9_takes 1 = .ok (.iconst 0, 1) := by decide +kernel
theorem dX9_takes_2 : decode cX9_takes 2 = .ok (.putfield 63, 3) := by decide +kernel
theorem dX9_takes_5 : decode cX9_takes 5 = .ok (.aload_n 0, 1) := by decide +kernel
theorem dX9_takes_6 : decode cX9_takes 6 = .ok (.iload_n 1, 1) := by decide +kernel
theorem dX9_takes_7 : decode cX9_takes 7 = .ok (.invokevirtual 148, 3) := by decide +kernel
theorem dX9_takes_10 : decode cX9_takes 10 = .ok (.ifCond .eq 14, 3) := by decide +kernel
theorem dX9_takes_13 : decode cX9_takes 13 = .ok (.aload_n 0, 1) := by decide +kernel
theorem dX9_takes_14 : decode cX9_takes 14 = .ok (.iload_n 1, 1) := by decide +kernel
theorem dX9_takes_15 : decode cX9_takes 15 = .ok (.iconst 0, 1) := by decide +kernel
theorem dX9_takes_16 : decode cX9_takes 16 = .ok (.invokevirtual 118, 3) := by decide +kernel
theorem dX9_takes_19 : decode cX9_takes 19 = .ok (.bipush (-9), 2) := by decide +kernel
theorem dX9_takes_21 : decode cX9_takes 21 = .ok (.if_icmp .eq 5, 3) := by decide +kernel
theorem dX9_takes_24 : decode cX9_takes 24 = .ok (.iconst (-1), 1) := by decide +kernel
theorem dX9_takes_25 : decode cX9_takes 25 = .ok (.ireturn, 1) := by decide +kernel
theorem dX9_takes_26 : decode cX9_takes 26 = .ok (.aload_n 0, 1) := by decide +kernel
theorem dX9_takes_27 : decode cX9_takes 27 = .ok (.invokevirtual 177, 3) := by decide +kernel
theorem dX9_takes_30 : decode cX9_takes 30 = .ok (.aload_n 0, 1) := by decide +kernel
theorem dX9_takes_31 : decode cX9_takes 31 = .ok (.getfield 7, 3) := by decide +kernel
theorem dX9_takes_34 : decode cX9_takes 34 = .ok (.iconst 1, 1) := by decide +kernel
theorem dX9_takes_35 : decode cX9_takes 35 = .ok (.dup2, 1) := by decide +kernel
theorem dX9_takes_36 : decode cX9_takes 36 = .ok (.iaload, 1) := by decide +kernel
theorem dX9_takes_37 : decode cX9_takes 37 = .ok (.iconst 1, 1) := by decide +kernel
theorem dX9_takes_38 : decode cX9_takes 38 = .ok (.isub, 1) := by decide +kernel
theorem dX9_takes_39 : decode cX9_takes 39 = .ok (.iastore, 1) := by decide +kernel
theorem dX9_takes_40 : decode cX9_takes 40 = .ok (.bipush 18, 2) := by decide +kernel
theorem dX9_takes_42 : decode cX9_takes 42 = .ok (.iconst 4, 1) := by decide +kernel
theorem dX9_takes_43 : decode cX9_takes 43 = .ok (.iload_n 1, 1) := by decide +kernel
theorem dX9_takes_44 : decode cX9_takes 44 = .ok (.imul, 1) := by decide +kernel
theorem dX9_takes_45 : decode cX9_takes 45 = .ok (.iadd, 1) := by decide +kernel
theorem dX9_takes_46 : decode cX9_takes 46 = .ok (.istore_n 2, 1) := by decide +kernel
theorem dX9_takes_47 : decode cX9_takes 47 = .ok (.iload_n 2, 1) := by decide +kernel
theorem dX9_takes_48 : decode cX9_takes 48 = .ok (.bipush 18, 2) := by decide +kernel
theorem dX9_takes_50 : decode cX9_takes 50 = .ok (.iconst 4, 1) := by decide +kernel
theorem dX9_takes_51 : decode cX9_takes 51 = .ok (.aload_n 0, 1) := by decide +kernel
theorem dX9_takes_52 : decode cX9_takes 52 = .ok (.getfield 7, 3) := by decide +kernel
theorem dX9_takes_55 : decode cX9_takes 55 = .ok (.iconst 1, 1) := by decide +kernel
theorem dX9_takes_56 : decode cX9_takes 56 = .ok (.iaload, 1) := by decide +kernel
theorem dX9_takes_57 : decode cX9_takes 57 = .ok (.imul, 1) := by decide +kernel
theorem dX9_takes_58 : decode cX9_takes 58 = .ok (.iadd, 1) := by decide +kernel
theorem dX9_takes_59 : decode cX9_takes 59 = .ok (.if_icmp .ge 23, 3) := by decide +kernel
theorem dX9_takes_62 : decode cX9_takes 62 = .ok (.aload_n 0, 1) := by decide +kernel
theorem dX9_takes_63 : decode cX9_takes 63 = .ok (.getfield 7, 3) := by decide +kernel
theorem dX9_takes_66 : decode cX9_takes 66 = .ok (.iload_n 2, 1) := by decide +kernel
theorem dX9_takes_67 : decode cX9_takes 67 = .ok (.aload_n 0, 1) := by decide +kernel
theorem dX9_takes_68 : decode cX9_takes 68 = .ok (.getfield 7, 3) := by decide +kernel
theorem dX9_takes_71 : decode cX9_takes 71 = .ok (.iload_n 2, 1) := by decide +kernel
theorem dX9_takes_72 : decode cX9_takes 72 = .ok (.iconst 4, 1) := by decide +kernel
theorem dX9_takes_73 : decode cX9_takes 73 = .ok (.iadd, 1) := by decide +kernel
theorem dX9_takes_74 : decode cX9_takes 74 = .ok (.iaload, 1) := by decide +kernel
theorem dX9_takes_75 : decode cX9_takes 75 = .ok (.iastore, 1) := by decide +kernel
theorem dX9_takes_76 : decode cX9_takes 76 = .ok (.iinc 2 1, 3) := by decide +kernel
theorem dX9_takes_79 : decode cX9_takes 79 = .ok (.goto (-32), 3) := by decide +kernel
theorem dX9_takes_82 : decode cX9_takes 82 = .ok (.aload_n 0, 1) := by decide +kernel
theorem dX9_takes_83 : decode cX9_takes 83 = .ok (.getfield 7, 3) := by decide +kernel
theorem dX9_takes_86 : decode cX9_takes 86 = .ok (.iconst 1, 1) := by decide +kernel
theorem dX9_takes_87 : decode cX9_takes 87 = .ok (.iaload, 1) := by decide +kernel
theorem dX9_takes_88 : decode cX9_takes 88 = .ok (.ireturn, 1) := by decide +kernel
theorem dX9_becomes_0 : decode cX9_becomes 0 = .ok (.aload_n 0, 1) := by decide +kernel
theorem dX9_becomes_1 : decode cX9_becomes 1 = .ok (.getfield 7, 3) := by decide +kernel
theorem dX9_becomes_4 : decode cX9_becomes 4 = .ok (.iload_n 1, 1) := by decide +kernel
theorem dX9_becomes_5 : decode cX9_becomes 5 = .ok (.iaload, 1) := by decide +kernel
theorem dX9_becomes_6 : decode cX9_becomes 6 = .ok (.istore_n 3, 1) := by decide +kernel
theorem dX9_becomes_7 : decode cX9_becomes 7 = .ok (.iload_n 3, 1) := by decide +kernel
theorem dX9_becomes_8 : decode cX9_becomes 8 = .ok (.iload_n 2, 1) := by decide +kernel
theorem dX9_becomes_9 : decode cX9_becomes 9 = .ok (.if_icmp .ne 6, 3) := by decide +kernel
theorem dX9_becomes_12 : decode cX9_becomes 12 = .ok (.bipush (-2), 2) := by decide +kernel
theorem dX9_becomes_14 : decode cX9_becomes 14 = .ok (.ireturn, 1) := by decide +kernel
theorem dX9_becomes_15 : decode cX9_becomes 15 = .ok (.aload_n 0, 1) := by decide +kernel
theorem dX9_becomes_16 : decode cX9_becomes 16 = .ok (.invokevirtual 177, 3) := by decide +kernel
theorem dX9_becomes_19 : decode cX9_becomes 19 = .ok (.aload_n 0, 1) := by decide +kernel
theorem dX9_becomes_20 : decode cX9_becomes 20 = .ok (.getfield 7, 3) := by decide +kernel
theorem dX9_becomes_23 : decode cX9_becomes 23 = .ok (.iload_n 1, 1) := by decide +kernel
theorem dX9_becomes_24 : decode cX9_becomes 24 = .ok (.iload_n 2, 1) := by decide +kernel
theorem dX9_becomes_25 : decode cX9_becomes 25 = .ok (.iastore, 1) := by decide +kernel
theorem dX9_becomes_26 : decode cX9_becomes 26 = .ok (.iload_n 3, 1) := by decide +kernel
theorem dX9_becomes_27 : decode cX9_becomes 27 = .ok (.ireturn, 1) := by decide +kernel
theorem dX9_tenses_0 : decode cX9_tenses 0 = .ok (.aload_n 0, 1) := by decide +kernel
theorem dX9_tenses_1 : decode cX9_tenses 1 = .ok (.iconst 0, 1) := by decide +kernel
theorem dX9_tenses_2 : decode cX9_tenses 2 = .ok (.putfield 63, 3) := by decide +kernel
theorem dX9_tenses_5 : decode cX9_tenses 5 = .ok (.aload_n 0, 1) := by decide +kernel
theorem dX9_tenses_6 : decode cX9_tenses 6 = .ok (.iload_n 1, 1) := by decide +kernel
theorem dX9_tenses_7 : decode cX9_tenses 7 = .ok (.invokevirtual 145, 3) := by decide +kernel
theorem dX9_tenses_10 : decode cX9_tenses 10 = .ok (.ifCond .eq 26, 3) := by decide +kernel
theorem dX9_tenses_13 : decode cX9_tenses 13 = .ok (.iload_n 2, 1) := by decide +kernel
theorem dX9_tenses_14 : decode cX9_tenses 14 = .ok (.iconst 0, 1) := by decide +kernel
theorem dX9_tenses_15 : decode cX9_tenses 15 = .ok (.bipush 7, 2) := by decide +kernel
theorem dX9_tenses_17 : decode cX9_tenses 17 = .ok (.invokestatic 66, 3) := by decide +kernel
theorem dX9_tenses_20 : decode cX9_tenses 20 = .ok (.ifCond .eq 16, 3) := by decide +kernel
theorem dX9_tenses_23 : decode cX9_tenses 23 = .ok (.aload_n 0, 1) := by decide +kernel
theorem dX9_tenses_24 : decode cX9_tenses 24 = .ok (.iconst 2, 1) := by decide +kernel
theorem dX9_tenses_25 : decode cX9_tenses 25 = .ok (.iconst 2, 1) := by decide +kernel
theorem dX9_tenses_26 : decode cX9_tenses 26 = .ok (.iload_n 1, 1) := by decide +kernel
theorem dX9_tenses_27 : decode cX9_tenses 27 = .ok (.imul, 1) := by decide +kernel
theorem dX9_tenses_28 : decode cX9_tenses 28 = .ok (.iadd, 1) := by decide +kernel
theorem dX9_tenses_29 : decode cX9_tenses 29 = .ok (.iload_n 2, 1) := by decide +kernel
theorem dX9_tenses_30 : decode cX9_tenses 30 = .ok (.invokevirtual 180, 3) := by decide +kernel
theorem dX9_tenses_33 : decode cX9_tenses 33 = .ok (.goto 4, 3) := by decide +kernel
theorem dX9_tenses_36 : decode cX9_tenses 36 = .ok (.iconst (-1), 1) := by decide +kernel
theorem dX9_tenses_37 : decode cX9_tenses 37 = .ok (.ireturn, 1) := by decide +kernel
theorem dX9_links_0 : decode cX9_links 0 = .ok (.aload_n 0, 1) := by decide +kernel
theorem dX9_links_1 : decode cX9_links 1 = .ok (.iconst 0, 1) := by decide +kernel
theorem dX9_links_2 : decode cX9_links 2 = .ok (.putfield 63, 3) := by decide +kernel
theorem dX9_links_5 : decode cX9_links 5 = .ok (.aload_n 0, 1) := by decide +kernel
theorem dX9_links_6 : decode cX9_links 6 = .ok (.iload_n 1, 1) := by decide +kernel
theorem dX9_links_7 : decode cX9_links 7 = .ok (.invokevirtual 145, 3) := by decide +kernel
theorem dX9_links_10 : decode cX9_links 10 = .ok (.ifCond .eq 31, 3) := by decide +kernel
theorem dX9_links_13 : decode cX9_links 13 = .ok (.iload_n 1, 1) := by decide +kernel
theorem dX9_links_14 : decode cX9_links 14 = .ok (.ifCond .le 27, 3) := by decide +kernel
theorem dX9_links_17 : decode cX9_links 17 = .ok (.iload_n 2, 1) := by decide +kernel
theorem dX9_links_18 : decode cX9_links 18 = .ok (.iconst 0, 1) := by decide +kernel
theorem dX9_links_19 : decode cX9_links 19 = .ok (.iconst 3, 1) := by decide +kernel
theorem dX9_links_20 : decode cX9_links 20 = .ok (.invokestatic 66, 3) := by decide +kernel
theorem dX9_links_23 : decode cX9_links 23 = .ok (.ifCond .eq 18, 3) := by decide +kernel
theorem dX9_links_26 : decode cX9_links 26 = .ok (.aload_n 0, 1) := by decide +kernel
theorem dX9_links_27 : decode cX9_links 27 = .ok (.iconst 2, 1) := by decide +kernel
theorem dX9_links_28 : decode cX9_links 28 = .ok (.iconst 2, 1) := by decide +kernel
theorem dX9_links_29 : decode cX9_links 29 = .ok (.iload_n 1, 1) := by decide +kernel
theorem dX9_links_30 : decode cX9_links 30 = .ok (.imul, 1) := by decide +kernel
theorem dX9_links_31 : decode cX9_links 31 = .ok (.iadd, 1) := by decide +kernel
theorem dX9_links_32 : decode cX9_links 32 = .ok (.iconst 1, 1) := by decide +kernel
theorem dX9_links_33 : decode cX9_links 33 = .ok (.iadd, 1) := by decide +kernel
theorem dX9_links_34 : decode cX9_links 34 = .ok (.iload_n 2, 1) := by decide +kernel
theorem dX9_links_35 : decode cX9_links 35 = .ok (.invokevirtual 180, 3) := by decide +kernel
theorem dX9_links_38 : decode cX9_links 38 = .ok (.goto 4, 3) := by decide +kernel
theorem dX9_links_41 : decode cX9_links 41 = .ok (.iconst (-1), 1) := by decide +kernel
theorem dX9_links_42 : decode cX9_links 42 = .ok (.ireturn, 1) := by decide +kernel
theorem dX9_undo_0 : decode cX9_undo 0 = .ok (.aload_n 0, 1) := by decide +kernel
theorem dX9_undo_1 : decode cX9_undo 1 = .ok (.iconst 0, 1) := by decide +kernel
theorem dX9_undo_2 : decode cX9_undo 2 = .ok (.putfield 63, 3) := by decide +kernel
theorem dX9_undo_5 : decode cX9_undo 5 = .ok (.aload_n 0, 1) := by decide +kernel
theorem dX9_undo_6 : decode cX9_undo 6 = .ok (.getfield 105, 3) := by decide +kernel
theorem dX9_undo_9 : decode cX9_undo 9 = .ok (.ifCond .ne 6, 3) := by decide +kernel
theorem dX9_undo_12 : decode cX9_undo 12 = .ok (.bipush (-2), 2) := by decide +kernel
theorem dX9_undo_14 : decode cX9_undo 14 = .ok (.ireturn, 1) := by decide +kernel
theorem dX9_undo_15 : decode cX9_undo 15 = .ok (.aload_n 0, 1) := by decide +kernel
theorem dX9_undo_16 : decode cX9_undo 16 = .ok (.dup, 1) := by decide +kernel
theorem dX9_undo_17 : decode cX9_undo 17 = .ok (.getfield 105, 3) := by decide +kernel
theorem dX9_undo_20 : decode cX9_undo 20 = .ok (.iconst 1, 1) := by decide +kernel
theorem dX9_undo_21 : decode cX9_undo 21 = .ok (.isub, 1) := by decide +kernel
theorem dX9_undo_22 : decode cX9_undo 22 = .ok (.putfield 105, 3) := by decide +kernel
theorem dX9_undo_25 : decode cX9_undo 25 = .ok (.iconst 0, 1) := by decide +kernel
theorem dX9_undo_26 : decode cX9_undo 26 = .ok (.istore_n 1, 1) := by decide +kernel
theorem dX9_undo_27 : decode cX9_undo 27 = .ok (.iload_n 1, 1) := by decide +kernel
theorem dX9_undo_28 : decode cX9_undo 28 = .ok (.bipush 74, 2) := by decide +kernel
theorem dX9_undo_30 : decode cX9_undo 30 = .ok (.if_icmp .ge 29, 3) := by decide +kernel
theorem dX9_undo_33 : decode cX9_undo 33 = .ok (.aload_n 0, 1) := by decide +kernel
theorem dX9_undo_34 : decode cX9_undo 34 = .ok (.getfield 7, 3) := by decide +kernel
theorem dX9_undo_37 : decode cX9_undo 37 = .ok (.iload_n 1, 1) := by decide +kernel
theorem dX9_undo_38 : decode cX9_undo 38 = .ok (.aload_n 0, 1) := by decide +kernel
theorem dX9_undo_39 : decode cX9_undo 39 = .ok (.getfield 16, 3) := by decide +kernel
theorem dX9_undo_42 : decode cX9_undo 42 = .ok (.bipush 74, 2) := by decide +kernel
theorem dX9_undo_44 : decode cX9_undo 44 = .ok (.aload_n 0, 1) := by decide +kernel
theorem dX9_undo_45 : decode cX9_undo 45 = .ok (.getfield 105, 3) := by decide +kernel
theorem dX9_undo_48 : decode cX9_undo 48 = .ok (.imul, 1) := by decide +kernel
theorem dX9_undo_49 : decode cX9_undo 49 = .ok (.iload_n 1, 1) := by decide +kernel
theorem dX9_undo_50 : decode cX9_undo 50 = .ok (.iadd, 1) := by decide +kernel
theorem dX9_undo_51 : decode cX9_undo 51 = .ok (.iaload, 1) := by decide +kernel
theorem dX9_undo_52 : decode cX9_undo 52 = .ok (.iastore, 1) := by decide +kernel
theorem dX9_undo_53 : decode cX9_undo 53 = .ok (.iinc 1 1, 3) := by decide +kernel
theorem dX9_undo_56 : decode cX9_undo 56 = .ok (.goto (-29), 3) := by decide +kernel
theorem dX9_undo_59 : decode cX9_undo 59 = .ok (.aload_n 0, 1) := by decide +kernel
theorem dX9_undo_60 : decode cX9_undo 60 = .ok (.getfield 105, 3) := by decide +kernel
theorem dX9_undo_63 : decode cX9_undo 63 = .ok (.ireturn, 1) := by decide +kernel
theorem dX9_sees_0 : decode cX9_sees 0 = .ok (.aload_n 0, 1) := by decide +kernel
theorem dX9_sees_1 : decode cX9_sees 1 = .ok (.iconst 0, 1) := by decide +kernel
theorem dX9_sees_2 : decode cX9_sees 2 = .ok (.putfield 63, 3) := by decide +kernel
theorem dX9_sees_5 : decode cX9_sees 5 = .ok (.aload_n 0, 1) := by decide +kernel
theorem dX9_sees_6 : decode cX9_sees 6 = .ok (.iload_n 1, 1) := by decide +kernel
theorem dX9_sees_7 : decode cX9_sees 7 = .ok (.invokevirtual 70, 3) := by decide +kernel
theorem dX9_sees_10 : decode cX9_sees 10 = .ok (.ifCond .eq 20, 3) := by decide +kernel
theorem dX9_sees_13 : decode cX9_sees 13 = .ok (.aload_n 0, 1) := by decide +kernel
theorem dX9_sees_14 : decode cX9_sees 14 = .ok (.iload_n 2, 1) := by decide +kernel
theorem dX9_sees_15 : decode cX9_sees 15 = .ok (.invokevirtual 70, 3) := by decide +kernel
theorem dX9_sees_18 : decode cX9_sees 18 = .ok (.ifCond .eq 12, 3) := by decide +kernel
theorem dX9_sees_21 : decode cX9_sees 21 = .ok (.iload_n 3, 1) := by decide +kernel
theorem dX9_sees_22 : decode cX9_sees 22 = .ok (.iconst 0, 1) := by decide +kernel
theorem dX9_sees_23 : decode cX9_sees 23 = .ok (.iconst 4, 1) := by decide +kernel
theorem dX9_sees_24 : decode cX9_sees 24 = .ok (.invokestatic 66, 3) := by decide +kernel
theorem dX9_sees_27 : decode cX9_sees 27 = .ok (.ifCond .ne 5, 3) := by decide +kernel
theorem dX9_sees_30 : decode cX9_sees 30 = .ok (.iconst (-1), 1) := by decide +kernel
theorem dX9_sees_31 : decode cX9_sees 31 = .ok (.ireturn, 1) := by decide +kernel
theorem dX9_sees_32 : decode cX9_sees 32 = .ok (.aload_n 0, 1) := by decide +kernel
theorem dX9_sees_33 : decode cX9_sees 33 = .ok (.getfield 59, 3) := by decide +kernel
theorem dX9_sees_36 : decode cX9_sees 36 = .ok (.bipush 6, 2) := by decide +kernel
theorem dX9_sees_38 : decode cX9_sees 38 = .ok (.if_icmp .ne 6, 3) := by decide +kernel
theorem dX9_sees_41 : decode cX9_sees 41 = .ok (.bipush (-3), 2) := by decide +kernel
theorem dX9_sees_43 : decode cX9_sees 43 = .ok (.ireturn, 1) := by decide +kernel
theorem dX9_sees_44 : decode cX9_sees 44 = .ok (.aload_n 0, 1) := by decide +kernel
theorem dX9_sees_45 : decode cX9_sees 45 = .ok (.getfield 26, 3) := by decide +kernel
theorem dX9_sees_48 : decode cX9_sees 48 = .ok (.aload_n 0, 1) := by decide +kernel
theorem dX9_sees_49 : decode cX9_sees 49 = .ok (.getfield 59, 3) := by decide +kernel
theorem dX9_sees_52 : decode cX9_sees 52 = .ok (.iload_n 1, 1) := by decide +kernel
theorem dX9_sees_53 : decode cX9_sees 53 = .ok (.iastore, 1) := by decide +kernel
theorem dX9_sees_54 : decode cX9_sees 54 = .ok (.aload_n 0, 1) := by decide +kernel
theorem dX9_sees_55 : decode cX9_sees 55 = .ok (.getfield 29, 3) := by decide +kernel
theorem dX9_sees_58 : decode cX9_sees 58 = .ok (.aload_n 0, 1) := by decide +kernel
theorem dX9_sees_59 : decode cX9_sees 59 = .ok (.getfield 59, 3) := by decide +kernel
theorem dX9_sees_62 : decode cX9_sees 62 = .ok (.iload_n 2, 1) := by decide +kernel
theorem dX9_sees_63 : decode cX9_sees 63 = .ok (.iastore, 1) := by decide +kernel
theorem dX9_sees_64 : decode cX9_sees 64 = .ok (.aload_n 0, 1) := by decide +kernel
theorem dX9_sees_65 : decode cX9_sees 65 = .ok (.getfield 32, 3) := by decide +kernel
theorem dX9_sees_68 : decode cX9_sees 68 = .ok (.aload_n 0, 1) := by decide +kernel
theorem dX9_sees_69 : decode cX9_sees 69 = .ok (.getfield 59, 3) := by decide +kernel
theorem dX9_sees_72 : decode cX9_sees 72 = .ok (.iload_n 3, 1) := by decide +kernel
theorem dX9_sees_73 : decode cX9_sees 73 = .ok (.iastore, 1) := by decide +kernel
theorem dX9_sees_74 : decode cX9_sees 74 = .ok (.aload_n 0, 1) := by decide +kernel
theorem dX9_sees_75 : decode cX9_sees 75 = .ok (.dup, 1) := by decide +kernel
theorem dX9_sees_76 : decode cX9_sees 76 = .ok (.getfield 59, 3) := by decide +kernel
theorem dX9_sees_79 : decode cX9_sees 79 = .ok (.iconst 1, 1) := by decide +kernel
theorem dX9_sees_80 : decode cX9_sees 80 = .ok (.iadd, 1) := by decide +kernel
theorem dX9_sees_81 : decode cX9_sees 81 = .ok (.putfield 59, 3) := by decide +kernel
theorem dX9_sees_84 : decode cX9_sees 84 = .ok (.aload_n 0, 1) := by decide +kernel
theorem dX9_sees_85 : decode cX9_sees 85 = .ok (.getfield 59, 3) := by decide +kernel
theorem dX9_sees_88 : decode cX9_sees 88 = .ok (.ireturn, 1) := by decide +kernel
theorem dX9_forget_0 : decode cX9_forget 0 = .ok (.aload_n 0, 1) := by decide +kernel
theorem dX9_forget_1 : decode cX9_forget 1 = .ok (.iconst 0, 1) := by decide +kernel
theorem dX9_forget_2 : decode cX9_forget 2 = .ok (.putfield 63, 3) := by decide +kernel
theorem dX9_forget_5 : decode cX9_forget 5 = .ok (.aload_n 0, 1) := by decide +kernel
theorem dX9_forget_6 : decode cX9_forget 6 = .ok (.getfield 59, 3) := by decide +kernel
theorem dX9_forget_9 : decode cX9_forget 9 = .ok (.istore_n 1, 1) := by decide +kernel
theorem dX9_forget_10 : decode cX9_forget 10 = .ok (.aload_n 0, 1) := by decide +kernel
theorem dX9_forget_11 : decode cX9_forget 11 = .ok (.iconst 0, 1) := by decide +kernel
theorem dX9_forget_12 : decode cX9_forget 12 = .ok (.putfield 59, 3) := by decide +kernel
theorem dX9_forget_15 : decode cX9_forget 15 = .ok (.iload_n 1, 1) := by decide +kernel
theorem dX9_forget_16 : decode cX9_forget 16 = .ok (.ireturn, 1) := by decide +kernel
theorem dX9_unseen_0 : decode cX9_unseen 0 = .ok (.aload_n 0, 1) := by decide +kernel
theorem dX9_unseen_1 : decode cX9_unseen 1 = .ok (.iconst 0, 1) := by decide +kernel
theorem dX9_unseen_2 : decode cX9_unseen 2 = .ok (.putfield 63, 3) := by decide +kernel
theorem dX9_unseen_5 : decode cX9_unseen 5 = .ok (.iconst 0, 1) := by decide +kernel
theorem dX9_unseen_6 : decode cX9_unseen 6 = .ok (.istore_n 1, 1) := by decide +kernel
theorem dX9_unseen_7 : decode cX9_unseen 7 = .ok (.iconst 0, 1) := by decide +kernel
theorem dX9_unseen_8 : decode cX9_unseen 8 = .ok (.istore_n 2, 1) := by decide +kernel
theorem dX9_unseen_9 : decode cX9_unseen 9 = .ok (.iload_n 2, 1) := by decide +kernel
theorem dX9_unseen_10 : decode cX9_unseen 10 = .ok (.aload_n 0, 1) := by decide +kernel
theorem dX9_unseen_11 : decode cX9_unseen 11 = .ok (.getfield 7, 3) := by decide +kernel
theorem dX9_unseen_14 : decode cX9_unseen 14 = .ok (.iconst 1, 1) := by decide +kernel
theorem dX9_unseen_15 : decode cX9_unseen 15 = .ok (.iaload, 1) := by decide +kernel
theorem dX9_unseen_16 : decode cX9_unseen 16 = .ok (.if_icmp .ge 91, 3) := by decide +kernel
theorem dX9_unseen_19 : decode cX9_unseen 19 = .ok (.iconst 1, 1) := by decide +kernel
theorem dX9_unseen_20 : decode cX9_unseen 20 = .ok (.istore_n 3, 1) := by decide +kernel
theorem dX9_unseen_21 : decode cX9_unseen 21 = .ok (.iconst 0, 1) := by decide +kernel
theorem dX9_unseen_22 : decode cX9_unseen 22 = .ok (.istore 4, 2) := by decide +kernel
theorem dX9_unseen_24 : decode cX9_unseen 24 = .ok (.iload 4, 2) := by decide +kernel
theorem dX9_unseen_26 : decode cX9_unseen 26 = .ok (.aload_n 0, 1) := by decide +kernel
theorem dX9_unseen_27 : decode cX9_unseen 27 = .ok (.getfield 59, 3) := by decide +kernel
theorem dX9_unseen_30 : decode cX9_unseen 30 = .ok (.if_icmp .ge 57, 3) := by decide +kernel
theorem dX9_unseen_33 : decode cX9_unseen 33 = .ok (.iload_n 3, 1) := by decide +kernel
theorem dX9_unseen_34 : decode cX9_unseen 34 = .ok (.ifCond .eq 53, 3) := by decide +kernel
theorem dX9_unseen_37 : decode cX9_unseen 37 = .ok (.aload_n 0, 1) := by decide +kernel
theorem dX9_unseen_38 : decode cX9_unseen 38 = .ok (.aload_n 0, 1) := by decide +kernel
theorem dX9_unseen_39 : decode cX9_unseen 39 = .ok (.invokevirtual 151, 3) := by decide +kernel
theorem dX9_unseen_42 : decode cX9_unseen 42 = .ok (.iconst 1, 1) := by decide +kernel
theorem dX9_unseen_43 : decode cX9_unseen 43 = .ok (.iload_n 2, 1) := by decide +kernel
theorem dX9_unseen_44 : decode cX9_unseen 44 = .ok (.ishl, 1) := by decide +kernel
theorem dX9_unseen_45 : decode cX9_unseen 45 = .ok (.iconst (-1), 1) := by decide +kernel
theorem dX9_unseen_46 : decode cX9_unseen 46 = .ok (.ixor, 1) := by decide +kernel
theorem dX9_unseen_47 : decode cX9_unseen 47 = .ok (.iand, 1) := by decide +kernel
theorem dX9_unseen_48 : decode cX9_unseen 48 = .ok (.aload_n 0, 1) := by decide +kernel
theorem dX9_unseen_49 : decode cX9_unseen 49 = .ok (.getfield 26, 3) := by decide +kernel
theorem dX9_unseen_52 : decode cX9_unseen 52 = .ok (.iload 4, 2) := by decide +kernel
theorem dX9_unseen_54 : decode cX9_unseen 54 = .ok (.iaload, 1) := by decide +kernel
theorem dX9_unseen_55 : decode cX9_unseen 55 = .ok (.aload_n 0, 1) := by decide +kernel
theorem dX9_unseen_56 : decode cX9_unseen 56 = .ok (.getfield 29, 3) := by decide +kernel
theorem dX9_unseen_59 : decode cX9_unseen 59 = .ok (.iload 4, 2) := by decide +kernel
theorem dX9_unseen_61 : decode cX9_unseen 61 = .ok (.iaload, 1) := by decide +kernel
theorem dX9_unseen_62 : decode cX9_unseen 62 = .ok (.invokevirtual 157, 3) := by decide +kernel
theorem dX9_unseen_65 : decode cX9_unseen 65 = .ok (.aload_n 0, 1) := by decide +kernel
theorem dX9_unseen_66 : decode cX9_unseen 66 = .ok (.getfield 32, 3) := by decide +kernel
theorem dX9_unseen_69 : decode cX9_unseen 69 = .ok (.iload 4, 2) := by decide +kernel
theorem dX9_unseen_71 : decode cX9_unseen 71 = .ok (.iaload, 1) := by decide +kernel
theorem dX9_unseen_72 : decode cX9_unseen 72 = .ok (.if_icmp .ne 7, 3) := by decide +kernel
theorem dX9_unseen_75 : decode cX9_unseen 75 = .ok (.iconst 1, 1) := by decide +kernel
theorem dX9_unseen_76 : decode cX9_unseen 76 = .ok (.goto 4, 3) := by decide +kernel
theorem dX9_unseen_79 : decode cX9_unseen 79 = .ok (.iconst 0, 1) := by decide +kernel
theorem dX9_unseen_80 : decode cX9_unseen 80 = .ok (.istore_n 3, 1) := by decide +kernel
theorem dX9_unseen_81 : decode cX9_unseen 81 = .ok (.iinc 4 1, 3) := by decide +kernel
theorem dX9_unseen_84 : decode cX9_unseen 84 = .ok (.goto (-60), 3) := by decide +kernel
theorem dX9_unseen_87 : decode cX9_unseen 87 = .ok (.iload_n 1, 1) := by decide +kernel
theorem dX9_unseen_88 : decode cX9_unseen 88 = .ok (.iload_n 3, 1) := by decide +kernel
theorem dX9_unseen_89 : decode cX9_unseen 89 = .ok (.ifCond .eq 9, 3) := by decide +kernel
theorem dX9_unseen_92 : decode cX9_unseen 92 = .ok (.iconst 1, 1) := by decide +kernel
theorem dX9_unseen_93 : decode cX9_unseen 93 = .ok (.iload_n 2, 1) := by decide +kernel
theorem dX9_unseen_94 : decode cX9_unseen 94 = .ok (.ishl, 1) := by decide +kernel
theorem dX9_unseen_95 : decode cX9_unseen 95 = .ok (.goto 4, 3) := by decide +kernel
theorem dX9_unseen_98 : decode cX9_unseen 98 = .ok (.iconst 0, 1) := by decide +kernel
theorem dX9_unseen_99 : decode cX9_unseen 99 = .ok (.ior, 1) := by decide +kernel
theorem dX9_unseen_100 : decode cX9_unseen 100 = .ok (.istore_n 1, 1) := by decide +kernel
theorem dX9_unseen_101 : decode cX9_unseen 101 = .ok (.iinc 2 1, 3) := by decide +kernel
theorem dX9_unseen_104 : decode cX9_unseen 104 = .ok (.goto (-95), 3) := by decide +kernel
theorem dX9_unseen_107 : decode cX9_unseen 107 = .ok (.iload_n 1, 1) := by decide +kernel
theorem dX9_unseen_108 : decode cX9_unseen 108 = .ok (.ireturn, 1) := by decide +kernel
theorem dX9_keep_0 : decode cX9_keep 0 = .ok (.aload_n 0, 1) := by decide +kernel
theorem dX9_keep_1 : decode cX9_keep 1 = .ok (.iconst 0, 1) := by decide +kernel
theorem dX9_keep_2 : decode cX9_keep 2 = .ok (.putfield 63, 3) := by decide +kernel
theorem dX9_keep_5 : decode cX9_keep 5 = .ok (.iload_n 1, 1) := by decide +kernel
theorem dX9_keep_6 : decode cX9_keep 6 = .ok (.iconst 0, 1) := by decide +kernel
theorem dX9_keep_7 : decode cX9_keep 7 = .ok (.iconst 1, 1) := by decide +kernel
theorem dX9_keep_8 : decode cX9_keep 8 = .ok (.invokestatic 66, 3) := by decide +kernel
theorem dX9_keep_11 : decode cX9_keep 11 = .ok (.ifCond .ne 5, 3) := by decide +kernel
theorem dX9_keep_14 : decode cX9_keep 14 = .ok (.iconst (-1), 1) := by decide +kernel
theorem dX9_keep_15 : decode cX9_keep 15 = .ok (.ireturn, 1) := by decide +kernel
theorem dX9_keep_16 : decode cX9_keep 16 = .ok (.iconst 0, 1) := by decide +kernel
theorem dX9_keep_17 : decode cX9_keep 17 = .ok (.istore_n 2, 1) := by decide +kernel
theorem dX9_keep_18 : decode cX9_keep 18 = .ok (.iload_n 2, 1) := by decide +kernel
theorem dX9_keep_19 : decode cX9_keep 19 = .ok (.bipush 74, 2) := by decide +kernel
theorem dX9_keep_21 : decode cX9_keep 21 = .ok (.if_icmp .ge 26, 3) := by decide +kernel
theorem dX9_keep_24 : decode cX9_keep 24 = .ok (.aload_n 0, 1) := by decide +kernel
theorem dX9_keep_25 : decode cX9_keep 25 = .ok (.getfield 19, 3) := by decide +kernel
theorem dX9_keep_28 : decode cX9_keep 28 = .ok (.bipush 74, 2) := by decide +kernel
theorem dX9_keep_30 : decode cX9_keep 30 = .ok (.iload_n 1, 1) := by decide +kernel
theorem dX9_keep_31 : decode cX9_keep 31 = .ok (.imul, 1) := by decide +kernel
theorem dX9_keep_32 : decode cX9_keep 32 = .ok (.iload_n 2, 1) := by decide +kernel
theorem dX9_keep_33 : decode cX9_keep 33 = .ok (.iadd, 1) := by decide +kernel
theorem dX9_keep_34 : decode cX9_keep 34 = .ok (.aload_n 0, 1) := by decide +kernel
theorem dX9_keep_35 : decode cX9_keep 35 = .ok (.getfield 7, 3) := by decide +kernel
theorem dX9_keep_38 : decode cX9_keep 38 = .ok (.iload_n 2, 1) := by decide +kernel
theorem dX9_keep_39 : decode cX9_keep 39 = .ok (.iaload, 1) := by decide +kernel
theorem dX9_keep_40 : decode cX9_keep 40 = .ok (.iastore, 1) := by decide +kernel
theorem dX9_keep_41 : decode cX9_keep 41 = .ok (.iinc 2 1, 3) := by decide +kernel
theorem dX9_keep_44 : decode cX9_keep 44 = .ok (.goto (-26), 3) := by decide +kernel
theorem dX9_keep_47 : decode cX9_keep 47 = .ok (.aload_n 0, 1) := by decide +kernel
theorem dX9_keep_48 : decode cX9_keep 48 = .ok (.getfield 22, 3) := by decide +kernel
theorem dX9_keep_51 : decode cX9_keep 51 = .ok (.iload_n 1, 1) := by decide +kernel
theorem dX9_keep_52 : decode cX9_keep 52 = .ok (.iconst 1, 1) := by decide +kernel
theorem dX9_keep_53 : decode cX9_keep 53 = .ok (.bastore, 1) := by decide +kernel
theorem dX9_keep_54 : decode cX9_keep 54 = .ok (.aload_n 0, 1) := by decide +kernel
theorem dX9_keep_55 : decode cX9_keep 55 = .ok (.getfield 7, 3) := by decide +kernel
theorem dX9_keep_58 : decode cX9_keep 58 = .ok (.iconst 1, 1) := by decide +kernel
theorem dX9_keep_59 : decode cX9_keep 59 = .ok (.iaload, 1) := by decide +kernel
theorem dX9_keep_60 : decode cX9_keep 60 = .ok (.ireturn, 1) := by decide +kernel
theorem dX9_back_0 : decode cX9_back 0 = .ok (.aload_n 0, 1) := by decide +kernel
theorem dX9_back_1 : decode cX9_back 1 = .ok (.iconst 0, 1) := by decide +kernel
theorem dX9_back_2 : decode cX9_back 2 = .ok (.putfield 63, 3) := by decide +kernel
theorem dX9_back_5 : decode cX9_back 5 = .ok (.iload_n 1, 1) := by decide +kernel
theorem dX9_back_6 : decode cX9_back 6 = .ok (.iconst 0, 1) := by decide +kernel
theorem dX9_back_7 : decode cX9_back 7 = .ok (.iconst 1, 1) := by decide +kernel
theorem dX9_back_8 : decode cX9_back 8 = .ok (.invokestatic 66, 3) := by decide +kernel
theorem dX9_back_11 : decode cX9_back 11 = .ok (.ifCond .ne 5, 3) := by decide +kernel
theorem dX9_back_14 : decode cX9_back 14 = .ok (.iconst (-1), 1) := by decide +kernel
theorem dX9_back_15 : decode cX9_back 15 = .ok (.ireturn, 1) := by decide +kernel
theorem dX9_back_16 : decode cX9_back 16 = .ok (.aload_n 0, 1) := by decide +kernel
theorem dX9_back_17 : decode cX9_back 17 = .ok (.getfield 22, 3) := by decide +kernel
theorem dX9_back_20 : decode cX9_back 20 = .ok (.iload_n 1, 1) := by decide +kernel
theorem dX9_back_21 : decode cX9_back 21 = .ok (.baload, 1) := by decide +kernel
theorem dX9_back_22 : decode cX9_back 22 = .ok (.ifCond .ne 6, 3) := by decide +kernel
theorem dX9_back_25 : decode cX9_back 25 = .ok (.bipush (-2), 2) := by decide +kernel
theorem dX9_back_27 : decode cX9_back 27 = .ok (.ireturn, 1) := by decide +kernel
theorem dX9_back_28 : decode cX9_back 28 = .ok (.iconst 0, 1) := by decide +kernel
theorem dX9_back_29 : decode cX9_back 29 = .ok (.istore_n 2, 1) := by decide +kernel
theorem dX9_back_30 : decode cX9_back 30 = .ok (.iload_n 2, 1) := by decide +kernel
theorem dX9_back_31 : decode cX9_back 31 = .ok (.bipush 74, 2) := by decide +kernel
theorem dX9_back_33 : decode cX9_back 33 = .ok (.if_icmp .ge 26, 3) := by decide +kernel
theorem dX9_back_36 : decode cX9_back 36 = .ok (.aload_n 0, 1) := by decide +kernel
theorem dX9_back_37 : decode cX9_back 37 = .ok (.getfield 7, 3) := by decide +kernel
theorem dX9_back_40 : decode cX9_back 40 = .ok (.iload_n 2, 1) := by decide +kernel
theorem dX9_back_41 : decode cX9_back 41 = .ok (.aload_n 0, 1) := by decide +kernel
theorem dX9_back_42 : decode cX9_back 42 = .ok (.getfield 19, 3) := by decide +kernel
theorem dX9_back_45 : decode cX9_back 45 = .ok (.bipush 74, 2) := by decide +kernel
theorem dX9_back_47 : decode cX9_back 47 = .ok (.iload_n 1, 1) := by decide +kernel
theorem dX9_back_48 : decode cX9_back 48 = .ok (.imul, 1) := by decide +kernel
theorem dX9_back_49 : decode cX9_back 49 = .ok (.iload_n 2, 1) := by decide +kernel
theorem dX9_back_50 : decode cX9_back 50 = .ok (.iadd, 1) := by decide +kernel
theorem dX9_back_51 : decode cX9_back 51 = .ok (.iaload, 1) := by decide +kernel
theorem dX9_back_52 : decode cX9_back 52 = .ok (.iastore, 1) := by decide +kernel
theorem dX9_back_53 : decode cX9_back 53 = .ok (.iinc 2 1, 3) := by decide +kernel
theorem dX9_back_56 : decode cX9_back 56 = .ok (.goto (-26), 3) := by decide +kernel
theorem dX9_back_59 : decode cX9_back 59 = .ok (.aload_n 0, 1) := by decide +kernel
theorem dX9_back_60 : decode cX9_back 60 = .ok (.iconst 0, 1) := by decide +kernel
theorem dX9_back_61 : decode cX9_back 61 = .ok (.putfield 105, 3) := by decide +kernel
theorem dX9_back_64 : decode cX9_back 64 = .ok (.aload_n 0, 1) := by decide +kernel
theorem dX9_back_65 : decode cX9_back 65 = .ok (.getfield 7, 3) := by decide +kernel
theorem dX9_back_68 : decode cX9_back 68 = .ok (.iconst 1, 1) := by decide +kernel
theorem dX9_back_69 : decode cX9_back 69 = .ok (.iaload, 1) := by decide +kernel
theorem dX9_back_70 : decode cX9_back 70 = .ok (.ireturn, 1) := by decide +kernel
theorem dX9_count_0 : decode cX9_count 0 = .ok (.aload_n 0, 1) := by decide +kernel
theorem dX9_count_1 : decode cX9_count 1 = .ok (.iconst 0, 1) := by decide +kernel
theorem dX9_count_2 : decode cX9_count 2 = .ok (.putfield 63, 3) := by decide +kernel
theorem dX9_count_5 : decode cX9_count 5 = .ok (.iload_n 1, 1) := by decide +kernel
theorem dX9_count_6 : decode cX9_count 6 = .ok (.tableswitch 72 0 5 #[38, 45, 50, 57, 62, 67], 38) := by decide +kernel
theorem dX9_count_44 : decode cX9_count 44 = .ok (.aload_n 0, 1) := by decide +kernel
theorem dX9_count_45 : decode cX9_count 45 = .ok (.getfield 7, 3) := by decide +kernel
theorem dX9_count_48 : decode cX9_count 48 = .ok (.iconst 0, 1) := by decide +kernel
theorem dX9_count_49 : decode cX9_count 49 = .ok (.iaload, 1) := by decide +kernel
theorem dX9_count_50 : decode cX9_count 50 = .ok (.ireturn, 1) := by decide +kernel
theorem dX9_count_51 : decode cX9_count 51 = .ok (.aload_n 0, 1) := by decide +kernel
theorem dX9_count_52 : decode cX9_count 52 = .ok (.invokevirtual 174, 3) := by decide +kernel
theorem dX9_count_55 : decode cX9_count 55 = .ok (.ireturn, 1) := by decide +kernel
theorem dX9_count_56 : decode cX9_count 56 = .ok (.aload_n 0, 1) := by decide +kernel
theorem dX9_count_57 : decode cX9_count 57 = .ok (.getfield 7, 3) := by decide +kernel
theorem dX9_count_60 : decode cX9_count 60 = .ok (.iconst 1, 1) := by decide +kernel
theorem dX9_count_61 : decode cX9_count 61 = .ok (.iaload, 1) := by decide +kernel
theorem dX9_count_62 : decode cX9_count 62 = .ok (.ireturn, 1) := by decide +kernel
theorem dX9_count_63 : decode cX9_count 63 = .ok (.aload_n 0, 1) := by decide +kernel
theorem dX9_count_64 : decode cX9_count 64 = .ok (.getfield 59, 3) := by decide +kernel
theorem dX9_count_67 : decode cX9_count 67 = .ok (.ireturn, 1) := by decide +kernel
theorem dX9_count_68 : decode cX9_count 68 = .ok (.aload_n 0, 1) := by decide +kernel
theorem dX9_count_69 : decode cX9_count 69 = .ok (.getfield 74, 3) := by decide +kernel
theorem dX9_count_72 : decode cX9_count 72 = .ok (.ireturn, 1) := by decide +kernel
theorem dX9_count_73 : decode cX9_count 73 = .ok (.aload_n 0, 1) := by decide +kernel
theorem dX9_count_74 : decode cX9_count 74 = .ok (.getfield 105, 3) := by decide +kernel
theorem dX9_count_77 : decode cX9_count 77 = .ok (.ireturn, 1) := by decide +kernel
theorem dX9_count_78 : decode cX9_count 78 = .ok (.iconst (-1), 1) := by decide +kernel
theorem dX9_count_79 : decode cX9_count 79 = .ok (.ireturn, 1) := by decide +kernel
end
section
theorem dL_law_0 : decode cL_law 0 = .ok (.new 7, 3) := by decide +kernel
theorem dL_law_3 : decode cL_law 3 = .ok (.dup, 1) := by decide +kernel
theorem dL_law_4 : decode cL_law 4 = .ok (.invokespecial 9, 3) := by decide +kernel
theorem dL_law_7 : decode cL_law 7 = .ok (.astore_n 1, 1) := by decide +kernel
theorem dL_law_8 : decode cL_law 8 = .ok (.new 10, 3) := by decide +kernel
theorem dL_law_11 : decode cL_law 11 = .ok (.dup, 1) := by decide +kernel
theorem dL_law_12 : decode cL_law 12 = .ok (.invokespecial 12, 3) := by decide +kernel
theorem dL_law_15 : decode cL_law 15 = .ok (.astore_n 2, 1) := by decide +kernel
theorem dL_law_16 : decode cL_law 16 = .ok (.iconst 0, 1) := by decide +kernel
theorem dL_law_17 : decode cL_law 17 = .ok (.istore_n 3, 1) := by decide +kernel
theorem dL_law_18 : decode cL_law 18 = .ok (.iload_n 3, 1) := by decide +kernel
theorem dL_law_19 : decode cL_law 19 = .ok (.aload_n 0, 1) := by decide +kernel
theorem dL_law_20 : decode cL_law 20 = .ok (.arraylength, 1) := by decide +kernel
theorem dL_law_21 : decode cL_law 21 = .ok (.iconst 4, 1) := by decide +kernel
theorem dL_law_22 : decode cL_law 22 = .ok (.isub, 1) := by decide +kernel
theorem dL_law_23 : decode cL_law 23 = .ok (.if_icmp .gt 739, 3) := by decide +kernel
theorem dL_law_26 : decode cL_law 26 = .ok (.aload_n 0, 1) := by decide +kernel
theorem dL_law_27 : decode cL_law 27 = .ok (.iload_n 3, 1) := by decide +kernel
theorem dL_law_28 : decode cL_law 28 = .ok (.iaload, 1) := by decide +kernel
theorem dL_law_29 : decode cL_law 29 = .ok (.bipush 31, 2) := by decide +kernel
theorem dL_law_31 : decode cL_law 31 = .ok (.iand, 1) := by decide +kernel
theorem dL_law_32 : decode cL_law 32 = .ok (.tableswitch 724 0 23 #[112, 135, 148, 161, 194, 227, 270, 293, 326, 359, 372, 385, 408, 441, 464, 507, 520, 563, 586, 629, 642, 655, 678, 701], 112) := by decide +kernel
theorem dL_law_144 : decode cL_law 144 = .ok (.aload_n 1, 1) := by decide +kernel
theorem dL_law_145 : decode cL_law 145 = .ok (.aload_n 0, 1) := by decide +kernel
theorem dL_law_146 : decode cL_law 146 = .ok (.iload_n 3, 1) := by decide +kernel
theorem dL_law_147 : decode cL_law 147 = .ok (.iconst 1, 1) := by decide +kernel
theorem dL_law_148 : decode cL_law 148 = .ok (.iadd, 1) := by decide +kernel
theorem dL_law_149 : decode cL_law 149 = .ok (.iaload, 1) := by decide +kernel
theorem dL_law_150 : decode cL_law 150 = .ok (.invokevirtual 13, 3) := by decide +kernel
theorem dL_law_153 : decode cL_law 153 = .ok (.aload_n 2, 1) := by decide +kernel
theorem dL_law_154 : decode cL_law 154 = .ok (.aload_n 0, 1) := by decide +kernel
theorem dL_law_155 : decode cL_law 155 = .ok (.iload_n 3, 1) := by decide +kernel
theorem dL_law_156 : decode cL_law 156 = .ok (.iconst 1, 1) := by decide +kernel
theorem dL_law_157 : decode cL_law 157 = .ok (.iadd, 1) := by decide +kernel
theorem dL_law_158 : decode cL_law 158 = .ok (.iaload, 1) := by decide +kernel
theorem dL_law_159 : decode cL_law 159 = .ok (.invokevirtual 17, 3) := by decide +kernel
theorem dL_law_162 : decode cL_law 162 = .ok (.if_icmp .eq 594, 3) := by decide +kernel
theorem dL_law_165 : decode cL_law 165 = .ok (.iconst 0, 1) := by decide +kernel
theorem dL_law_166 : decode cL_law 166 = .ok (.ireturn, 1) := by decide +kernel
theorem dL_law_167 : decode cL_law 167 = .ok (.aload_n 1, 1) := by decide +kernel
theorem dL_law_168 : decode cL_law 168 = .ok (.invokevirtual 18, 3) := by decide +kernel
theorem dL_law_171 : decode cL_law 171 = .ok (.aload_n 2, 1) := by decide +kernel
theorem dL_law_172 : decode cL_law 172 = .ok (.invokevirtual 22, 3) := by decide +kernel
theorem dL_law_175 : decode cL_law 175 = .ok (.if_icmp .eq 581, 3) := by decide +kernel
theorem dL_law_178 : decode cL_law 178 = .ok (.iconst 0, 1) := by decide +kernel
theorem dL_law_179 : decode cL_law 179 = .ok (.ireturn, 1) := by decide +kernel
theorem dL_law_180 : decode cL_law 180 = .ok (.aload_n 1, 1) := by decide +kernel
theorem dL_law_181 : decode cL_law 181 = .ok (.invokevirtual 23, 3) := by decide +kernel
theorem dL_law_184 : decode cL_law 184 = .ok (.aload_n 2, 1) := by decide +kernel
theorem dL_law_185 : decode cL_law 185 = .ok (.invokevirtual 26, 3) := by decide +kernel
theorem dL_law_188 : decode cL_law 188 = .ok (.if_icmp .eq 568, 3) := by decide +kernel
theorem dL_law_191 : decode cL_law 191 = .ok (.iconst 0, 1) := by decide +kernel
theorem dL_law_192 : decode cL_law 192 = .ok (.ireturn, 1) := by decide +kernel
theorem dL_law_193 : decode cL_law 193 = .ok (.aload_n 1, 1) := by decide +kernel
theorem dL_law_194 : decode cL_law 194 = .ok (.aload_n 0, 1) := by decide +kernel
theorem dL_law_195 : decode cL_law 195 = .ok (.iload_n 3, 1) := by decide +kernel
theorem dL_law_196 : decode cL_law 196 = .ok (.iconst 1, 1) := by decide +kernel
theorem dL_law_197 : decode cL_law 197 = .ok (.iadd, 1) := by decide +kernel
theorem dL_law_198 : decode cL_law 198 = .ok (.iaload, 1) := by decide +kernel
theorem dL_law_199 : decode cL_law 199 = .ok (.aload_n 0, 1) := by decide +kernel
theorem dL_law_200 : decode cL_law 200 = .ok (.iload_n 3, 1) := by decide +kernel
theorem dL_law_201 : decode cL_law 201 = .ok (.iconst 2, 1) := by decide +kernel
theorem dL_law_202 : decode cL_law 202 = .ok (.iadd, 1) := by decide +kernel
theorem dL_law_203 : decode cL_law 203 = .ok (.iaload, 1) := by decide +kernel
theorem dL_law_204 : decode cL_law 204 = .ok (.invokevirtual 27, 3) := by decide +kernel
theorem dL_law_207 : decode cL_law 207 = .ok (.aload_n 2, 1) := by decide +kernel
theorem dL_law_208 : decode cL_law 208 = .ok (.aload_n 0, 1) := by decide +kernel
theorem dL_law_209 : decode cL_law 209 = .ok (.iload_n 3, 1) := by decide +kernel
theorem dL_law_210 : decode cL_law 210 = .ok (.iconst 1, 1) := by decide +kernel
theorem dL_law_211 : decode cL_law 211 = .ok (.iadd, 1) := by decide +kernel
theorem dL_law_212 : decode cL_law 212 = .ok (.iaload, 1) := by decide +kernel
theorem dL_law_213 : decode cL_law 213 = .ok (.aload_n 0, 1) := by decide +kernel
theorem dL_law_214 : decode cL_law 214 = .ok (.iload_n 3, 1) := by decide +kernel
theorem dL_law_215 : decode cL_law 215 = .ok (.iconst 2, 1) := by decide +kernel
theorem dL_law_216 : decode cL_law 216 = .ok (.iadd, 1) := by decide +kernel
theorem dL_law_217 : decode cL_law 217 = .ok (.iaload, 1) := by decide +kernel
theorem dL_law_218 : decode cL_law 218 = .ok (.invokevirtual 31, 3) := by decide +kernel
theorem dL_law_221 : decode cL_law 221 = .ok (.if_icmp .eq 535, 3) := by decide +kernel
theorem dL_law_224 : decode cL_law 224 = .ok (.iconst 0, 1) := by decide +kernel
theorem dL_law_225 : decode cL_law 225 = .ok (.ireturn, 1) := by decide +kernel
theorem dL_law_226 : decode cL_law 226 = .ok (.aload_n 1, 1) := by decide +kernel
theorem dL_law_227 : decode cL_law 227 = .ok (.aload_n 0, 1) := by decide +kernel
theorem dL_law_228 : decode cL_law 228 = .ok (.iload_n 3, 1) := by decide +kernel
theorem dL_law_229 : decode cL_law 229 = .ok (.iconst 1, 1) := by decide +kernel
theorem dL_law_230 : decode cL_law 230 = .ok (.iadd, 1) := by decide +kernel
theorem dL_law_231 : decode cL_law 231 = .ok (.iaload, 1) := by decide +kernel
theorem dL_law_232 : decode cL_law 232 = .ok (.aload_n 0, 1) := by decide +kernel
theorem dL_law_233 : decode cL_law 233 = .ok (.iload_n 3, 1) := by decide +kernel
theorem dL_law_234 : decode cL_law 234 = .ok (.iconst 2, 1) := by decide +kernel
theorem dL_law_235 : decode cL_law 235 = .ok (.iadd, 1) := by decide +kernel
theorem dL_law_236 : decode cL_law 236 = .ok (.iaload, 1) := by decide +kernel
theorem dL_law_237 : decode cL_law 237 = .ok (.invokevirtual 32, 3) := by decide +kernel
theorem dL_law_240 : decode cL_law 240 = .ok (.aload_n 2, 1) := by decide +kernel
theorem dL_law_241 : decode cL_law 241 = .ok (.aload_n 0, 1) := by decide +kernel
theorem dL_law_242 : decode cL_law 242 = .ok (.iload_n 3, 1) := by decide +kernel
theorem dL_law_243 : decode cL_law 243 = .ok (.iconst 1, 1) := by decide +kernel
theorem dL_law_244 : decode cL_law 244 = .ok (.iadd, 1) := by decide +kernel
theorem dL_law_245 : decode cL_law 245 = .ok (.iaload, 1) := by decide +kernel
theorem dL_law_246 : decode cL_law 246 = .ok (.aload_n 0, 1) := by decide +kernel
theorem dL_law_247 : decode cL_law 247 = .ok (.iload_n 3, 1) := by decide +kernel
theorem dL_law_248 : decode cL_law 248 = .ok (.iconst 2, 1) := by decide +kernel
theorem dL_law_249 : decode cL_law 249 = .ok (.iadd, 1) := by decide +kernel
theorem dL_law_250 : decode cL_law 250 = .ok (.iaload, 1) := by decide +kernel
theorem dL_law_251 : decode cL_law 251 = .ok (.invokevirtual 35, 3) := by decide +kernel
theorem dL_law_254 : decode cL_law 254 = .ok (.if_icmp .eq 502, 3) := by decide +kernel
theorem dL_law_257 : decode cL_law 257 = .ok (.iconst 0, 1) := by decide +kernel
theorem dL_law_258 : decode cL_law 258 = .ok (.ireturn, 1) := by decide +kernel
theorem dL_law_259 : decode cL_law 259 = .ok (.aload_n 1, 1) := by decide +kernel
theorem dL_law_260 : decode cL_law 260 = .ok (.aload_n 0, 1) := by decide +kernel
theorem dL_law_261 : decode cL_law 261 = .ok (.iload_n 3, 1) := by decide +kernel
theorem dL_law_262 : decode cL_law 262 = .ok (.iconst 1, 1) := by decide +kernel
theorem dL_law_263 : decode cL_law 263 = .ok (.iadd, 1) := by decide +kernel
theorem dL_law_264 : decode cL_law 264 = .ok (.iaload, 1) := by decide +kernel
theorem dL_law_265 : decode cL_law 265 = .ok (.aload_n 0, 1) := by decide +kernel
theorem dL_law_266 : decode cL_law 266 = .ok (.iload_n 3, 1) := by decide +kernel
theorem dL_law_267 : decode cL_law 267 = .ok (.iconst 2, 1) := by decide +kernel
theorem dL_law_268 : decode cL_law 268 = .ok (.iadd, 1) := by decide +kernel
theorem dL_law_269 : decode cL_law 269 = .ok (.iaload, 1) := by decide +kernel
theorem dL_law_270 : decode cL_law 270 = .ok (.aload_n 0, 1) := by decide +kernel
theorem dL_law_271 : decode cL_law 271 = .ok (.iload_n 3, 1) := by decide +kernel
theorem dL_law_272 : decode cL_law 272 = .ok (.iconst 3, 1) := by decide +kernel
theorem dL_law_273 : decode cL_law 273 = .ok (.iadd, 1) := by decide +kernel
theorem dL_law_274 : decode cL_law 274 = .ok (.iaload, 1) := by decide +kernel
theorem dL_law_275 : decode cL_law 275 = .ok (.invokevirtual 36, 3) := by decide +kernel
theorem dL_law_278 : decode cL_law 278 = .ok (.aload_n 2, 1) := by decide +kernel
theorem dL_law_279 : decode cL_law 279 = .ok (.aload_n 0, 1) := by decide +kernel
theorem dL_law_280 : decode cL_law 280 = .ok (.iload_n 3, 1) := by decide +kernel
theorem dL_law_281 : decode cL_law 281 = .ok (.iconst 1, 1) := by decide +kernel
theorem dL_law_282 : decode cL_law 282 = .ok (.iadd, 1) := by decide +kernel
theorem dL_law_283 : decode cL_law 283 = .ok (.iaload, 1) := by decide +kernel
theorem dL_law_284 : decode cL_law 284 = .ok (.aload_n 0, 1) := by decide +kernel
theorem dL_law_285 : decode cL_law 285 = .ok (.iload_n 3, 1) := by decide +kernel
theorem dL_law_286 : decode cL_law 286 = .ok (.iconst 2, 1) := by decide +kernel
theorem dL_law_287 : decode cL_law 287 = .ok (.iadd, 1) := by decide +kernel
theorem dL_law_288 : decode cL_law 288 = .ok (.iaload, 1) := by decide +kernel
theorem dL_law_289 : decode cL_law 289 = .ok (.aload_n 0, 1) := by decide +kernel
theorem dL_law_290 : decode cL_law 290 = .ok (.iload_n 3, 1) := by decide +kernel
theorem dL_law_291 : decode cL_law 291 = .ok (.iconst 3, 1) := by decide +kernel
theorem dL_law_292 : decode cL_law 292 = .ok (.iadd, 1) := by decide +kernel
theorem dL_law_293 : decode cL_law 293 = .ok (.iaload, 1) := by decide +kernel
theorem dL_law_294 : decode cL_law 294 = .ok (.invokevirtual 40, 3) := by decide +kernel
theorem dL_law_297 : decode cL_law 297 = .ok (.if_icmp .eq 459, 3) := by decide +kernel
theorem dL_law_300 : decode cL_law 300 = .ok (.iconst 0, 1) := by decide +kernel
theorem dL_law_301 : decode cL_law 301 = .ok (.ireturn, 1) := by decide +kernel
theorem dL_law_302 : decode cL_law 302 = .ok (.aload_n 1, 1) := by decide +kernel
theorem dL_law_303 : decode cL_law 303 = .ok (.aload_n 0, 1) := by decide +kernel
theorem dL_law_304 : decode cL_law 304 = .ok (.iload_n 3, 1) := by decide +kernel
theorem dL_law_305 : decode cL_law 305 = .ok (.iconst 1, 1) := by decide +kernel
theorem dL_law_306 : decode cL_law 306 = .ok (.iadd, 1) := by decide +kernel
theorem dL_law_307 : decode cL_law 307 = .ok (.iaload, 1) := by decide +kernel
theorem dL_law_308 : decode cL_law 308 = .ok (.invokevirtual 41, 3) := by decide +kernel
theorem dL_law_311 : decode cL_law 311 = .ok (.aload_n 2, 1) := by decide +kernel
theorem dL_law_312 : decode cL_law 312 = .ok (.aload_n 0, 1) := by decide +kernel
theorem dL_law_313 : decode cL_law 313 = .ok (.iload_n 3, 1) := by decide +kernel
theorem dL_law_314 : decode cL_law 314 = .ok (.iconst 1, 1) := by decide +kernel
theorem dL_law_315 : decode cL_law 315 = .ok (.iadd, 1) := by decide +kernel
theorem dL_law_316 : decode cL_law 316 = .ok (.iaload, 1) := by decide +kernel
theorem dL_law_317 : decode cL_law 317 = .ok (.invokevirtual 44, 3) := by decide +kernel
theorem dL_law_320 : decode cL_law 320 = .ok (.if_icmp .eq 436, 3) := by decide +kernel
theorem dL_law_323 : decode cL_law 323 = .ok (.iconst 0, 1) := by decide +kernel
theorem dL_law_324 : decode cL_law 324 = .ok (.ireturn, 1) := by decide +kernel
theorem dL_law_325 : decode cL_law 325 = .ok (.aload_n 1, 1) := by decide +kernel
theorem dL_law_326 : decode cL_law 326 = .ok (.aload_n 0, 1) := by decide +kernel
theorem dL_law_327 : decode cL_law 327 = .ok (.iload_n 3, 1) := by decide +kernel
theorem dL_law_328 : decode cL_law 328 = .ok (.iconst 1, 1) := by decide +kernel
theorem dL_law_329 : decode cL_law 329 = .ok (.iadd, 1) := by decide +kernel
theorem dL_law_330 : decode cL_law 330 = .ok (.iaload, 1) := by decide +kernel
theorem dL_law_331 : decode cL_law 331 = .ok (.aload_n 0, 1) := by decide +kernel
theorem dL_law_332 : decode cL_law 332 = .ok (.iload_n 3, 1) := by decide +kernel
theorem dL_law_333 : decode cL_law 333 = .ok (.iconst 2, 1) := by decide +kernel
theorem dL_law_334 : decode cL_law 334 = .ok (.iadd, 1) := by decide +kernel
theorem dL_law_335 : decode cL_law 335 = .ok (.iaload, 1) := by decide +kernel
theorem dL_law_336 : decode cL_law 336 = .ok (.invokevirtual 45, 3) := by decide +kernel
theorem dL_law_339 : decode cL_law 339 = .ok (.aload_n 2, 1) := by decide +kernel
theorem dL_law_340 : decode cL_law 340 = .ok (.aload_n 0, 1) := by decide +kernel
theorem dL_law_341 : decode cL_law 341 = .ok (.iload_n 3, 1) := by decide +kernel
theorem dL_law_342 : decode cL_law 342 = .ok (.iconst 1, 1) := by decide +kernel
theorem dL_law_343 : decode cL_law 343 = .ok (.iadd, 1) := by decide +kernel
theorem dL_law_344 : decode cL_law 344 = .ok (.iaload, 1) := by decide +kernel
theorem dL_law_345 : decode cL_law 345 = .ok (.aload_n 0, 1) := by decide +kernel
theorem dL_law_346 : decode cL_law 346 = .ok (.iload_n 3, 1) := by decide +kernel
theorem dL_law_347 : decode cL_law 347 = .ok (.iconst 2, 1) := by decide +kernel
theorem dL_law_348 : decode cL_law 348 = .ok (.iadd, 1) := by decide +kernel
theorem dL_law_349 : decode cL_law 349 = .ok (.iaload, 1) := by decide +kernel
theorem dL_law_350 : decode cL_law 350 = .ok (.invokevirtual 48, 3) := by decide +kernel
theorem dL_law_353 : decode cL_law 353 = .ok (.if_icmp .eq 403, 3) := by decide +kernel
theorem dL_law_356 : decode cL_law 356 = .ok (.iconst 0, 1) := by decide +kernel
theorem dL_law_357 : decode cL_law 357 = .ok (.ireturn, 1) := by decide +kernel
theorem dL_law_358 : decode cL_law 358 = .ok (.aload_n 1, 1) := by decide +kernel
theorem dL_law_359 : decode cL_law 359 = .ok (.aload_n 0, 1) := by decide +kernel
theorem dL_law_360 : decode cL_law 360 = .ok (.iload_n 3, 1) := by decide +kernel
theorem dL_law_361 : decode cL_law 361 = .ok (.iconst 1, 1) := by decide +kernel
theorem dL_law_362 : decode cL_law 362 = .ok (.iadd, 1) := by decide +kernel
theorem dL_law_363 : decode cL_law 363 = .ok (.iaload, 1) := by decide +kernel
theorem dL_law_364 : decode cL_law 364 = .ok (.aload_n 0, 1) := by decide +kernel
theorem dL_law_365 : decode cL_law 365 = .ok (.iload_n 3, 1) := by decide +kernel
theorem dL_law_366 : decode cL_law 366 = .ok (.iconst 2, 1) := by decide +kernel
theorem dL_law_367 : decode cL_law 367 = .ok (.iadd, 1) := by decide +kernel
theorem dL_law_368 : decode cL_law 368 = .ok (.iaload, 1) := by decide +kernel
theorem dL_law_369 : decode cL_law 369 = .ok (.invokevirtual 49, 3) := by decide +kernel
theorem dL_law_372 : decode cL_law 372 = .ok (.aload_n 2, 1) := by decide +kernel
theorem dL_law_373 : decode cL_law 373 = .ok (.aload_n 0, 1) := by decide +kernel
theorem dL_law_374 : decode cL_law 374 = .ok (.iload_n 3, 1) := by decide +kernel
theorem dL_law_375 : decode cL_law 375 = .ok (.iconst 1, 1) := by decide +kernel
theorem dL_law_376 : decode cL_law 376 = .ok (.iadd, 1) := by decide +kernel
theorem dL_law_377 : decode cL_law 377 = .ok (.iaload, 1) := by decide +kernel
theorem dL_law_378 : decode cL_law 378 = .ok (.aload_n 0, 1) := by decide +kernel
theorem dL_law_379 : decode cL_law 379 = .ok (.iload_n 3, 1) := by decide +kernel
theorem dL_law_380 : decode cL_law 380 = .ok (.iconst 2, 1) := by decide +kernel
theorem dL_law_381 : decode cL_law 381 = .ok (.iadd, 1) := by decide +kernel
theorem dL_law_382 : decode cL_law 382 = .ok (.iaload, 1) := by decide +kernel
theorem dL_law_383 : decode cL_law 383 = .ok (.invokevirtual 52, 3) := by decide +kernel
theorem dL_law_386 : decode cL_law 386 = .ok (.if_icmp .eq 370, 3) := by decide +kernel
theorem dL_law_389 : decode cL_law 389 = .ok (.iconst 0, 1) := by decide +kernel
theorem dL_law_390 : decode cL_law 390 = .ok (.ireturn, 1) := by decide +kernel
theorem dL_law_391 : decode cL_law 391 = .ok (.aload_n 1, 1) := by decide +kernel
theorem dL_law_392 : decode cL_law 392 = .ok (.invokevirtual 53, 3) := by decide +kernel
theorem dL_law_395 : decode cL_law 395 = .ok (.aload_n 2, 1) := by decide +kernel
theorem dL_law_396 : decode cL_law 396 = .ok (.invokevirtual 56, 3) := by decide +kernel
theorem dL_law_399 : decode cL_law 399 = .ok (.if_icmp .eq 357, 3) := by decide +kernel
theorem dL_law_402 : decode cL_law 402 = .ok (.iconst 0, 1) := by decide +kernel
theorem dL_law_403 : decode cL_law 403 = .ok (.ireturn, 1) := by decide +kernel
theorem dL_law_404 : decode cL_law 404 = .ok (.aload_n 1, 1) := by decide +kernel
theorem dL_law_405 : decode cL_law 405 = .ok (.invokevirtual 57, 3) := by decide +kernel
theorem dL_law_408 : decode cL_law 408 = .ok (.aload_n 2, 1) := by decide +kernel
theorem dL_law_409 : decode cL_law 409 = .ok (.invokevirtual 60, 3) := by decide +kernel
theorem dL_law_412 : decode cL_law 412 = .ok (.if_icmp .eq 344, 3) := by decide +kernel
theorem dL_law_415 : decode cL_law 415 = .ok (.iconst 0, 1) := by decide +kernel
theorem dL_law_416 : decode cL_law 416 = .ok (.ireturn, 1) := by decide +kernel
theorem dL_law_417 : decode cL_law 417 = .ok (.aload_n 1, 1) := by decide +kernel
theorem dL_law_418 : decode cL_law 418 = .ok (.aload_n 0, 1) := by decide +kernel
theorem dL_law_419 : decode cL_law 419 = .ok (.iload_n 3, 1) := by decide +kernel
theorem dL_law_420 : decode cL_law 420 = .ok (.iconst 1, 1) := by decide +kernel
theorem dL_law_421 : decode cL_law 421 = .ok (.iadd, 1) := by decide +kernel
theorem dL_law_422 : decode cL_law 422 = .ok (.iaload, 1) := by decide +kernel
theorem dL_law_423 : decode cL_law 423 = .ok (.invokevirtual 61, 3) := by decide +kernel
theorem dL_law_426 : decode cL_law 426 = .ok (.aload_n 2, 1) := by decide +kernel
theorem dL_law_427 : decode cL_law 427 = .ok (.aload_n 0, 1) := by decide +kernel
theorem dL_law_428 : decode cL_law 428 = .ok (.iload_n 3, 1) := by decide +kernel
theorem dL_law_429 : decode cL_law 429 = .ok (.iconst 1, 1) := by decide +kernel
theorem dL_law_430 : decode cL_law 430 = .ok (.iadd, 1) := by decide +kernel
theorem dL_law_431 : decode cL_law 431 = .ok (.iaload, 1) := by decide +kernel
theorem dL_law_432 : decode cL_law 432 = .ok (.invokevirtual 64, 3) := by decide +kernel
theorem dL_law_435 : decode cL_law 435 = .ok (.if_icmp .eq 321, 3) := by decide +kernel
theorem dL_law_438 : decode cL_law 438 = .ok (.iconst 0, 1) := by decide +kernel
theorem dL_law_439 : decode cL_law 439 = .ok (.ireturn, 1) := by decide +kernel
theorem dL_law_440 : decode cL_law 440 = .ok (.aload_n 1, 1) := by decide +kernel
theorem dL_law_441 : decode cL_law 441 = .ok (.aload_n 0, 1) := by decide +kernel
theorem dL_law_442 : decode cL_law 442 = .ok (.iload_n 3, 1) := by decide +kernel
theorem dL_law_443 : decode cL_law 443 = .ok (.iconst 1, 1) := by decide +kernel
theorem dL_law_444 : decode cL_law 444 = .ok (.iadd, 1) := by decide +kernel
theorem dL_law_445 : decode cL_law 445 = .ok (.iaload, 1) := by decide +kernel
theorem dL_law_446 : decode cL_law 446 = .ok (.aload_n 0, 1) := by decide +kernel
theorem dL_law_447 : decode cL_law 447 = .ok (.iload_n 3, 1) := by decide +kernel
theorem dL_law_448 : decode cL_law 448 = .ok (.iconst 2, 1) := by decide +kernel
theorem dL_law_449 : decode cL_law 449 = .ok (.iadd, 1) := by decide +kernel
theorem dL_law_450 : decode cL_law 450 = .ok (.iaload, 1) := by decide +kernel
theorem dL_law_451 : decode cL_law 451 = .ok (.invokevirtual 65, 3) := by decide +kernel
theorem dL_law_454 : decode cL_law 454 = .ok (.aload_n 2, 1) := by decide +kernel
theorem dL_law_455 : decode cL_law 455 = .ok (.aload_n 0, 1) := by decide +kernel
theorem dL_law_456 : decode cL_law 456 = .ok (.iload_n 3, 1) := by decide +kernel
theorem dL_law_457 : decode cL_law 457 = .ok (.iconst 1, 1) := by decide +kernel
theorem dL_law_458 : decode cL_law 458 = .ok (.iadd, 1) := by decide +kernel
theorem dL_law_459 : decode cL_law 459 = .ok (.iaload, 1) := by decide +kernel
theorem dL_law_460 : decode cL_law 460 = .ok (.aload_n 0, 1) := by decide +kernel
theorem dL_law_461 : decode cL_law 461 = .ok (.iload_n 3, 1) := by decide +kernel
theorem dL_law_462 : decode cL_law 462 = .ok (.iconst 2, 1) := by decide +kernel
theorem dL_law_463 : decode cL_law 463 = .ok (.iadd, 1) := by decide +kernel
theorem dL_law_464 : decode cL_law 464 = .ok (.iaload, 1) := by decide +kernel
theorem dL_law_465 : decode cL_law 465 = .ok (.invokevirtual 68, 3) := by decide +kernel
theorem dL_law_468 : decode cL_law 468 = .ok (.if_icmp .eq 288, 3) := by decide +kernel
theorem dL_law_471 : decode cL_law 471 = .ok (.iconst 0, 1) := by decide +kernel
theorem dL_law_472 : decode cL_law 472 = .ok (.ireturn, 1) := by decide +kernel
theorem dL_law_473 : decode cL_law 473 = .ok (.aload_n 1, 1) := by decide +kernel
theorem dL_law_474 : decode cL_law 474 = .ok (.aload_n 0, 1) := by decide +kernel
theorem dL_law_475 : decode cL_law 475 = .ok (.iload_n 3, 1) := by decide +kernel
theorem dL_law_476 : decode cL_law 476 = .ok (.iconst 1, 1) := by decide +kernel
theorem dL_law_477 : decode cL_law 477 = .ok (.iadd, 1) := by decide +kernel
theorem dL_law_478 : decode cL_law 478 = .ok (.iaload, 1) := by decide +kernel
theorem dL_law_479 : decode cL_law 479 = .ok (.invokevirtual 69, 3) := by decide +kernel
theorem dL_law_482 : decode cL_law 482 = .ok (.aload_n 2, 1) := by decide +kernel
theorem dL_law_483 : decode cL_law 483 = .ok (.aload_n 0, 1) := by decide +kernel
theorem dL_law_484 : decode cL_law 484 = .ok (.iload_n 3, 1) := by decide +kernel
theorem dL_law_485 : decode cL_law 485 = .ok (.iconst 1, 1) := by decide +kernel
theorem dL_law_486 : decode cL_law 486 = .ok (.iadd, 1) := by decide +kernel
theorem dL_law_487 : decode cL_law 487 = .ok (.iaload, 1) := by decide +kernel
theorem dL_law_488 : decode cL_law 488 = .ok (.invokevirtual 72, 3) := by decide +kernel
theorem dL_law_491 : decode cL_law 491 = .ok (.if_icmp .eq 265, 3) := by decide +kernel
theorem dL_law_494 : decode cL_law 494 = .ok (.iconst 0, 1) := by decide +kernel
theorem dL_law_495 : decode cL_law 495 = .ok (.ireturn, 1) := by decide +kernel
theorem dL_law_496 : decode cL_law 496 = .ok (.aload_n 1, 1) := by decide +kernel
theorem dL_law_497 : decode cL_law 497 = .ok (.aload_n 0, 1) := by decide +kernel
theorem dL_law_498 : decode cL_law 498 = .ok (.iload_n 3, 1) := by decide +kernel
theorem dL_law_499 : decode cL_law 499 = .ok (.iconst 1, 1) := by decide +kernel
theorem dL_law_500 : decode cL_law 500 = .ok (.iadd, 1) := by decide +kernel
theorem dL_law_501 : decode cL_law 501 = .ok (.iaload, 1) := by decide +kernel
theorem dL_law_502 : decode cL_law 502 = .ok (.aload_n 0, 1) := by decide +kernel
theorem dL_law_503 : decode cL_law 503 = .ok (.iload_n 3, 1) := by decide +kernel
theorem dL_law_504 : decode cL_law 504 = .ok (.iconst 2, 1) := by decide +kernel
theorem dL_law_505 : decode cL_law 505 = .ok (.iadd, 1) := by decide +kernel
theorem dL_law_506 : decode cL_law 506 = .ok (.iaload, 1) := by decide +kernel
theorem dL_law_507 : decode cL_law 507 = .ok (.aload_n 0, 1) := by decide +kernel
theorem dL_law_508 : decode cL_law 508 = .ok (.iload_n 3, 1) := by decide +kernel
theorem dL_law_509 : decode cL_law 509 = .ok (.iconst 3, 1) := by decide +kernel
theorem dL_law_510 : decode cL_law 510 = .ok (.iadd, 1) := by decide +kernel
theorem dL_law_511 : decode cL_law 511 = .ok (.iaload, 1) := by decide +kernel
theorem dL_law_512 : decode cL_law 512 = .ok (.invokevirtual 73, 3) := by decide +kernel
theorem dL_law_515 : decode cL_law 515 = .ok (.aload_n 2, 1) := by decide +kernel
theorem dL_law_516 : decode cL_law 516 = .ok (.aload_n 0, 1) := by decide +kernel
theorem dL_law_517 : decode cL_law 517 = .ok (.iload_n 3, 1) := by decide +kernel
theorem dL_law_518 : decode cL_law 518 = .ok (.iconst 1, 1) := by decide +kernel
theorem dL_law_519 : decode cL_law 519 = .ok (.iadd, 1) := by decide +kernel
theorem dL_law_520 : decode cL_law 520 = .ok (.iaload, 1) := by decide +kernel
theorem dL_law_521 : decode cL_law 521 = .ok (.aload_n 0, 1) := by decide +kernel
theorem dL_law_522 : decode cL_law 522 = .ok (.iload_n 3, 1) := by decide +kernel
theorem dL_law_523 : decode cL_law 523 = .ok (.iconst 2, 1) := by decide +kernel
theorem dL_law_524 : decode cL_law 524 = .ok (.iadd, 1) := by decide +kernel
theorem dL_law_525 : decode cL_law 525 = .ok (.iaload, 1) := by decide +kernel
theorem dL_law_526 : decode cL_law 526 = .ok (.aload_n 0, 1) := by decide +kernel
theorem dL_law_527 : decode cL_law 527 = .ok (.iload_n 3, 1) := by decide +kernel
theorem dL_law_528 : decode cL_law 528 = .ok (.iconst 3, 1) := by decide +kernel
theorem dL_law_529 : decode cL_law 529 = .ok (.iadd, 1) := by decide +kernel
theorem dL_law_530 : decode cL_law 530 = .ok (.iaload, 1) := by decide +kernel
theorem dL_law_531 : decode cL_law 531 = .ok (.invokevirtual 76, 3) := by decide +kernel
theorem dL_law_534 : decode cL_law 534 = .ok (.if_icmp .eq 222, 3) := by decide +kernel
theorem dL_law_537 : decode cL_law 537 = .ok (.iconst 0, 1) := by decide +kernel
theorem dL_law_538 : decode cL_law 538 = .ok (.ireturn, 1) := by decide +kernel
theorem dL_law_539 : decode cL_law 539 = .ok (.aload_n 1, 1) := by decide +kernel
theorem dL_law_540 : decode cL_law 540 = .ok (.invokevirtual 77, 3) := by decide +kernel
theorem dL_law_543 : decode cL_law 543 = .ok (.aload_n 2, 1) := by decide +kernel
theorem dL_law_544 : decode cL_law 544 = .ok (.invokevirtual 80, 3) := by decide +kernel
theorem dL_law_547 : decode cL_law 547 = .ok (.if_icmp .eq 209, 3) := by decide +kernel
theorem dL_law_550 : decode cL_law 550 = .ok (.iconst 0, 1) := by decide +kernel
theorem dL_law_551 : decode cL_law 551 = .ok (.ireturn, 1) := by decide +kernel
theorem dL_law_552 : decode cL_law 552 = .ok (.aload_n 1, 1) := by decide +kernel
theorem dL_law_553 : decode cL_law 553 = .ok (.aload_n 0, 1) := by decide +kernel
theorem dL_law_554 : decode cL_law 554 = .ok (.iload_n 3, 1) := by decide +kernel
theorem dL_law_555 : decode cL_law 555 = .ok (.iconst 1, 1) := by decide +kernel
theorem dL_law_556 : decode cL_law 556 = .ok (.iadd, 1) := by decide +kernel
theorem dL_law_557 : decode cL_law 557 = .ok (.iaload, 1) := by decide +kernel
theorem dL_law_558 : decode cL_law 558 = .ok (.aload_n 0, 1) := by decide +kernel
theorem dL_law_559 : decode cL_law 559 = .ok (.iload_n 3, 1) := by decide +kernel
theorem dL_law_560 : decode cL_law 560 = .ok (.iconst 2, 1) := by decide +kernel
theorem dL_law_561 : decode cL_law 561 = .ok (.iadd, 1) := by decide +kernel
theorem dL_law_562 : decode cL_law 562 = .ok (.iaload, 1) := by decide +kernel
theorem dL_law_563 : decode cL_law 563 = .ok (.aload_n 0, 1) := by decide +kernel
theorem dL_law_564 : decode cL_law 564 = .ok (.iload_n 3, 1) := by decide +kernel
theorem dL_law_565 : decode cL_law 565 = .ok (.iconst 3, 1) := by decide +kernel
theorem dL_law_566 : decode cL_law 566 = .ok (.iadd, 1) := by decide +kernel
theorem dL_law_567 : decode cL_law 567 = .ok (.iaload, 1) := by decide +kernel
theorem dL_law_568 : decode cL_law 568 = .ok (.invokevirtual 81, 3) := by decide +kernel
theorem dL_law_571 : decode cL_law 571 = .ok (.aload_n 2, 1) := by decide +kernel
theorem dL_law_572 : decode cL_law 572 = .ok (.aload_n 0, 1) := by decide +kernel
theorem dL_law_573 : decode cL_law 573 = .ok (.iload_n 3, 1) := by decide +kernel
theorem dL_law_574 : decode cL_law 574 = .ok (.iconst 1, 1) := by decide +kernel
theorem dL_law_575 : decode cL_law 575 = .ok (.iadd, 1) := by decide +kernel
theorem dL_law_576 : decode cL_law 576 = .ok (.iaload, 1) := by decide +kernel
theorem dL_law_577 : decode cL_law 577 = .ok (.aload_n 0, 1) := by decide +kernel
theorem dL_law_578 : decode cL_law 578 = .ok (.iload_n 3, 1) := by decide +kernel
theorem dL_law_579 : decode cL_law 579 = .ok (.iconst 2, 1) := by decide +kernel
theorem dL_law_580 : decode cL_law 580 = .ok (.iadd, 1) := by decide +kernel
theorem dL_law_581 : decode cL_law 581 = .ok (.iaload, 1) := by decide +kernel
theorem dL_law_582 : decode cL_law 582 = .ok (.aload_n 0, 1) := by decide +kernel
theorem dL_law_583 : decode cL_law 583 = .ok (.iload_n 3, 1) := by decide +kernel
theorem dL_law_584 : decode cL_law 584 = .ok (.iconst 3, 1) := by decide +kernel
theorem dL_law_585 : decode cL_law 585 = .ok (.iadd, 1) := by decide +kernel
theorem dL_law_586 : decode cL_law 586 = .ok (.iaload, 1) := by decide +kernel
theorem dL_law_587 : decode cL_law 587 = .ok (.invokevirtual 84, 3) := by decide +kernel
theorem dL_law_590 : decode cL_law 590 = .ok (.if_icmp .eq 166, 3) := by decide +kernel
theorem dL_law_593 : decode cL_law 593 = .ok (.iconst 0, 1) := by decide +kernel
theorem dL_law_594 : decode cL_law 594 = .ok (.ireturn, 1) := by decide +kernel
theorem dL_law_595 : decode cL_law 595 = .ok (.aload_n 1, 1) := by decide +kernel
theorem dL_law_596 : decode cL_law 596 = .ok (.aload_n 0, 1) := by decide +kernel
theorem dL_law_597 : decode cL_law 597 = .ok (.iload_n 3, 1) := by decide +kernel
theorem dL_law_598 : decode cL_law 598 = .ok (.iconst 1, 1) := by decide +kernel
theorem dL_law_599 : decode cL_law 599 = .ok (.iadd, 1) := by decide +kernel
theorem dL_law_600 : decode cL_law 600 = .ok (.iaload, 1) := by decide +kernel
theorem dL_law_601 : decode cL_law 601 = .ok (.invokevirtual 85, 3) := by decide +kernel
theorem dL_law_604 : decode cL_law 604 = .ok (.aload_n 2, 1) := by decide +kernel
theorem dL_law_605 : decode cL_law 605 = .ok (.aload_n 0, 1) := by decide +kernel
theorem dL_law_606 : decode cL_law 606 = .ok (.iload_n 3, 1) := by decide +kernel
theorem dL_law_607 : decode cL_law 607 = .ok (.iconst 1, 1) := by decide +kernel
theorem dL_law_608 : decode cL_law 608 = .ok (.iadd, 1) := by decide +kernel
theorem dL_law_609 : decode cL_law 609 = .ok (.iaload, 1) := by decide +kernel
theorem dL_law_610 : decode cL_law 610 = .ok (.invokevirtual 88, 3) := by decide +kernel
theorem dL_law_613 : decode cL_law 613 = .ok (.if_icmp .eq 143, 3) := by decide +kernel
theorem dL_law_616 : decode cL_law 616 = .ok (.iconst 0, 1) := by decide +kernel
theorem dL_law_617 : decode cL_law 617 = .ok (.ireturn, 1) := by decide +kernel
theorem dL_law_618 : decode cL_law 618 = .ok (.aload_n 1, 1) := by decide +kernel
theorem dL_law_619 : decode cL_law 619 = .ok (.aload_n 0, 1) := by decide +kernel
theorem dL_law_620 : decode cL_law 620 = .ok (.iload_n 3, 1) := by decide +kernel
theorem dL_law_621 : decode cL_law 621 = .ok (.iconst 1, 1) := by decide +kernel
theorem dL_law_622 : decode cL_law 622 = .ok (.iadd, 1) := by decide +kernel
theorem dL_law_623 : decode cL_law 623 = .ok (.iaload, 1) := by decide +kernel
theorem dL_law_624 : decode cL_law 624 = .ok (.aload_n 0, 1) := by decide +kernel
theorem dL_law_625 : decode cL_law 625 = .ok (.iload_n 3, 1) := by decide +kernel
theorem dL_law_626 : decode cL_law 626 = .ok (.iconst 2, 1) := by decide +kernel
theorem dL_law_627 : decode cL_law 627 = .ok (.iadd, 1) := by decide +kernel
theorem dL_law_628 : decode cL_law 628 = .ok (.iaload, 1) := by decide +kernel
theorem dL_law_629 : decode cL_law 629 = .ok (.aload_n 0, 1) := by decide +kernel
theorem dL_law_630 : decode cL_law 630 = .ok (.iload_n 3, 1) := by decide +kernel
theorem dL_law_631 : decode cL_law 631 = .ok (.iconst 3, 1) := by decide +kernel
theorem dL_law_632 : decode cL_law 632 = .ok (.iadd, 1) := by decide +kernel
theorem dL_law_633 : decode cL_law 633 = .ok (.iaload, 1) := by decide +kernel
theorem dL_law_634 : decode cL_law 634 = .ok (.invokevirtual 89, 3) := by decide +kernel
theorem dL_law_637 : decode cL_law 637 = .ok (.aload_n 2, 1) := by decide +kernel
theorem dL_law_638 : decode cL_law 638 = .ok (.aload_n 0, 1) := by decide +kernel
theorem dL_law_639 : decode cL_law 639 = .ok (.iload_n 3, 1) := by decide +kernel
theorem dL_law_640 : decode cL_law 640 = .ok (.iconst 1, 1) := by decide +kernel
theorem dL_law_641 : decode cL_law 641 = .ok (.iadd, 1) := by decide +kernel
theorem dL_law_642 : decode cL_law 642 = .ok (.iaload, 1) := by decide +kernel
theorem dL_law_643 : decode cL_law 643 = .ok (.aload_n 0, 1) := by decide +kernel
theorem dL_law_644 : decode cL_law 644 = .ok (.iload_n 3, 1) := by decide +kernel
theorem dL_law_645 : decode cL_law 645 = .ok (.iconst 2, 1) := by decide +kernel
theorem dL_law_646 : decode cL_law 646 = .ok (.iadd, 1) := by decide +kernel
theorem dL_law_647 : decode cL_law 647 = .ok (.iaload, 1) := by decide +kernel
theorem dL_law_648 : decode cL_law 648 = .ok (.aload_n 0, 1) := by decide +kernel
theorem dL_law_649 : decode cL_law 649 = .ok (.iload_n 3, 1) := by decide +kernel
theorem dL_law_650 : decode cL_law 650 = .ok (.iconst 3, 1) := by decide +kernel
theorem dL_law_651 : decode cL_law 651 = .ok (.iadd, 1) := by decide +kernel
theorem dL_law_652 : decode cL_law 652 = .ok (.iaload, 1) := by decide +kernel
theorem dL_law_653 : decode cL_law 653 = .ok (.invokevirtual 92, 3) := by decide +kernel
theorem dL_law_656 : decode cL_law 656 = .ok (.if_icmp .eq 100, 3) := by decide +kernel
theorem dL_law_659 : decode cL_law 659 = .ok (.iconst 0, 1) := by decide +kernel
theorem dL_law_660 : decode cL_law 660 = .ok (.ireturn, 1) := by decide +kernel
theorem dL_law_661 : decode cL_law 661 = .ok (.aload_n 1, 1) := by decide +kernel
theorem dL_law_662 : decode cL_law 662 = .ok (.invokevirtual 93, 3) := by decide +kernel
theorem dL_law_665 : decode cL_law 665 = .ok (.aload_n 2, 1) := by decide +kernel
theorem dL_law_666 : decode cL_law 666 = .ok (.invokevirtual 96, 3) := by decide +kernel
theorem dL_law_669 : decode cL_law 669 = .ok (.if_icmp .eq 87, 3) := by decide +kernel
theorem dL_law_672 : decode cL_law 672 = .ok (.iconst 0, 1) := by decide +kernel
theorem dL_law_673 : decode cL_law 673 = .ok (.ireturn, 1) := by decide +kernel
theorem dL_law_674 : decode cL_law 674 = .ok (.aload_n 1, 1) := by decide +kernel
theorem dL_law_675 : decode cL_law 675 = .ok (.invokevirtual 97, 3) := by decide +kernel
theorem dL_law_678 : decode cL_law 678 = .ok (.aload_n 2, 1) := by decide +kernel
theorem dL_law_679 : decode cL_law 679 = .ok (.invokevirtual 100, 3) := by decide +kernel
theorem dL_law_682 : decode cL_law 682 = .ok (.if_icmp .eq 74, 3) := by decide +kernel
theorem dL_law_685 : decode cL_law 685 = .ok (.iconst 0, 1) := by decide +kernel
theorem dL_law_686 : decode cL_law 686 = .ok (.ireturn, 1) := by decide +kernel
theorem dL_law_687 : decode cL_law 687 = .ok (.aload_n 1, 1) := by decide +kernel
theorem dL_law_688 : decode cL_law 688 = .ok (.aload_n 0, 1) := by decide +kernel
theorem dL_law_689 : decode cL_law 689 = .ok (.iload_n 3, 1) := by decide +kernel
theorem dL_law_690 : decode cL_law 690 = .ok (.iconst 1, 1) := by decide +kernel
theorem dL_law_691 : decode cL_law 691 = .ok (.iadd, 1) := by decide +kernel
theorem dL_law_692 : decode cL_law 692 = .ok (.iaload, 1) := by decide +kernel
theorem dL_law_693 : decode cL_law 693 = .ok (.invokevirtual 101, 3) := by decide +kernel
theorem dL_law_696 : decode cL_law 696 = .ok (.aload_n 2, 1) := by decide +kernel
theorem dL_law_697 : decode cL_law 697 = .ok (.aload_n 0, 1) := by decide +kernel
theorem dL_law_698 : decode cL_law 698 = .ok (.iload_n 3, 1) := by decide +kernel
theorem dL_law_699 : decode cL_law 699 = .ok (.iconst 1, 1) := by decide +kernel
theorem dL_law_700 : decode cL_law 700 = .ok (.iadd, 1) := by decide +kernel
theorem dL_law_701 : decode cL_law 701 = .ok (.iaload, 1) := by decide +kernel
theorem dL_law_702 : decode cL_law 702 = .ok (.invokevirtual 104, 3) := by decide +kernel
theorem dL_law_705 : decode cL_law 705 = .ok (.if_icmp .eq 51, 3) := by decide +kernel
theorem dL_law_708 : decode cL_law 708 = .ok (.iconst 0, 1) := by decide +kernel
theorem dL_law_709 : decode cL_law 709 = .ok (.ireturn, 1) := by decide +kernel
theorem dL_law_710 : decode cL_law 710 = .ok (.aload_n 1, 1) := by decide +kernel
theorem dL_law_711 : decode cL_law 711 = .ok (.aload_n 0, 1) := by decide +kernel
theorem dL_law_712 : decode cL_law 712 = .ok (.iload_n 3, 1) := by decide +kernel
theorem dL_law_713 : decode cL_law 713 = .ok (.iconst 1, 1) := by decide +kernel
theorem dL_law_714 : decode cL_law 714 = .ok (.iadd, 1) := by decide +kernel
theorem dL_law_715 : decode cL_law 715 = .ok (.iaload, 1) := by decide +kernel
theorem dL_law_716 : decode cL_law 716 = .ok (.invokevirtual 105, 3) := by decide +kernel
theorem dL_law_719 : decode cL_law 719 = .ok (.aload_n 2, 1) := by decide +kernel
theorem dL_law_720 : decode cL_law 720 = .ok (.aload_n 0, 1) := by decide +kernel
theorem dL_law_721 : decode cL_law 721 = .ok (.iload_n 3, 1) := by decide +kernel
theorem dL_law_722 : decode cL_law 722 = .ok (.iconst 1, 1) := by decide +kernel
theorem dL_law_723 : decode cL_law 723 = .ok (.iadd, 1) := by decide +kernel
theorem dL_law_724 : decode cL_law 724 = .ok (.iaload, 1) := by decide +kernel
theorem dL_law_725 : decode cL_law 725 = .ok (.invokevirtual 108, 3) := by decide +kernel
theorem dL_law_728 : decode cL_law 728 = .ok (.if_icmp .eq 28, 3) := by decide +kernel
theorem dL_law_731 : decode cL_law 731 = .ok (.iconst 0, 1) := by decide +kernel
theorem dL_law_732 : decode cL_law 732 = .ok (.ireturn, 1) := by decide +kernel
theorem dL_law_733 : decode cL_law 733 = .ok (.aload_n 1, 1) := by decide +kernel
theorem dL_law_734 : decode cL_law 734 = .ok (.aload_n 0, 1) := by decide +kernel
theorem dL_law_735 : decode cL_law 735 = .ok (.iload_n 3, 1) := by decide +kernel
theorem dL_law_736 : decode cL_law 736 = .ok (.iconst 1, 1) := by decide +kernel
theorem dL_law_737 : decode cL_law 737 = .ok (.iadd, 1) := by decide +kernel
theorem dL_law_738 : decode cL_law 738 = .ok (.iaload, 1) := by decide +kernel
theorem dL_law_739 : decode cL_law 739 = .ok (.invokevirtual 109, 3) := by decide +kernel
theorem dL_law_742 : decode cL_law 742 = .ok (.aload_n 2, 1) := by decide +kernel
theorem dL_law_743 : decode cL_law 743 = .ok (.aload_n 0, 1) := by decide +kernel
theorem dL_law_744 : decode cL_law 744 = .ok (.iload_n 3, 1) := by decide +kernel
theorem dL_law_745 : decode cL_law 745 = .ok (.iconst 1, 1) := by decide +kernel
theorem dL_law_746 : decode cL_law 746 = .ok (.iadd, 1) := by decide +kernel
theorem dL_law_747 : decode cL_law 747 = .ok (.iaload, 1) := by decide +kernel
theorem dL_law_748 : decode cL_law 748 = .ok (.invokevirtual 112, 3) := by decide +kernel
theorem dL_law_751 : decode cL_law 751 = .ok (.if_icmp .eq 5, 3) := by decide +kernel
theorem dL_law_754 : decode cL_law 754 = .ok (.iconst 0, 1) := by decide +kernel
theorem dL_law_755 : decode cL_law 755 = .ok (.ireturn, 1) := by decide +kernel
theorem dL_law_756 : decode cL_law 756 = .ok (.iinc 3 4, 3) := by decide +kernel
theorem dL_law_759 : decode cL_law 759 = .ok (.goto (-741), 3) := by decide +kernel
theorem dL_law_762 : decode cL_law 762 = .ok (.iconst 1, 1) := by decide +kernel
theorem dL_law_763 : decode cL_law 763 = .ok (.ireturn, 1) := by decide +kernel
end
section
theorem dJ11_isValidCodePoint_9a6ad_0 : decode cJ11_isValidCodePoint_9a6ad 0 = .ok (.iload_n 0, 1) := by decide +kernel
theorem dJ11_isValidCodePoint_9a6ad_1 : decode cJ11_isValidCodePoint_9a6ad 1 = .ok (.bipush 16, 2) := by decide +kernel
theorem dJ11_isValidCodePoint_9a6ad_3 : decode cJ11_isValidCodePoint_9a6ad 3 = .ok (.iushr, 1) := by decide +kernel
theorem dJ11_isValidCodePoint_9a6ad_4 : decode cJ11_isValidCodePoint_9a6ad 4 = .ok (.istore_n 1, 1) := by decide +kernel
theorem dJ11_isValidCodePoint_9a6ad_5 : decode cJ11_isValidCodePoint_9a6ad 5 = .ok (.iload_n 1, 1) := by decide +kernel
theorem dJ11_isValidCodePoint_9a6ad_6 : decode cJ11_isValidCodePoint_9a6ad 6 = .ok (.bipush 17, 2) := by decide +kernel
theorem dJ11_isValidCodePoint_9a6ad_8 : decode cJ11_isValidCodePoint_9a6ad 8 = .ok (.if_icmp .ge 7, 3) := by decide +kernel
theorem dJ11_isValidCodePoint_9a6ad_11 : decode cJ11_isValidCodePoint_9a6ad 11 = .ok (.iconst 1, 1) := by decide +kernel
theorem dJ11_isValidCodePoint_9a6ad_12 : decode cJ11_isValidCodePoint_9a6ad 12 = .ok (.goto 4, 3) := by decide +kernel
theorem dJ11_isValidCodePoint_9a6ad_15 : decode cJ11_isValidCodePoint_9a6ad 15 = .ok (.iconst 0, 1) := by decide +kernel
theorem dJ11_isValidCodePoint_9a6ad_16 : decode cJ11_isValidCodePoint_9a6ad 16 = .ok (.ireturn, 1) := by decide +kernel
theorem dJ11_highSurrogate_5068e_0 : decode cJ11_highSurrogate_5068e 0 = .ok (.iload_n 0, 1) := by decide +kernel
theorem dJ11_highSurrogate_5068e_1 : decode cJ11_highSurrogate_5068e 1 = .ok (.bipush 10, 2) := by decide +kernel
theorem dJ11_highSurrogate_5068e_3 : decode cJ11_highSurrogate_5068e 3 = .ok (.iushr, 1) := by decide +kernel
theorem dJ11_highSurrogate_5068e_4 : decode cJ11_highSurrogate_5068e 4 = .ok (.ldc 110, 2) := by decide +kernel
theorem dJ11_highSurrogate_5068e_6 : decode cJ11_highSurrogate_5068e 6 = .ok (.iadd, 1) := by decide +kernel
theorem dJ11_highSurrogate_5068e_7 : decode cJ11_highSurrogate_5068e 7 = .ok (.i2c, 1) := by decide +kernel
theorem dJ11_highSurrogate_5068e_8 : decode cJ11_highSurrogate_5068e 8 = .ok (.ireturn, 1) := by decide +kernel
theorem dJ11_lowSurrogate_5068e_0 : decode cJ11_lowSurrogate_5068e 0 = .ok (.iload_n 0, 1) := by decide +kernel
theorem dJ11_lowSurrogate_5068e_1 : decode cJ11_lowSurrogate_5068e 1 = .ok (.sipush 1023, 3) := by decide +kernel
theorem dJ11_lowSurrogate_5068e_4 : decode cJ11_lowSurrogate_5068e 4 = .ok (.iand, 1) := by decide +kernel
theorem dJ11_lowSurrogate_5068e_5 : decode cJ11_lowSurrogate_5068e 5 = .ok (.ldc 76, 2) := by decide +kernel
theorem dJ11_lowSurrogate_5068e_7 : decode cJ11_lowSurrogate_5068e 7 = .ok (.iadd, 1) := by decide +kernel
theorem dJ11_lowSurrogate_5068e_8 : decode cJ11_lowSurrogate_5068e 8 = .ok (.i2c, 1) := by decide +kernel
theorem dJ11_lowSurrogate_5068e_9 : decode cJ11_lowSurrogate_5068e 9 = .ok (.ireturn, 1) := by decide +kernel
theorem dJ6_bitCount_0f7a4_0 : decode cJ6_bitCount_0f7a4 0 = .ok (.iload_n 0, 1) := by decide +kernel
theorem dJ6_bitCount_0f7a4_1 : decode cJ6_bitCount_0f7a4 1 = .ok (.iload_n 0, 1) := by decide +kernel
theorem dJ6_bitCount_0f7a4_2 : decode cJ6_bitCount_0f7a4 2 = .ok (.iconst 1, 1) := by decide +kernel
theorem dJ6_bitCount_0f7a4_3 : decode cJ6_bitCount_0f7a4 3 = .ok (.iushr, 1) := by decide +kernel
theorem dJ6_bitCount_0f7a4_4 : decode cJ6_bitCount_0f7a4 4 = .ok (.ldc_w 265, 3) := by decide +kernel
theorem dJ6_bitCount_0f7a4_7 : decode cJ6_bitCount_0f7a4 7 = .ok (.iand, 1) := by decide +kernel
theorem dJ6_bitCount_0f7a4_8 : decode cJ6_bitCount_0f7a4 8 = .ok (.isub, 1) := by decide +kernel
theorem dJ6_bitCount_0f7a4_9 : decode cJ6_bitCount_0f7a4 9 = .ok (.istore_n 0, 1) := by decide +kernel
theorem dJ6_bitCount_0f7a4_10 : decode cJ6_bitCount_0f7a4 10 = .ok (.iload_n 0, 1) := by decide +kernel
theorem dJ6_bitCount_0f7a4_11 : decode cJ6_bitCount_0f7a4 11 = .ok (.ldc_w 266, 3) := by decide +kernel
theorem dJ6_bitCount_0f7a4_14 : decode cJ6_bitCount_0f7a4 14 = .ok (.iand, 1) := by decide +kernel
theorem dJ6_bitCount_0f7a4_15 : decode cJ6_bitCount_0f7a4 15 = .ok (.iload_n 0, 1) := by decide +kernel
theorem dJ6_bitCount_0f7a4_16 : decode cJ6_bitCount_0f7a4 16 = .ok (.iconst 2, 1) := by decide +kernel
theorem dJ6_bitCount_0f7a4_17 : decode cJ6_bitCount_0f7a4 17 = .ok (.iushr, 1) := by decide +kernel
theorem dJ6_bitCount_0f7a4_18 : decode cJ6_bitCount_0f7a4 18 = .ok (.ldc_w 266, 3) := by decide +kernel
theorem dJ6_bitCount_0f7a4_21 : decode cJ6_bitCount_0f7a4 21 = .ok (.iand, 1) := by decide +kernel
theorem dJ6_bitCount_0f7a4_22 : decode cJ6_bitCount_0f7a4 22 = .ok (.iadd, 1) := by decide +kernel
theorem dJ6_bitCount_0f7a4_23 : decode cJ6_bitCount_0f7a4 23 = .ok (.istore_n 0, 1) := by decide +kernel
theorem dJ6_bitCount_0f7a4_24 : decode cJ6_bitCount_0f7a4 24 = .ok (.iload_n 0, 1) := by decide +kernel
theorem dJ6_bitCount_0f7a4_25 : decode cJ6_bitCount_0f7a4 25 = .ok (.iload_n 0, 1) := by decide +kernel
theorem dJ6_bitCount_0f7a4_26 : decode cJ6_bitCount_0f7a4 26 = .ok (.iconst 4, 1) := by decide +kernel
theorem dJ6_bitCount_0f7a4_27 : decode cJ6_bitCount_0f7a4 27 = .ok (.iushr, 1) := by decide +kernel
theorem dJ6_bitCount_0f7a4_28 : decode cJ6_bitCount_0f7a4 28 = .ok (.iadd, 1) := by decide +kernel
theorem dJ6_bitCount_0f7a4_29 : decode cJ6_bitCount_0f7a4 29 = .ok (.ldc_w 267, 3) := by decide +kernel
theorem dJ6_bitCount_0f7a4_32 : decode cJ6_bitCount_0f7a4 32 = .ok (.iand, 1) := by decide +kernel
theorem dJ6_bitCount_0f7a4_33 : decode cJ6_bitCount_0f7a4 33 = .ok (.istore_n 0, 1) := by decide +kernel
theorem dJ6_bitCount_0f7a4_34 : decode cJ6_bitCount_0f7a4 34 = .ok (.iload_n 0, 1) := by decide +kernel
theorem dJ6_bitCount_0f7a4_35 : decode cJ6_bitCount_0f7a4 35 = .ok (.iload_n 0, 1) := by decide +kernel
theorem dJ6_bitCount_0f7a4_36 : decode cJ6_bitCount_0f7a4 36 = .ok (.bipush 8, 2) := by decide +kernel
theorem dJ6_bitCount_0f7a4_38 : decode cJ6_bitCount_0f7a4 38 = .ok (.iushr, 1) := by decide +kernel
theorem dJ6_bitCount_0f7a4_39 : decode cJ6_bitCount_0f7a4 39 = .ok (.iadd, 1) := by decide +kernel
theorem dJ6_bitCount_0f7a4_40 : decode cJ6_bitCount_0f7a4 40 = .ok (.istore_n 0, 1) := by decide +kernel
theorem dJ6_bitCount_0f7a4_41 : decode cJ6_bitCount_0f7a4 41 = .ok (.iload_n 0, 1) := by decide +kernel
theorem dJ6_bitCount_0f7a4_42 : decode cJ6_bitCount_0f7a4 42 = .ok (.iload_n 0, 1) := by decide +kernel
theorem dJ6_bitCount_0f7a4_43 : decode cJ6_bitCount_0f7a4 43 = .ok (.bipush 16, 2) := by decide +kernel
theorem dJ6_bitCount_0f7a4_45 : decode cJ6_bitCount_0f7a4 45 = .ok (.iushr, 1) := by decide +kernel
theorem dJ6_bitCount_0f7a4_46 : decode cJ6_bitCount_0f7a4 46 = .ok (.iadd, 1) := by decide +kernel
theorem dJ6_bitCount_0f7a4_47 : decode cJ6_bitCount_0f7a4 47 = .ok (.istore_n 0, 1) := by decide +kernel
theorem dJ6_bitCount_0f7a4_48 : decode cJ6_bitCount_0f7a4 48 = .ok (.iload_n 0, 1) := by decide +kernel
theorem dJ6_bitCount_0f7a4_49 : decode cJ6_bitCount_0f7a4 49 = .ok (.bipush 63, 2) := by decide +kernel
theorem dJ6_bitCount_0f7a4_51 : decode cJ6_bitCount_0f7a4 51 = .ok (.iand, 1) := by decide +kernel
theorem dJ6_bitCount_0f7a4_52 : decode cJ6_bitCount_0f7a4 52 = .ok (.ireturn, 1) := by decide +kernel
theorem dJ9_max_7cf53_0 : decode cJ9_max_7cf53 0 = .ok (.iload_n 0, 1) := by decide +kernel
theorem dJ9_max_7cf53_1 : decode cJ9_max_7cf53 1 = .ok (.iload_n 1, 1) := by decide +kernel
theorem dJ9_max_7cf53_2 : decode cJ9_max_7cf53 2 = .ok (.if_icmp .lt 7, 3) := by decide +kernel
theorem dJ9_max_7cf53_5 : decode cJ9_max_7cf53 5 = .ok (.iload_n 0, 1) := by decide +kernel
theorem dJ9_max_7cf53_6 : decode cJ9_max_7cf53 6 = .ok (.goto 4, 3) := by decide +kernel
theorem dJ9_max_7cf53_9 : decode cJ9_max_7cf53 9 = .ok (.iload_n 1, 1) := by decide +kernel
theorem dJ9_max_7cf53_10 : decode cJ9_max_7cf53 10 = .ok (.ireturn, 1) := by decide +kernel
theorem dJ9_min_7cf53_0 : decode cJ9_min_7cf53 0 = .ok (.iload_n 0, 1) := by decide +kernel
theorem dJ9_min_7cf53_1 : decode cJ9_min_7cf53 1 = .ok (.iload_n 1, 1) := by decide +kernel
theorem dJ9_min_7cf53_2 : decode cJ9_min_7cf53 2 = .ok (.if_icmp .gt 7, 3) := by decide +kernel
theorem dJ9_min_7cf53_5 : decode cJ9_min_7cf53 5 = .ok (.iload_n 0, 1) := by decide +kernel
theorem dJ9_min_7cf53_6 : decode cJ9_min_7cf53 6 = .ok (.goto 4, 3) := by decide +kernel
theorem dJ9_min_7cf53_9 : decode cJ9_min_7cf53 9 = .ok (.iload_n 1, 1) := by decide +kernel
theorem dJ9_min_7cf53_10 : decode cJ9_min_7cf53 10 = .ok (.ireturn, 1) := by decide +kernel
theorem dJ0_length_8abf5_0 : decode cJ0_length_8abf5 0 = .ok (.aload_n 0, 1) := by decide +kernel
theorem dJ0_length_8abf5_1 : decode cJ0_length_8abf5 1 = .ok (.getfield 9, 3) := by decide +kernel
theorem dJ0_length_8abf5_4 : decode cJ0_length_8abf5 4 = .ok (.arraylength, 1) := by decide +kernel
theorem dJ0_length_8abf5_5 : decode cJ0_length_8abf5 5 = .ok (.aload_n 0, 1) := by decide +kernel
theorem dJ0_length_8abf5_6 : decode cJ0_length_8abf5 6 = .ok (.invokevirtual 335, 3) := by decide +kernel
theorem dJ0_length_8abf5_9 : decode cJ0_length_8abf5 9 = .ok (.ishr, 1) := by decide +kernel
theorem dJ0_length_8abf5_10 : decode cJ0_length_8abf5 10 = .ok (.ireturn, 1) := by decide +kernel
theorem dJ0_indexOf_0f7a4_0 : decode cJ0_indexOf_0f7a4 0 = .ok (.aload_n 0, 1) := by decide +kernel
theorem dJ0_indexOf_0f7a4_1 : decode cJ0_indexOf_0f7a4 1 = .ok (.iload_n 1, 1) := by decide +kernel
theorem dJ0_indexOf_0f7a4_2 : decode cJ0_indexOf_0f7a4 2 = .ok (.iconst 0, 1) := by decide +kernel
theorem dJ0_indexOf_0f7a4_3 : decode cJ0_indexOf_0f7a4 3 = .ok (.invokevirtual 633, 3) := by decide +kernel
theorem dJ0_indexOf_0f7a4_6 : decode cJ0_indexOf_0f7a4 6 = .ok (.ireturn, 1) := by decide +kernel
theorem dJ0_indexOf_7cf53_0 : decode cJ0_indexOf_7cf53 0 = .ok (.aload_n 0, 1) := by decide +kernel
theorem dJ0_indexOf_7cf53_1 : decode cJ0_indexOf_7cf53 1 = .ok (.invokevirtual 492, 3) := by decide +kernel
theorem dJ0_indexOf_7cf53_4 : decode cJ0_indexOf_7cf53 4 = .ok (.ifCond .eq 19, 3) := by decide +kernel
theorem dJ0_indexOf_7cf53_7 : decode cJ0_indexOf_7cf53 7 = .ok (.aload_n 0, 1) := by decide +kernel
theorem dJ0_indexOf_7cf53_8 : decode cJ0_indexOf_7cf53 8 = .ok (.getfield 9, 3) := by decide +kernel
theorem dJ0_indexOf_7cf53_11 : decode cJ0_indexOf_7cf53 11 = .ok (.iload_n 1, 1) := by decide +kernel
theorem dJ0_indexOf_7cf53_12 : decode cJ0_indexOf_7cf53 12 = .ok (.iload_n 2, 1) := by decide +kernel
theorem dJ0_indexOf_7cf53_13 : decode cJ0_indexOf_7cf53 13 = .ok (.aload_n 0, 1) := by decide +kernel
theorem dJ0_indexOf_7cf53_14 : decode cJ0_indexOf_7cf53 14 = .ok (.invokevirtual 505, 3) := by decide +kernel
theorem dJ0_indexOf_7cf53_17 : decode cJ0_indexOf_7cf53 17 = .ok (.invokestatic 637, 3) := by decide +kernel
theorem dJ0_indexOf_7cf53_20 : decode cJ0_indexOf_7cf53 20 = .ok (.goto 16, 3) := by decide +kernel
theorem dJ0_indexOf_7cf53_23 : decode cJ0_indexOf_7cf53 23 = .ok (.aload_n 0, 1) := by decide +kernel
theorem dJ0_indexOf_7cf53_24 : decode cJ0_indexOf_7cf53 24 = .ok (.getfield 9, 3) := by decide +kernel
theorem dJ0_indexOf_7cf53_27 : decode cJ0_indexOf_7cf53 27 = .ok (.iload_n 1, 1) := by decide +kernel
theorem dJ0_indexOf_7cf53_28 : decode cJ0_indexOf_7cf53 28 = .ok (.iload_n 2, 1) := by decide +kernel
theorem dJ0_indexOf_7cf53_29 : decode cJ0_indexOf_7cf53 29 = .ok (.aload_n 0, 1) := by decide +kernel
theorem dJ0_indexOf_7cf53_30 : decode cJ0_indexOf_7cf53 30 = .ok (.invokevirtual 505, 3) := by decide +kernel
theorem dJ0_indexOf_7cf53_33 : decode cJ0_indexOf_7cf53 33 = .ok (.invokestatic 640, 3) := by decide +kernel
theorem dJ0_indexOf_7cf53_36 : decode cJ0_indexOf_7cf53 36 = .ok (.ireturn, 1) := by decide +kernel
theorem dJ0_coder_7d493_0 : decode cJ0_coder_7d493 0 = .ok (.getstatic 38, 3) := by decide +kernel
theorem dJ0_coder_7d493_3 : decode cJ0_coder_7d493 3 = .ok (.ifCond .eq 10, 3) := by decide +kernel
theorem dJ0_coder_7d493_6 : decode cJ0_coder_7d493 6 = .ok (.aload_n 0, 1) := by decide +kernel
theorem dJ0_coder_7d493_7 : decode cJ0_coder_7d493 7 = .ok (.getfield 15, 3) := by decide +kernel
theorem dJ0_coder_7d493_10 : decode cJ0_coder_7d493 10 = .ok (.goto 4, 3) := by decide +kernel
theorem dJ0_coder_7d493_13 : decode cJ0_coder_7d493 13 = .ok (.iconst 1, 1) := by decide +kernel
theorem dJ0_coder_7d493_14 : decode cJ0_coder_7d493 14 = .ok (.ireturn, 1) := by decide +kernel
theorem dJ0_isLatin1_aae02_0 : decode cJ0_isLatin1_aae02 0 = .ok (.getstatic 38, 3) := by decide +kernel
theorem dJ0_isLatin1_aae02_3 : decode cJ0_isLatin1_aae02 3 = .ok (.ifCond .eq 14, 3) := by decide +kernel
theorem dJ0_isLatin1_aae02_6 : decode cJ0_isLatin1_aae02 6 = .ok (.aload_n 0, 1) := by decide +kernel
theorem dJ0_isLatin1_aae02_7 : decode cJ0_isLatin1_aae02 7 = .ok (.getfield 15, 3) := by decide +kernel
theorem dJ0_isLatin1_aae02_10 : decode cJ0_isLatin1_aae02 10 = .ok (.ifCond .ne 7, 3) := by decide +kernel
theorem dJ0_isLatin1_aae02_13 : decode cJ0_isLatin1_aae02 13 = .ok (.iconst 1, 1) := by decide +kernel
theorem dJ0_isLatin1_aae02_14 : decode cJ0_isLatin1_aae02 14 = .ok (.goto 4, 3) := by decide +kernel
theorem dJ0_isLatin1_aae02_17 : decode cJ0_isLatin1_aae02 17 = .ok (.iconst 0, 1) := by decide +kernel
theorem dJ0_isLatin1_aae02_18 : decode cJ0_isLatin1_aae02 18 = .ok (.ireturn, 1) := by decide +kernel
theorem dJ0_checkBoundsBeginEnd_23922_0 : decode cJ0_checkBoundsBeginEnd_23922 0 = .ok (.iload_n 0, 1) := by decide +kernel
theorem dJ0_checkBoundsBeginEnd_23922_1 : decode cJ0_checkBoundsBeginEnd_23922 1 = .ok (.iload_n 1, 1) := by decide +kernel
theorem dJ0_checkBoundsBeginEnd_23922_2 : decode cJ0_checkBoundsBeginEnd_23922 2 = .ok (.iload_n 2, 1) := by decide +kernel
theorem dJ0_checkBoundsBeginEnd_23922_3 : decode cJ0_checkBoundsBeginEnd_23922 3 = .ok (.getstatic 1053, 3) := by decide +kernel
theorem dJ0_checkBoundsBeginEnd_23922_6 : decode cJ0_checkBoundsBeginEnd_23922 6 = .ok (.invokestatic 1062, 3) := by decide +kernel
theorem dJ0_checkBoundsBeginEnd_23922_9 : decode cJ0_checkBoundsBeginEnd_23922 9 = .ok (.pop, 1) := by decide +kernel
theorem dJ0_checkBoundsBeginEnd_23922_10 : decode cJ0_checkBoundsBeginEnd_23922 10 = .ok (.return_, 1) := by decide +kernel
theorem dJ1_canEncode_9a6ad_0 : decode cJ1_canEncode_9a6ad 0 = .ok (.iload_n 0, 1) := by decide +kernel
theorem dJ1_canEncode_9a6ad_1 : decode cJ1_canEncode_9a6ad 1 = .ok (.ifCond .lt 14, 3) := by decide +kernel
theorem dJ1_canEncode_9a6ad_4 : decode cJ1_canEncode_9a6ad 4 = .ok (.iload_n 0, 1) := by decide +kernel
theorem dJ1_canEncode_9a6ad_5 : decode cJ1_canEncode_9a6ad 5 = .ok (.sipush 255, 3) := by decide +kernel
theorem dJ1_canEncode_9a6ad_8 : decode cJ1_canEncode_9a6ad 8 = .ok (.if_icmp .gt 7, 3) := by decide +kernel
theorem dJ1_canEncode_9a6ad_11 : decode cJ1_canEncode_9a6ad 11 = .ok (.iconst 1, 1) := by decide +kernel
theorem dJ1_canEncode_9a6ad_12 : decode cJ1_canEncode_9a6ad 12 = .ok (.goto 4, 3) := by decide +kernel
theorem dJ1_canEncode_9a6ad_15 : decode cJ1_canEncode_9a6ad 15 = .ok (.iconst 0, 1) := by decide +kernel
theorem dJ1_canEncode_9a6ad_16 : decode cJ1_canEncode_9a6ad 16 = .ok (.ireturn, 1) := by decide +kernel
theorem dJ1_indexOf_4cfef_0 : decode cJ1_indexOf_4cfef 0 = .ok (.iload_n 1, 1) := by decide +kernel
theorem dJ1_indexOf_4cfef_1 : decode cJ1_indexOf_4cfef 1 = .ok (.invokestatic 88, 3) := by decide +kernel
theorem dJ1_indexOf_4cfef_4 : decode cJ1_indexOf_4cfef 4 = .ok (.ifCond .ne 5, 3) := by decide +kernel
theorem dJ1_indexOf_4cfef_7 : decode cJ1_indexOf_4cfef 7 = .ok (.iconst (-1), 1) := by decide +kernel
theorem dJ1_indexOf_4cfef_8 : decode cJ1_indexOf_4cfef 8 = .ok (.ireturn, 1) := by decide +kernel
theorem dJ1_indexOf_4cfef_9 : decode cJ1_indexOf_4cfef 9 = .ok (.iload_n 2, 1) := by decide +kernel
theorem dJ1_indexOf_4cfef_10 : decode cJ1_indexOf_4cfef 10 = .ok (.iconst 0, 1) := by decide +kernel
theorem dJ1_indexOf_4cfef_11 : decode cJ1_indexOf_4cfef 11 = .ok (.invokestatic 92, 3) := by decide +kernel
theorem dJ1_indexOf_4cfef_14 : decode cJ1_indexOf_4cfef 14 = .ok (.istore_n 2, 1) := by decide +kernel
theorem dJ1_indexOf_4cfef_15 : decode cJ1_indexOf_4cfef 15 = .ok (.iload_n 3, 1) := by decide +kernel
theorem dJ1_indexOf_4cfef_16 : decode cJ1_indexOf_4cfef 16 = .ok (.aload_n 0, 1) := by decide +kernel
theorem dJ1_indexOf_4cfef_17 : decode cJ1_indexOf_4cfef 17 = .ok (.arraylength, 1) := by decide +kernel
theorem dJ1_indexOf_4cfef_18 : decode cJ1_indexOf_4cfef 18 = .ok (.invokestatic 38, 3) := by decide +kernel
theorem dJ1_indexOf_4cfef_21 : decode cJ1_indexOf_4cfef 21 = .ok (.istore_n 3, 1) := by decide +kernel
theorem dJ1_indexOf_4cfef_22 : decode cJ1_indexOf_4cfef 22 = .ok (.iload_n 2, 1) := by decide +kernel
theorem dJ1_indexOf_4cfef_23 : decode cJ1_indexOf_4cfef 23 = .ok (.iload_n 3, 1) := by decide +kernel
theorem dJ1_indexOf_4cfef_24 : decode cJ1_indexOf_4cfef 24 = .ok (.if_icmp .lt 5, 3) := by decide +kernel
theorem dJ1_indexOf_4cfef_27 : decode cJ1_indexOf_4cfef 27 = .ok (.iconst (-1), 1) := by decide +kernel
theorem dJ1_indexOf_4cfef_28 : decode cJ1_indexOf_4cfef 28 = .ok (.ireturn, 1) := by decide +kernel
theorem dJ1_indexOf_4cfef_29 : decode cJ1_indexOf_4cfef 29 = .ok (.aload_n 0, 1) := by decide +kernel
theorem dJ1_indexOf_4cfef_30 : decode cJ1_indexOf_4cfef 30 = .ok (.iload_n 1, 1) := by decide +kernel
theorem dJ1_indexOf_4cfef_31 : decode cJ1_indexOf_4cfef 31 = .ok (.iload_n 2, 1) := by decide +kernel
theorem dJ1_indexOf_4cfef_32 : decode cJ1_indexOf_4cfef 32 = .ok (.iload_n 3, 1) := by decide +kernel
theorem dJ1_indexOf_4cfef_33 : decode cJ1_indexOf_4cfef 33 = .ok (.invokestatic 95, 3) := by decide +kernel
theorem dJ1_indexOf_4cfef_36 : decode cJ1_indexOf_4cfef 36 = .ok (.ireturn, 1) := by decide +kernel
theorem dJ1_indexOfChar_4cfef_0 : decode cJ1_indexOfChar_4cfef 0 = .ok (.iload_n 1, 1) := by decide +kernel
theorem dJ1_indexOfChar_4cfef_1 : decode cJ1_indexOfChar_4cfef 1 = .ok (.i2b, 1) := by decide +kernel
theorem dJ1_indexOfChar_4cfef_2 : decode cJ1_indexOfChar_4cfef 2 = .ok (.istore 4, 2) := by decide +kernel
theorem dJ1_indexOfChar_4cfef_4 : decode cJ1_indexOfChar_4cfef 4 = .ok (.iload_n 2, 1) := by decide +kernel
theorem dJ1_indexOfChar_4cfef_5 : decode cJ1_indexOfChar_4cfef 5 = .ok (.istore 5, 2) := by decide +kernel
theorem dJ1_indexOfChar_4cfef_7 : decode cJ1_indexOfChar_4cfef 7 = .ok (.iload 5, 2) := by decide +kernel
theorem dJ1_indexOfChar_4cfef_9 : decode cJ1_indexOfChar_4cfef 9 = .ok (.iload_n 3, 1) := by decide +kernel
theorem dJ1_indexOfChar_4cfef_10 : decode cJ1_indexOfChar_4cfef 10 = .ok (.if_icmp .ge 21, 3) := by decide +kernel
theorem dJ1_indexOfChar_4cfef_13 : decode cJ1_indexOfChar_4cfef 13 = .ok (.aload_n 0, 1) := by decide +kernel
theorem dJ1_indexOfChar_4cfef_14 : decode cJ1_indexOfChar_4cfef 14 = .ok (.iload 5, 2) := by decide +kernel
theorem dJ1_indexOfChar_4cfef_16 : decode cJ1_indexOfChar_4cfef 16 = .ok (.baload, 1) := by decide +kernel
theorem dJ1_indexOfChar_4cfef_17 : decode cJ1_indexOfChar_4cfef 17 = .ok (.iload 4, 2) := by decide +kernel
theorem dJ1_indexOfChar_4cfef_19 : decode cJ1_indexOfChar_4cfef 19 = .ok (.if_icmp .ne 6, 3) := by decide +kernel
theorem dJ1_indexOfChar_4cfef_22 : decode cJ1_indexOfChar_4cfef 22 = .ok (.iload 5, 2) := by decide +kernel
theorem dJ1_indexOfChar_4cfef_24 : decode cJ1_indexOfChar_4cfef 24 = .ok (.ireturn, 1) := by decide +kernel
theorem dJ1_indexOfChar_4cfef_25 : decode cJ1_indexOfChar_4cfef 25 = .ok (.iinc 5 1, 3) := by decide +kernel
theorem dJ1_indexOfChar_4cfef_28 : decode cJ1_indexOfChar_4cfef 28 = .ok (.goto (-21), 3) := by decide +kernel
theorem dJ1_indexOfChar_4cfef_31 : decode cJ1_indexOfChar_4cfef 31 = .ok (.iconst (-1), 1) := by decide +kernel
theorem dJ1_indexOfChar_4cfef_32 : decode cJ1_indexOfChar_4cfef 32 = .ok (.ireturn, 1) := by decide +kernel
theorem dJ2_getChar_3b067_0 : decode cJ2_getChar_3b067 0 = .ok (.getstatic 44, 3) := by decide +kernel
theorem dJ2_getChar_3b067_3 : decode cJ2_getChar_3b067 3 = .ok (.ifCond .ne 25, 3) := by decide +kernel
theorem dJ2_getChar_3b067_6 : decode cJ2_getChar_3b067 6 = .ok (.iload_n 1, 1) := by decide +kernel
theorem dJ2_getChar_3b067_7 : decode cJ2_getChar_3b067 7 = .ok (.ifCond .lt 11, 3) := by decide +kernel
theorem dJ2_getChar_3b067_10 : decode cJ2_getChar_3b067 10 = .ok (.iload_n 1, 1) := by decide +kernel
theorem dJ2_getChar_3b067_11 : decode cJ2_getChar_3b067 11 = .ok (.aload_n 0, 1) := by decide +kernel
theorem dJ2_getChar_3b067_12 : decode cJ2_getChar_3b067 12 = .ok (.invokestatic 48, 3) := by decide +kernel
theorem dJ2_getChar_3b067_15 : decode cJ2_getChar_3b067 15 = .ok (.if_icmp .lt 13, 3) := by decide +kernel
theorem dJ2_getChar_3b067_18 : decode cJ2_getChar_3b067 18 = .ok (.new 52, 3) := by decide +kernel
theorem dJ2_getChar_3b067_21 : decode cJ2_getChar_3b067 21 = .ok (.dup, 1) := by decide +kernel
theorem dJ2_getChar_3b067_22 : decode cJ2_getChar_3b067 22 = .ok (.ldc 54, 2) := by decide +kernel
theorem dJ2_getChar_3b067_24 : decode cJ2_getChar_3b067 24 = .ok (.invokespecial 56, 3) := by decide +kernel
theorem dJ2_getChar_3b067_27 : decode cJ2_getChar_3b067 27 = .ok (.athrow, 1) := by decide +kernel
theorem dJ2_getChar_3b067_28 : decode cJ2_getChar_3b067 28 = .ok (.iload_n 1, 1) := by decide +kernel
theorem dJ2_getChar_3b067_29 : decode cJ2_getChar_3b067 29 = .ok (.iconst 1, 1) := by decide +kernel
theorem dJ2_getChar_3b067_30 : decode cJ2_getChar_3b067 30 = .ok (.ishl, 1) := by decide +kernel
theorem dJ2_getChar_3b067_31 : decode cJ2_getChar_3b067 31 = .ok (.istore_n 1, 1) := by decide +kernel
theorem dJ2_getChar_3b067_32 : decode cJ2_getChar_3b067 32 = .ok (.aload_n 0, 1) := by decide +kernel
theorem dJ2_getChar_3b067_33 : decode cJ2_getChar_3b067 33 = .ok (.iload_n 1, 1) := by decide +kernel
theorem dJ2_getChar_3b067_34 : decode cJ2_getChar_3b067 34 = .ok (.iinc 1 1, 3) := by decide +kernel
theorem dJ2_getChar_3b067_37 : decode cJ2_getChar_3b067 37 = .ok (.baload, 1) := by decide +kernel
theorem dJ2_getChar_3b067_38 : decode cJ2_getChar_3b067 38 = .ok (.sipush 255, 3) := by decide +kernel
theorem dJ2_getChar_3b067_41 : decode cJ2_getChar_3b067 41 = .ok (.iand, 1) := by decide +kernel
theorem dJ2_getChar_3b067_42 : decode cJ2_getChar_3b067 42 = .ok (.getstatic 59, 3) := by decide +kernel
theorem dJ2_getChar_3b067_45 : decode cJ2_getChar_3b067 45 = .ok (.ishl, 1) := by decide +kernel
theorem dJ2_getChar_3b067_46 : decode cJ2_getChar_3b067 46 = .ok (.aload_n 0, 1) := by decide +kernel
theorem dJ2_getChar_3b067_47 : decode cJ2_getChar_3b067 47 = .ok (.iload_n 1, 1) := by decide +kernel
theorem dJ2_getChar_3b067_48 : decode cJ2_getChar_3b067 48 = .ok (.baload, 1) := by decide +kernel
theorem dJ2_getChar_3b067_49 : decode cJ2_getChar_3b067 49 = .ok (.sipush 255, 3) := by decide +kernel
theorem dJ2_getChar_3b067_52 : decode cJ2_getChar_3b067 52 = .ok (.iand, 1) := by decide +kernel
theorem dJ2_getChar_3b067_53 : decode cJ2_getChar_3b067 53 = .ok (.getstatic 63, 3) := by decide +kernel
theorem dJ2_getChar_3b067_56 : decode cJ2_getChar_3b067 56 = .ok (.ishl, 1) := by decide +kernel
theorem dJ2_getChar_3b067_57 : decode cJ2_getChar_3b067 57 = .ok (.ior, 1) := by decide +kernel
theorem dJ2_getChar_3b067_58 : decode cJ2_getChar_3b067 58 = .ok (.i2c, 1) := by decide +kernel
theorem dJ2_getChar_3b067_59 : decode cJ2_getChar_3b067 59 = .ok (.ireturn, 1) := by decide +kernel
theorem dJ2_length_9d52b_0 : decode cJ2_length_9d52b 0 = .ok (.aload_n 0, 1) := by decide +kernel
theorem dJ2_length_9d52b_1 : decode cJ2_length_9d52b 1 = .ok (.arraylength, 1) := by decide +kernel
theorem dJ2_length_9d52b_2 : decode cJ2_length_9d52b 2 = .ok (.iconst 1, 1) := by decide +kernel
theorem dJ2_length_9d52b_3 : decode cJ2_length_9d52b 3 = .ok (.ishr, 1) := by decide +kernel
theorem dJ2_length_9d52b_4 : decode cJ2_length_9d52b 4 = .ok (.ireturn, 1) := by decide +kernel
theorem dJ2_indexOf_4cfef_0 : decode cJ2_indexOf_4cfef 0 = .ok (.iload_n 2, 1) := by decide +kernel
theorem dJ2_indexOf_4cfef_1 : decode cJ2_indexOf_4cfef 1 = .ok (.iconst 0, 1) := by decide +kernel
theorem dJ2_indexOf_4cfef_2 : decode cJ2_indexOf_4cfef 2 = .ok (.invokestatic 224, 3) := by decide +kernel
theorem dJ2_indexOf_4cfef_5 : decode cJ2_indexOf_4cfef 5 = .ok (.istore_n 2, 1) := by decide +kernel
theorem dJ2_indexOf_4cfef_6 : decode cJ2_indexOf_4cfef 6 = .ok (.iload_n 3, 1) := by decide +kernel
theorem dJ2_indexOf_4cfef_7 : decode cJ2_indexOf_4cfef 7 = .ok (.aload_n 0, 1) := by decide +kernel
theorem dJ2_indexOf_4cfef_8 : decode cJ2_indexOf_4cfef 8 = .ok (.arraylength, 1) := by decide +kernel
theorem dJ2_indexOf_4cfef_9 : decode cJ2_indexOf_4cfef 9 = .ok (.iconst 1, 1) := by decide +kernel
theorem dJ2_indexOf_4cfef_10 : decode cJ2_indexOf_4cfef 10 = .ok (.ishr, 1) := by decide +kernel
theorem dJ2_indexOf_4cfef_11 : decode cJ2_indexOf_4cfef 11 = .ok (.invokestatic 183, 3) := by decide +kernel
theorem dJ2_indexOf_4cfef_14 : decode cJ2_indexOf_4cfef 14 = .ok (.istore_n 3, 1) := by decide +kernel
theorem dJ2_indexOf_4cfef_15 : decode cJ2_indexOf_4cfef 15 = .ok (.iload_n 2, 1) := by decide +kernel
theorem dJ2_indexOf_4cfef_16 : decode cJ2_indexOf_4cfef 16 = .ok (.iload_n 3, 1) := by decide +kernel
theorem dJ2_indexOf_4cfef_17 : decode cJ2_indexOf_4cfef 17 = .ok (.if_icmp .lt 5, 3) := by decide +kernel
theorem dJ2_indexOf_4cfef_20 : decode cJ2_indexOf_4cfef 20 = .ok (.iconst (-1), 1) := by decide +kernel
theorem dJ2_indexOf_4cfef_21 : decode cJ2_indexOf_4cfef 21 = .ok (.ireturn, 1) := by decide +kernel
theorem dJ2_indexOf_4cfef_22 : decode cJ2_indexOf_4cfef 22 = .ok (.iload_n 1, 1) := by decide +kernel
theorem dJ2_indexOf_4cfef_23 : decode cJ2_indexOf_4cfef 23 = .ok (.ldc 227, 2) := by decide +kernel
theorem dJ2_indexOf_4cfef_25 : decode cJ2_indexOf_4cfef 25 = .ok (.if_icmp .ge 11, 3) := by decide +kernel
theorem dJ2_indexOf_4cfef_28 : decode cJ2_indexOf_4cfef 28 = .ok (.aload_n 0, 1) := by decide +kernel
theorem dJ2_indexOf_4cfef_29 : decode cJ2_indexOf_4cfef 29 = .ok (.iload_n 1, 1) := by decide +kernel
theorem dJ2_indexOf_4cfef_30 : decode cJ2_indexOf_4cfef 30 = .ok (.iload_n 2, 1) := by decide +kernel
theorem dJ2_indexOf_4cfef_31 : decode cJ2_indexOf_4cfef 31 = .ok (.iload_n 3, 1) := by decide +kernel
theorem dJ2_indexOf_4cfef_32 : decode cJ2_indexOf_4cfef 32 = .ok (.invokestatic 228, 3) := by decide +kernel
theorem dJ2_indexOf_4cfef_35 : decode cJ2_indexOf_4cfef 35 = .ok (.ireturn, 1) := by decide +kernel
theorem dJ2_indexOf_4cfef_36 : decode cJ2_indexOf_4cfef 36 = .ok (.aload_n 0, 1) := by decide +kernel
theorem dJ2_indexOf_4cfef_37 : decode cJ2_indexOf_4cfef 37 = .ok (.iload_n 1, 1) := by decide +kernel
theorem dJ2_indexOf_4cfef_38 : decode cJ2_indexOf_4cfef 38 = .ok (.iload_n 2, 1) := by decide +kernel
theorem dJ2_indexOf_4cfef_39 : decode cJ2_indexOf_4cfef 39 = .ok (.iload_n 3, 1) := by decide +kernel
theorem dJ2_indexOf_4cfef_40 : decode cJ2_indexOf_4cfef 40 = .ok (.invokestatic 232, 3) := by decide +kernel
theorem dJ2_indexOf_4cfef_43 : decode cJ2_indexOf_4cfef 43 = .ok (.ireturn, 1) := by decide +kernel
theorem dJ2_indexOfChar_4cfef_0 : decode cJ2_indexOfChar_4cfef 0 = .ok (.iload_n 2, 1) := by decide +kernel
theorem dJ2_indexOfChar_4cfef_1 : decode cJ2_indexOfChar_4cfef 1 = .ok (.iload_n 3, 1) := by decide +kernel
theorem dJ2_indexOfChar_4cfef_2 : decode cJ2_indexOfChar_4cfef 2 = .ok (.aload_n 0, 1) := by decide +kernel
theorem dJ2_indexOfChar_4cfef_3 : decode cJ2_indexOfChar_4cfef 3 = .ok (.invokestatic 96, 3) := by decide +kernel
theorem dJ2_indexOfChar_4cfef_6 : decode cJ2_indexOfChar_4cfef 6 = .ok (.aload_n 0, 1) := by decide +kernel
theorem dJ2_indexOfChar_4cfef_7 : decode cJ2_indexOfChar_4cfef 7 = .ok (.iload_n 1, 1) := by decide +kernel
theorem dJ2_indexOfChar_4cfef_8 : decode cJ2_indexOfChar_4cfef 8 = .ok (.iload_n 2, 1) := by decide +kernel
theorem dJ2_indexOfChar_4cfef_9 : decode cJ2_indexOfChar_4cfef 9 = .ok (.iload_n 3, 1) := by decide +kernel
theorem dJ2_indexOfChar_4cfef_10 : decode cJ2_indexOfChar_4cfef 10 = .ok (.invokestatic 244, 3) := by decide +kernel
theorem dJ2_indexOfChar_4cfef_13 : decode cJ2_indexOfChar_4cfef 13 = .ok (.ireturn, 1) := by decide +kernel
theorem dJ2_indexOfCharUnsafe_4cfef_0 : decode cJ2_indexOfCharUnsafe_4cfef 0 = .ok (.iload_n 2, 1) := by decide +kernel
theorem dJ2_indexOfCharUnsafe_4cfef_1 : decode cJ2_indexOfCharUnsafe_4cfef 1 = .ok (.istore 4, 2) := by decide +kernel
theorem dJ2_indexOfCharUnsafe_4cfef_3 : decode cJ2_indexOfCharUnsafe_4cfef 3 = .ok (.iload 4, 2) := by decide +kernel
theorem dJ2_indexOfCharUnsafe_4cfef_5 : decode cJ2_indexOfCharUnsafe_4cfef 5 = .ok (.iload_n 3, 1) := by decide +kernel
theorem dJ2_indexOfCharUnsafe_4cfef_6 : decode cJ2_indexOfCharUnsafe_4cfef 6 = .ok (.if_icmp .ge 22, 3) := by decide +kernel
theorem dJ2_indexOfCharUnsafe_4cfef_9 : decode cJ2_indexOfCharUnsafe_4cfef 9 = .ok (.aload_n 0, 1) := by decide +kernel
theorem dJ2_indexOfCharUnsafe_4cfef_10 : decode cJ2_indexOfCharUnsafe_4cfef 10 = .ok (.iload 4, 2) := by decide +kernel
theorem dJ2_indexOfCharUnsafe_4cfef_12 : decode cJ2_indexOfCharUnsafe_4cfef 12 = .ok (.invokestatic 71, 3) := by decide +kernel
theorem dJ2_indexOfCharUnsafe_4cfef_15 : decode cJ2_indexOfCharUnsafe_4cfef 15 = .ok (.iload_n 1, 1) := by decide +kernel
theorem dJ2_indexOfCharUnsafe_4cfef_16 : decode cJ2_indexOfCharUnsafe_4cfef 16 = .ok (.if_icmp .ne 6, 3) := by decide +kernel
theorem dJ2_indexOfCharUnsafe_4cfef_19 : decode cJ2_indexOfCharUnsafe_4cfef 19 = .ok (.iload 4, 2) := by decide +kernel
theorem dJ2_indexOfCharUnsafe_4cfef_21 : decode cJ2_indexOfCharUnsafe_4cfef 21 = .ok (.ireturn, 1) := by decide +kernel
theorem dJ2_indexOfCharUnsafe_4cfef_22 : decode cJ2_indexOfCharUnsafe_4cfef 22 = .ok (.iinc 4 1, 3) := by decide +kernel
theorem dJ2_indexOfCharUnsafe_4cfef_25 : decode cJ2_indexOfCharUnsafe_4cfef 25 = .ok (.goto (-22), 3) := by decide +kernel
theorem dJ2_indexOfCharUnsafe_4cfef_28 : decode cJ2_indexOfCharUnsafe_4cfef 28 = .ok (.iconst (-1), 1) := by decide +kernel
theorem dJ2_indexOfCharUnsafe_4cfef_29 : decode cJ2_indexOfCharUnsafe_4cfef 29 = .ok (.ireturn, 1) := by decide +kernel
theorem dJ2_indexOfSupplementary_4cfef_0 : decode cJ2_indexOfSupplementary_4cfef 0 = .ok (.iload_n 1, 1) := by decide +kernel
theorem dJ2_indexOfSupplementary_4cfef_1 : decode cJ2_indexOfSupplementary_4cfef 1 = .ok (.invokestatic 164, 3) := by decide +kernel
theorem dJ2_indexOfSupplementary_4cfef_4 : decode cJ2_indexOfSupplementary_4cfef 4 = .ok (.ifCond .eq 65, 3) := by decide +kernel
theorem dJ2_indexOfSupplementary_4cfef_7 : decode cJ2_indexOfSupplementary_4cfef 7 = .ok (.iload_n 1, 1) := by decide +kernel
theorem dJ2_indexOfSupplementary_4cfef_8 : decode cJ2_indexOfSupplementary_4cfef 8 = .ok (.invokestatic 157, 3) := by decide +kernel
theorem dJ2_indexOfSupplementary_4cfef_11 : decode cJ2_indexOfSupplementary_4cfef 11 = .ok (.istore 4, 2) := by decide +kernel
theorem dJ2_indexOfSupplementary_4cfef_13 : decode cJ2_indexOfSupplementary_4cfef 13 = .ok (.iload_n 1, 1) := by decide +kernel
theorem dJ2_indexOfSupplementary_4cfef_14 : decode cJ2_indexOfSupplementary_4cfef 14 = .ok (.invokestatic 161, 3) := by decide +kernel
theorem dJ2_indexOfSupplementary_4cfef_17 : decode cJ2_indexOfSupplementary_4cfef 17 = .ok (.istore 5, 2) := by decide +kernel
theorem dJ2_indexOfSupplementary_4cfef_19 : decode cJ2_indexOfSupplementary_4cfef 19 = .ok (.iload_n 2, 1) := by decide +kernel
theorem dJ2_indexOfSupplementary_4cfef_20 : decode cJ2_indexOfSupplementary_4cfef 20 = .ok (.iload_n 3, 1) := by decide +kernel
theorem dJ2_indexOfSupplementary_4cfef_21 : decode cJ2_indexOfSupplementary_4cfef 21 = .ok (.aload_n 0, 1) := by decide +kernel
theorem dJ2_indexOfSupplementary_4cfef_22 : decode cJ2_indexOfSupplementary_4cfef 22 = .ok (.invokestatic 96, 3) := by decide +kernel
theorem dJ2_indexOfSupplementary_4cfef_25 : decode cJ2_indexOfSupplementary_4cfef 25 = .ok (.iload_n 2, 1) := by decide +kernel
theorem dJ2_indexOfSupplementary_4cfef_26 : decode cJ2_indexOfSupplementary_4cfef 26 = .ok (.istore 6, 2) := by decide +kernel
theorem dJ2_indexOfSupplementary_4cfef_28 : decode cJ2_indexOfSupplementary_4cfef 28 = .ok (.iload 6, 2) := by decide +kernel
theorem dJ2_indexOfSupplementary_4cfef_30 : decode cJ2_indexOfSupplementary_4cfef 30 = .ok (.iload_n 3, 1) := by decide +kernel
theorem dJ2_indexOfSupplementary_4cfef_31 : decode cJ2_indexOfSupplementary_4cfef 31 = .ok (.iconst 1, 1) := by decide +kernel
theorem dJ2_indexOfSupplementary_4cfef_32 : decode cJ2_indexOfSupplementary_4cfef 32 = .ok (.isub, 1) := by decide +kernel
theorem dJ2_indexOfSupplementary_4cfef_33 : decode cJ2_indexOfSupplementary_4cfef 33 = .ok (.if_icmp .ge 36, 3) := by decide +kernel
theorem dJ2_indexOfSupplementary_4cfef_36 : decode cJ2_indexOfSupplementary_4cfef 36 = .ok (.aload_n 0, 1) := by decide +kernel
theorem dJ2_indexOfSupplementary_4cfef_37 : decode cJ2_indexOfSupplementary_4cfef 37 = .ok (.iload 6, 2) := by decide +kernel
theorem dJ2_indexOfSupplementary_4cfef_39 : decode cJ2_indexOfSupplementary_4cfef 39 = .ok (.invokestatic 71, 3) := by decide +kernel
theorem dJ2_indexOfSupplementary_4cfef_42 : decode cJ2_indexOfSupplementary_4cfef 42 = .ok (.iload 4, 2) := by decide +kernel
theorem dJ2_indexOfSupplementary_4cfef_44 : decode cJ2_indexOfSupplementary_4cfef 44 = .ok (.if_icmp .ne 19, 3) := by decide +kernel
theorem dJ2_indexOfSupplementary_4cfef_47 : decode cJ2_indexOfSupplementary_4cfef 47 = .ok (.aload_n 0, 1) := by decide +kernel
theorem dJ2_indexOfSupplementary_4cfef_48 : decode cJ2_indexOfSupplementary_4cfef 48 = .ok (.iload 6, 2) := by decide +kernel
theorem dJ2_indexOfSupplementary_4cfef_50 : decode cJ2_indexOfSupplementary_4cfef 50 = .ok (.iconst 1, 1) := by decide +kernel
theorem dJ2_indexOfSupplementary_4cfef_51 : decode cJ2_indexOfSupplementary_4cfef 51 = .ok (.iadd, 1) := by decide +kernel
theorem dJ2_indexOfSupplementary_4cfef_52 : decode cJ2_indexOfSupplementary_4cfef 52 = .ok (.invokestatic 71, 3) := by decide +kernel
theorem dJ2_indexOfSupplementary_4cfef_55 : decode cJ2_indexOfSupplementary_4cfef 55 = .ok (.iload 5, 2) := by decide +kernel
theorem dJ2_indexOfSupplementary_4cfef_57 : decode cJ2_indexOfSupplementary_4cfef 57 = .ok (.if_icmp .ne 6, 3) := by decide +kernel
theorem dJ2_indexOfSupplementary_4cfef_60 : decode cJ2_indexOfSupplementary_4cfef 60 = .ok (.iload 6, 2) := by decide +kernel
theorem dJ2_indexOfSupplementary_4cfef_62 : decode cJ2_indexOfSupplementary_4cfef 62 = .ok (.ireturn, 1) := by decide +kernel
theorem dJ2_indexOfSupplementary_4cfef_63 : decode cJ2_indexOfSupplementary_4cfef 63 = .ok (.iinc 6 1, 3) := by decide +kernel
theorem dJ2_indexOfSupplementary_4cfef_66 : decode cJ2_indexOfSupplementary_4cfef 66 = .ok (.goto (-38), 3) := by decide +kernel
theorem dJ2_indexOfSupplementary_4cfef_69 : decode cJ2_indexOfSupplementary_4cfef 69 = .ok (.iconst (-1), 1) := by decide +kernel
theorem dJ2_indexOfSupplementary_4cfef_70 : decode cJ2_indexOfSupplementary_4cfef 70 = .ok (.ireturn, 1) := by decide +kernel
theorem dJ2_checkBoundsBeginEnd_d044e_0 : decode cJ2_checkBoundsBeginEnd_d044e 0 = .ok (.iload_n 0, 1) := by decide +kernel
theorem dJ2_checkBoundsBeginEnd_d044e_1 : decode cJ2_checkBoundsBeginEnd_d044e 1 = .ok (.iload_n 1, 1) := by decide +kernel
theorem dJ2_checkBoundsBeginEnd_d044e_2 : decode cJ2_checkBoundsBeginEnd_d044e 2 = .ok (.aload_n 2, 1) := by decide +kernel
theorem dJ2_checkBoundsBeginEnd_d044e_3 : decode cJ2_checkBoundsBeginEnd_d044e 3 = .ok (.invokestatic 48, 3) := by decide +kernel
theorem dJ2_checkBoundsBeginEnd_d044e_6 : decode cJ2_checkBoundsBeginEnd_d044e 6 = .ok (.invokestatic 241, 3) := by decide +kernel
theorem dJ2_checkBoundsBeginEnd_d044e_9 : decode cJ2_checkBoundsBeginEnd_d044e 9 = .ok (.return_, 1) := by decide +kernel
theorem dJ3_checkFromToIndex_8c36e_0 : decode cJ3_checkFromToIndex_8c36e 0 = .ok (.iload_n 0, 1) := by decide +kernel
theorem dJ3_checkFromToIndex_8c36e_1 : decode cJ3_checkFromToIndex_8c36e 1 = .ok (.ifCond .lt 13, 3) := by decide +kernel
theorem dJ3_checkFromToIndex_8c36e_4 : decode cJ3_checkFromToIndex_8c36e 4 = .ok (.iload_n 0, 1) := by decide +kernel
theorem dJ3_checkFromToIndex_8c36e_5 : decode cJ3_checkFromToIndex_8c36e 5 = .ok (.iload_n 1, 1) := by decide +kernel
theorem dJ3_checkFromToIndex_8c36e_6 : decode cJ3_checkFromToIndex_8c36e 6 = .ok (.if_icmp .gt 8, 3) := by decide +kernel
theorem dJ3_checkFromToIndex_8c36e_9 : decode cJ3_checkFromToIndex_8c36e 9 = .ok (.iload_n 1, 1) := by decide +kernel
theorem dJ3_checkFromToIndex_8c36e_10 : decode cJ3_checkFromToIndex_8c36e 10 = .ok (.iload_n 2, 1) := by decide +kernel
theorem dJ3_checkFromToIndex_8c36e_11 : decode cJ3_checkFromToIndex_8c36e 11 = .ok (.if_icmp .le 11, 3) := by decide +kernel
theorem dJ3_checkFromToIndex_8c36e_14 : decode cJ3_checkFromToIndex_8c36e 14 = .ok (.aload_n 3, 1) := by decide +kernel
theorem dJ3_checkFromToIndex_8c36e_15 : decode cJ3_checkFromToIndex_8c36e 15 = .ok (.iload_n 0, 1) := by decide +kernel
theorem dJ3_checkFromToIndex_8c36e_16 : decode cJ3_checkFromToIndex_8c36e 16 = .ok (.iload_n 1, 1) := by decide +kernel
theorem dJ3_checkFromToIndex_8c36e_17 : decode cJ3_checkFromToIndex_8c36e 17 = .ok (.iload_n 2, 1) := by decide +kernel
theorem dJ3_checkFromToIndex_8c36e_18 : decode cJ3_checkFromToIndex_8c36e 18 = .ok (.invokestatic 99, 3) := by decide +kernel
theorem dJ3_checkFromToIndex_8c36e_21 : decode cJ3_checkFromToIndex_8c36e 21 = .ok (.athrow, 1) := by decide +kernel
theorem dJ3_checkFromToIndex_8c36e_22 : decode cJ3_checkFromToIndex_8c36e 22 = .ok (.iload_n 0, 1) := by decide +kernel
theorem dJ3_checkFromToIndex_8c36e_23 : decode cJ3_checkFromToIndex_8c36e 23 = .ok (.ireturn, 1) := by decide +kernel
end
section
/-! ===== 03 the flat world: all cells of the system and of the reference, as they stand once both are made; only ints change.
 A memory G: cell number -> place -> int (an object's int fields by their slots, an array's ints). ===== -/
abbrev Mem : Type := Nat → Nat → Int32
def upm (G : Mem) (k j : Nat) (x : Int32) : Mem := fun k' => if k' = k then upd (G k) j x else G k'
/-- a cell's shape: an object (its class's number, its fields: none an int, some k the cell k), or an array (0 ints, 1 booleans, 2 rows: its length, its first row's cell) -/
abbrev Shp : Type := (Nat × List (Option Nat)) ⊕ (Nat × Nat × Nat)
def fw_lay : List Shp := [.inl (8, [some 1, some 3, some 5, some 7, some 19, some 23, some 27, some 30, some 66]), .inl (6, [some 2]), .inr (0, 74, 0), .inl (6, [some 4]), .inr (0, 74, 0), .inl (7, [some 6, none, none, none, none, none, none, none]), .inr (0, 80, 0), .inl (2, [some 8, none, none]), .inr (2, 10, 9), .inr (0, 74, 0), .inr (0, 74, 0), .inr (0, 74, 0), .inr (0, 74, 0), .inr (0, 74, 0), .inr (0, 74, 0), .inr (0, 74, 0), .inr (0, 74, 0), .inr (0, 74, 0), .inr (0, 74, 0), .inl (0, [some 20, none]), .inr (2, 2, 21), .inr (0, 74, 0), .inr (0, 74, 0), .inl (4, [some 24, some 25, some 26, none]), .inr (0, 6, 0), .inr (0, 6, 0), .inr (0, 6, 0), .inl (1, [some 28, some 29]), .inr (0, 17, 0), .inr (0, 17, 0), .inl (3, [some 31, some 34, some 49, some 64, some 65]), .inl (1, [some 32, some 33]), .inr (0, 17, 0), .inr (0, 17, 0), .inr (2, 14, 35), .inr (0, 17, 0), .inr (0, 17, 0), .inr (0, 17, 0), .inr (0, 17, 0), .inr (0, 17, 0), .inr (0, 17, 0), .inr (0, 17, 0), .inr (0, 17, 0), .inr (0, 17, 0), .inr (0, 17, 0), .inr (0, 17, 0), .inr (0, 17, 0), .inr (0, 17, 0), .inr (0, 17, 0), .inr (2, 14, 50), .inr (0, 17, 0), .inr (0, 17, 0), .inr (0, 17, 0), .inr (0, 17, 0), .inr (0, 17, 0), .inr (0, 17, 0), .inr (0, 17, 0), .inr (0, 17, 0), .inr (0, 17, 0), .inr (0, 17, 0), .inr (0, 17, 0), .inr (0, 17, 0), .inr (0, 17, 0), .inr (0, 17, 0), .inr (0, 17, 0), .inr (0, 17, 0), .inl (5, [some 67, some 68, some 69, some 70, some 71, some 72, none, none]), .inr (0, 8, 0), .inr (0, 8, 0), .inr (0, 256, 0), .inr (0, 256, 0), .inr (0, 8, 0), .inr (2, 8, 73), .inr (0, 8, 0), .inr (0, 8, 0), .inr (0, 8, 0), .inr (0, 8, 0), .inr (0, 8, 0), .inr (0, 8, 0), .inr (0, 8, 0), .inr (0, 8, 0), .inl (9, [none, some 82, some 83, some 84, none, some 85, some 86, none, some 87, some 88, some 89, none, some 90, none, none, some 91, some 92, some 93, some 94, some 95, some 96, some 97]), .inr (0, 74, 0), .inr (0, 74, 0), .inr (0, 740, 0), .inr (0, 148, 0), .inr (1, 2, 0), .inr (0, 6, 0), .inr (0, 6, 0), .inr (0, 6, 0), .inr (0, 80, 0), .inr (0, 17, 0), .inr (0, 17, 0), .inr (0, 17, 0), .inr (0, 17, 0), .inr (0, 256, 0), .inr (0, 8, 0), .inr (0, 8, 0)]
/-- the world's names: addresses by cell number; classes' numbers and slots; the array classes of int[], boolean[], int[][]; the two static tables' addresses; String constants' and their bytes' -/
abbrev WP : Type := (Nat → Nat) × va_G × (ClassId × ClassId × ClassId) × (Nat × Nat) × (Nat → Nat) × (Nat → Nat)
def fw_fl (ad : Nat → Nat) (fs : List (Option Nat)) (r : Nat → Int32) : List Value := fs.mapIdx (fun j o => match o with | none => Value.int (r j) | some k => Value.ref (ad k))
def fw_cell (w : WP) (sh : Shp) (r : Nat → Int32) : va_E := match sh with
  | .inl (ci, fs) => .inr (ci, fw_fl w.1 fs r)
  | .inr (0, n, _) => .inl (w.2.2.1.1, n, .inl r)
  | .inr (1, n, _) => .inl (w.2.2.1.2.1, n, .inl r)
  | .inr (_, n, b) => .inl (w.2.2.1.2.2, n, .inr (.inr (.inr (.inr (fun i => if i < n then some (w.1 (b + i)) else none)))))
def fw_cells (w : WP) (G : Mem) : va_W := fw_lay.mapIdx (fun k sh => (w.1 k, fw_cell w sh (G k)))
def fw_A (w : WP) : Nat → Prop := fun q => ∃ k, k < fw_lay.length ∧ q = w.1 k
def fw_tys (w : WP) : List (ClassId × FieldType) := [(w.2.2.1.1, .int), (w.2.2.1.2.1, .boolean), (w.2.2.1.2.2, .array .int)]
def fw_K (w : WP) (U : State) : Prop := va_K w.2.1 vwCl (fw_tys w) U
def fw_inj (w : WP) : Prop := ∀ i j, i < fw_lay.length → j < fw_lay.length → w.1 i = w.1 j → i = j
def ev_tab (j : Nat) : Int32 := ([1, 0, 2, 1, 0, 2, 1, 0] : List Int32).getD j 0
def lk_tab (j : Nat) : Int32 := ([0, 0, 0, 1, 1, 1, 2, 2] : List Int32).getD j 0
def st_len : List Nat := [8, 4, 2]
def st_byt : List (List Int32) := [[100, 104, 119, 112, 118, 103, 102, 117], [43, 61, 45, 47], [60, 61]]
/-- links to a nest mate's private members -/
def fw_nm : List (String × Nat × MethodName × String) := [(RX7, 96, yX8_eventOf, RX8), (RX1, 26, yX8_has, RX8), (RX6, 66, yX8_eventOf, RX8), (RX6, 72, yX8_lookOf, RX8), (RX3, 76, yX8_has, RX8), (RX5, 72, yX8_eventOf, RX8), (RX5, 79, yX8_has, RX8), (RX0, 22, yX8_has, RX8)]
def fw_nf : List (String × Nat × String × String × String × String) := [(RX6, 69, RX8, "EVENT_TO_LOOK", "[I", RX8), (RX6, 75, RX8, "LOOK_TO_NOW", "[I", RX8)]
/-- what was there before and nobody writes: static tables, String constants, links to private members of a nest mate -/
def fw_St (w : WP) (U : State) (H : Heap) : Prop :=
  (va_Z RX8 "EVENT_TO_LOOK" "[I" (.ref w.2.2.2.1.1) (fw_A w) U H ∧ va_T .int w.2.2.2.1.1 8 (fun j => .int (ev_tab j)) (fw_A w) U H) ∧
  (va_Z RX8 "LOOK_TO_NOW" "[I" (.ref w.2.2.2.1.2) (fw_A w) U H ∧ va_T .int w.2.2.2.1.2 8 (fun j => .int (lk_tab j)) (fw_A w) U H) ∧
  va_Z "java/lang/String" "COMPACT_STRINGS" "Z" (.int 1) (fw_A w) U H ∧
  vk_S 3 st_len st_byt w.2.2.2.2.1 w.2.2.2.2.2 (fw_A w) U H ∧
  (vk_R RX7 75 "dhwpvgfu" (w.2.2.2.2.1 0) U ∧ vk_R RX7 57 "+=-/" (w.2.2.2.2.1 1) U ∧ vk_R RX7 80 "<=" (w.2.2.2.2.1 2) U) ∧
  (∀ q ∈ fw_nm, va_Nw (.methodLinkNest q.1 q.2.1 q.2.2.1 q.2.2.2) U) ∧
  (∀ q ∈ fw_nf, va_Nw (.fieldLinkNest q.1 q.2.1 q.2.2.1 q.2.2.2.1 q.2.2.2.2.1 q.2.2.2.2.2) U)
/-- the world with memory G -/
def fw_W (w : WP) (G : Mem) (U : State) : Prop := va_P w.2.1 vwCl (fw_cells w G) U.heap ∧ fw_K w U ∧ fw_inj w ∧ fw_St w U U.heap
def fw_B (w : WP) (G : Mem) (t : State) : Prop := va_P w.2.1 vwCl (fw_cells w G) t.heap
theorem fw_getC (w : WP) (G : Mem) {k : Nat} {sh : Shp} (h : fw_lay[k]? = some sh) : (fw_cells w G)[k]? = some (w.1 k, fw_cell w sh (G k)) := by
  unfold fw_cells
  rw [List.getElem?_mapIdx, h]
  rfl
theorem fw_ltC {k : Nat} {sh : Shp} (h : fw_lay[k]? = some sh) : k < fw_lay.length := (List.getElem?_eq_some_iff.mp h).1
theorem fw_setC (w : WP) (G : Mem) {k : Nat} {sh : Shp} (h : fw_lay[k]? = some sh) (r : Nat → Int32) : (fw_cells w G).set k (w.1 k, fw_cell w sh r) = fw_cells w (fun k' => if k' = k then r else G k') := by
  apply List.ext_getElem?
  intro i
  have hlt := fw_ltC h
  rw [List.getElem?_set]
  unfold fw_cells
  rw [List.getElem?_mapIdx, List.getElem?_mapIdx, List.length_mapIdx]
  by_cases hi : k = i
  · subst hi
    rw [if_pos rfl, if_pos hlt, h]
    simp
  · rw [if_neg hi]
    cases fw_lay[i]? with
    | none => rfl
    | some x =>
      have hne : ¬ i = k := fun e => hi e.symm
      simp [hne]
theorem fw_D (w : WP) (G : Mem) (hi : fw_inj w) : va_D (fw_A w) (fw_cells w G) := by
  refine ⟨fun i j p q hp hq e => ?_, fun k q hk => ?_⟩
  · unfold fw_cells at hp hq
    rw [List.getElem?_mapIdx] at hp hq
    obtain ⟨a, ha, rfl⟩ := Option.map_eq_some_iff.mp hp
    obtain ⟨b, hb, rfl⟩ := Option.map_eq_some_iff.mp hq
    exact hi i j (fw_ltC ha) (fw_ltC hb) e
  · unfold fw_cells at hk
    rw [List.getElem?_mapIdx] at hk
    obtain ⟨a, ha, rfl⟩ := Option.map_eq_some_iff.mp hk
    exact ⟨k, fw_ltC ha, rfl⟩
theorem fw_flI {ad : Nat → Nat} {fs : List (Option Nat)} {r : Nat → Int32} {j : Nat} (h : fs[j]? = some none) : (fw_fl ad fs r)[j]? = some (.int (r j)) := by
  unfold fw_fl
  rw [List.getElem?_mapIdx, h]
  rfl
theorem fw_flR {ad : Nat → Nat} {fs : List (Option Nat)} {r : Nat → Int32} {j k : Nat} (h : fs[j]? = some (some k)) : (fw_fl ad fs r)[j]? = some (.ref (ad k)) := by
  unfold fw_fl
  rw [List.getElem?_mapIdx, h]
  rfl
theorem fw_flS {ad : Nat → Nat} {fs : List (Option Nat)} {r : Nat → Int32} {j : Nat} (h : fs[j]? = some none) (v : Int32) : (fw_fl ad fs r).set j (.int v) = fw_fl ad fs (upd r j v) := by
  apply List.ext_getElem?
  intro i
  have hlt := (List.getElem?_eq_some_iff.mp h).1
  rw [List.getElem?_set]
  unfold fw_fl
  rw [List.getElem?_mapIdx, List.getElem?_mapIdx, List.length_mapIdx]
  by_cases hi : j = i
  · subst hi
    rw [if_pos rfl, if_pos hlt, h]
    simp [upd]
  · rw [if_neg hi]
    cases fs[i]? with
    | none => rfl
    | some x =>
      have hne : ¬ i = j := fun e => hi e.symm
      cases x <;> simp [upd, hne]
theorem fw_flL {ad : Nat → Nat} {fs : List (Option Nat)} {r : Nat → Int32} {j : Nat} {x : Option Nat} (h : fs[j]? = some x) : j < (fw_fl ad fs r).length := by
  unfold fw_fl
  rw [List.length_mapIdx]
  exact (List.getElem?_eq_some_iff.mp h).1
/-- the words that a callee may be given -/
def lw_tg : List Cond := lw_tbl.filter goodWord
theorem tg (i : Nat) {w : Cond} (h : lw_tbl[i]? = some w) (hg : goodWord w = true) : w ∈ lw_tg := List.mem_filter.mpr ⟨List.mem_of_getElem? h, hg⟩
theorem tg_good {y : MethodName} {b : ByteArray} {n : Nat} {r : Option FieldType} (h : Cond.code y b n r ∈ lw_tg) : GoodIn lw_tg (Cond.code y b n r :: lw_tg) := fun w hw => by
  have hm : w ∈ lw_tg := by
    rcases List.mem_cons.mp hw with e | e
    · rw [e]; exact h
    · exact e
  exact ⟨hm, good_of_word (List.mem_filter.mp hm).2⟩
theorem fw_K.moved {w : WP} {u U : State} (hvm : u.vm.Alike U.vm) (h : fw_K w u) : fw_K w U := va_K.moved hvm h
theorem fw_St.warm {w : WP} {s U : State} {H H1 : Heap} (hW : s.WarmedH U.vm) (hq : ∀ a : Nat, a < H.size → ¬ fw_A w a → H1[a]? = H[a]?) (h : fw_St w s H) : fw_St w U H1 := by
  obtain ⟨⟨a1, a2⟩, ⟨b1, b2⟩, c1, d1, ⟨e1, e2, e3⟩, f1, g1⟩ := h
  have hv := hW.alike
  exact ⟨⟨(va_Z.moved hv a1).kept hq, (va_T.moved hv a2).kept hq⟩, ⟨(va_Z.moved hv b1).kept hq, (va_T.moved hv b2).kept hq⟩, (va_Z.moved hv c1).kept hq, (vk_S.moved hv d1).kept hq, ⟨e1.warm hW, e2.warm hW, e3.warm hW⟩, fun q hm => va_Nw.warmM hW (f1 q hm), fun q hm => va_Nw.warmF hW (g1 q hm)⟩
theorem fw_St.calling {w : WP} {U : State} {H : Heap} (g : JFrame) (mk : MethodId) (a : Array Value) (h : fw_St w U H) : fw_St w (U.calling g mk a) H := by
  obtain ⟨⟨a1, a2⟩, ⟨b1, b2⟩, c1, d1, ⟨e1, e2, e3⟩, f1, g1⟩ := h
  have hv : U.vm.Alike (U.calling g mk a).vm := Vm.Alike.refl U.vm
  exact ⟨⟨va_Z.moved hv a1, va_T.moved hv a2⟩, ⟨va_Z.moved hv b1, va_T.moved hv b2⟩, va_Z.moved hv c1, vk_S.moved hv d1, ⟨vk_R.same rfl e1, vk_R.same rfl e2, vk_R.same rfl e3⟩, fun q hm => va_Nw.same rfl rfl (f1 q hm), fun q hm => va_Nw.same rfl rfl (g1 q hm)⟩
theorem fw_W.blind (w : WP) (G : Mem) (av : List Value) : FrameBlind (va_Pc av (fw_W w G)) := fun a U g mk q => by
  obtain ⟨q0, qP, qK, qD, qS⟩ := q
  exact ⟨q0, qP, fw_K.moved (u := U) (U := U.calling g mk a) (Vm.Alike.refl U.vm) qK, qD, qS.calling g mk a⟩
/-- contracts: y, called with av in the world G, answers r (nothing) and leaves the world G' -/
def CMi (l : Launch) (y : MethodName) (b : ByteArray) (n : Nat) (ret : Option FieldType) (fr lo : Nat) (w : WP) (av : List Value) (G : Mem) (res : Int32 × Mem) : Prop :=
  Met l y (Cond.code y b n ret :: lw_tg) { frames := fr, cells := 0, slots := 0, locals := lo } (va_Pc av (fw_W w G)) (va_Qi (fun r1 G1 => (r1, G1) = res) (fw_B w) (fw_A w)) 0 0 (fw_A w)
def CMv (l : Launch) (y : MethodName) (b : ByteArray) (n : Nat) (ret : Option FieldType) (fr lo : Nat) (w : WP) (av : List Value) (G : Mem) (res : Mem) : Prop :=
  Met l y (Cond.code y b n ret :: lw_tg) { frames := fr, cells := 0, slots := 0, locals := lo } (va_Pc av (fw_W w G)) (va_Qv (fun G1 => G1 = res) (fw_B w) (fw_A w)) 0 0 (fw_A w)
/-- where a method's walk ends -/
def Qint (below : List Frame) (args : Array Value) (s : State) (w : WP) (res : Int32 × Mem) : State → Prop := MQ below (va_Qi (fun r1 G1 => (r1, G1) = res) (fw_B w) (fw_A w)) args s 0 0 (fw_A w)
def Qvoid (below : List Frame) (args : Array Value) (s : State) (w : WP) (res : Mem) : State → Prop := MQ below (va_Qv (fun G1 => G1 = res) (fw_B w) (fw_A w)) args s 0 0 (fw_A w)
/-- what a walk stands on -/
def fw_X (p : Program) (s : State) (m : MethodId) (args : Array Value) (c : Code) (cc : ByteArray) (nL : Nat) (own : String) (w : WP) : Prop :=
  CallFix p m c cc nL s args lw_tg own ∧ fw_K w s ∧ fw_inj w ∧ fw_St w s s.heap
/-- THE JUDGEMENT: from any heap that holds G, at pc with the locals lv and the stack st, the machine comes to Q -/
def J (p : Program) (l : Launch) (e : Env) (R : Room) (s : State) (m : MethodId) (args : Array Value) (below : List Frame) (meth : Method) (c : Code) (Q : State → Prop) (w : WP) (nL : Nat) (G : Mem) (pc : Nat) (lv : List (Nat × Value)) (st : List Value) : Prop :=
  ∀ (H : Heap) (locs : List Loc) (ls : Array Slot), va_P w.2.1 vwCl (fw_cells w G) H → va_S (fw_A w) s.heap H locs → lv_has ls nL lv → W p l e R s m args below meth c H locs 0 0 Q (F0 m pc ls st)
/-- array reads and writes; none: outside -/
def ald (n : Nat) (G : Mem) (k : Nat) (i : Int32) : Option Int32 := if i < 0 ∨ n ≤ i.toNatClampNeg then none else some (G k i.toNatClampNeg)
def ast (n : Nat) (G : Mem) (k : Nat) (i x : Int32) : Option Mem := if i < 0 ∨ n ≤ i.toNatClampNeg then none else some (upm G k i.toNatClampNeg x)
def aal (n b : Nat) (i : Int32) : Option Nat := if i < 0 ∨ n ≤ i.toNatClampNeg then none else some (b + i.toNatClampNeg)
def tld (f : Nat → Int32) (i : Int32) : Option Int32 := if i < 0 ∨ 8 ≤ i.toNatClampNeg then none else some (f i.toNatClampNeg)
theorem ald_s {n : Nat} {G : Mem} {k : Nat} {i v : Int32} (h : ald n G k i = some v) : vp_in i n ∧ v = G k i.toNatClampNeg := by
  unfold ald at h
  split at h
  · cases h
  · exact ⟨‹_›, (Option.some.inj h).symm⟩
theorem ast_s {n : Nat} {G G' : Mem} {k : Nat} {i x : Int32} (h : ast n G k i x = some G') : vp_in i n ∧ G' = upm G k i.toNatClampNeg x := by
  unfold ast at h
  split at h
  · cases h
  · exact ⟨‹_›, (Option.some.inj h).symm⟩
theorem aal_s {n b : Nat} {i : Int32} {c : Nat} (h : aal n b i = some c) : vp_in i n ∧ c = b + i.toNatClampNeg := by
  unfold aal at h
  split at h
  · cases h
  · exact ⟨‹_›, (Option.some.inj h).symm⟩
theorem tld_s {f : Nat → Int32} {i v : Int32} (h : tld f i = some v) : vp_in i 8 ∧ v = f i.toNatClampNeg := by
  unfold tld at h
  split at h
  · cases h
  · exact ⟨‹_›, (Option.some.inj h).symm⟩
theorem bd_s {α β γ : Type} {a : Option α} {f : α → Option β} {K : β → Option γ} {r : γ} (h : (a.bind f).bind K = some r) : ∃ v, a = some v ∧ (f v).bind K = some r := by
  cases a with
  | none => cases h
  | some v => exact ⟨v, rfl, h⟩
theorem bi_t {β γ : Type} {c : Prop} {d : Decidable c} {A B : Option β} {K : β → Option γ} {r : γ} (hc : c) (h : (@ite _ c d A B).bind K = some r) : A.bind K = some r := by
  rw [if_pos hc] at h
  exact h
theorem bi_f {β γ : Type} {c : Prop} {d : Decidable c} {A B : Option β} {K : β → Option γ} {r : γ} (hc : ¬ c) (h : (@ite _ c d A B).bind K = some r) : B.bind K = some r := by
  rw [if_neg hc] at h
  exact h
theorem bb_a {α β γ : Type} {a : Option α} {f : α → Option β} {K : β → Option γ} {r : γ} (h : (a.bind f).bind K = some r) : a.bind (fun v => (f v).bind K) = some r := by
  cases a with
  | none => cases h
  | some v => exact h
/-- an answer of type boolean is cut to its last bit -/
theorem W.zretN {p : Program} {l : Launch} {e : Env} {R : Room} {s : State} {m : MethodId} {args : Array Value} {below : List Frame} {meth : Method} {c : Code} {H : Heap} {locs : List Loc} {cells slots : Nat} {cc : ByteArray} {Qc : Array Value → State → Outcome → State → Prop} {free : Addr → Prop} {v v' : Int32} {ty : FieldType} (hexec : p.tables.exec = Jvm.exec) (hb : c.code = cc) (hr : meth.sig.returnType = some ty) (hn : narrow ty (.int v) = .int v')
    (hq : ∀ t : State, t.heap = H → s.WarmedH t.vm → Qc args s (.returned (some (.int v'))) t) (hf : ∀ q ∈ locs, free q.base)
    {pc : Nat} {ls : Array Slot} (hdg : decode cc pc = .ok (.ireturn, 1)) (hlocks : meth.locks = false) : W p l e R s m args below meth c H locs cells slots (MQ below Qc args s cells slots free) (F0 m pc ls [.int v]) := by
  intro T hT X
  have hlocks : meth.locks = false := hlocks
  obtain ⟨fs, hret, hrun, hended, hW, hframe⟩ := X.leave (v := some (.int v')) (fun h => by rw [hr] at h; cases h)
  have hmeth' : T.vm.method? m = some meth := X.method'
  refine ⟨T.setFrames fs, ?_, .returned (some (.int v')), hrun, hended, hq _ hT hW, locs, ⟨⟨_, rfl⟩, hW, hframe⟩, hf⟩
  jvm_step X.here [X.here.top, hexec, hb, hdg, hmeth', hr, hn]
  (try refine ⟨rfl, ?_⟩); (try refine ⟨rfl, ?_⟩)
  first | (intro acts; rw [hret _ acts rfl rfl rfl]) | rw [hret _ _ rfl rfl rfl]
  exact Steps.refl _
section JR
variable {p : Program} {l : Launch} {e : Env} {R : Room} {s : State} {m : MethodId} {args : Array Value} {below : List Frame} {meth : Method} {c : Code} {Q : State → Prop} {w : WP} {nL : Nat} {cc : ByteArray} {own : String} {G : Mem} {pc : Nat} {lv lv' : List (Nat × Value)} {st : List Value}
theorem j_iconst (X : fw_X p s m args c cc nL own w) {n : Int} {v : Int32} (hd : decode cc pc = .ok (.iconst n, 1)) (hv : Int32.ofInt n = v) (k : J p l e R s m args below meth c Q w nL G (pc + 1) lv (.int v :: st)) : J p l e R s m args below meth c Q w nL G pc lv st :=
  fun H locs ls hP hS hl => lv_iconst X.1.1 X.1.2.1 hd hv (k H locs ls hP hS hl)
theorem j_bipush (X : fw_X p s m args c cc nL own w) {n : Int} {v : Int32} (hd : decode cc pc = .ok (.bipush n, 2)) (hv : (Int8.ofInt n).toInt32 = v) (k : J p l e R s m args below meth c Q w nL G (pc + 2) lv (.int v :: st)) : J p l e R s m args below meth c Q w nL G pc lv st :=
  fun H locs ls hP hS hl => lv_bipush X.1.1 X.1.2.1 hd hv (k H locs ls hP hS hl)
theorem j_sipush (X : fw_X p s m args c cc nL own w) {n : Int} {v : Int32} (hd : decode cc pc = .ok (.sipush n, 3)) (hv : (Int16.ofInt n).toInt32 = v) (k : J p l e R s m args below meth c Q w nL G (pc + 3) lv (.int v :: st)) : J p l e R s m args below meth c Q w nL G pc lv st :=
  fun H locs ls hP hS hl => lv_sipush X.1.1 X.1.2.1 hd hv (k H locs ls hP hS hl)
theorem j_ldc (X : fw_X p s m args c cc nL own w) {index : Nat} {v : Int32} (hd : decode cc pc = .ok (.ldc index, 2)) (hw : Cond.constant own index v ∈ lw_tg) (k : J p l e R s m args below meth c Q w nL G (pc + 2) lv (.int v :: st)) : J p l e R s m args below meth c Q w nL G pc lv st :=
  fun H locs ls hP hS hl => lv_ldc X.1.1 X.1.2.1 X.1.2.2.2.1 (X.1.2.2.2.2 _ hw) hd (k H locs ls hP hS hl)
theorem j_iload_n (X : fw_X p s m args c cc nL own w) {j : Fin 4} {i : Nat} {x : Int32} (hd : decode cc pc = .ok (.iload_n j, 1)) (hi : (j : Nat) = i) (q : Nat) (hq : lv[q]? = some (i, .int x)) (k : J p l e R s m args below meth c Q w nL G (pc + 1) lv (.int x :: st)) : J p l e R s m args below meth c Q w nL G pc lv st :=
  fun H locs ls hP hS hl => lv_iload_n X.1.1 X.1.2.1 hd hi (lv_at hl q hq) (k H locs ls hP hS hl)
theorem j_iload (X : fw_X p s m args c cc nL own w) {i : Nat} {x : Int32} (hd : decode cc pc = .ok (.iload i, 2)) (q : Nat) (hq : lv[q]? = some (i, .int x)) (k : J p l e R s m args below meth c Q w nL G (pc + 2) lv (.int x :: st)) : J p l e R s m args below meth c Q w nL G pc lv st :=
  fun H locs ls hP hS hl => lv_iload X.1.1 X.1.2.1 hd (lv_at hl q hq) (k H locs ls hP hS hl)
theorem j_aload_n (X : fw_X p s m args c cc nL own w) {j : Fin 4} {i : Nat} {x : Nat} (hd : decode cc pc = .ok (.aload_n j, 1)) (hi : (j : Nat) = i) (q : Nat) (hq : lv[q]? = some (i, .ref x)) (k : J p l e R s m args below meth c Q w nL G (pc + 1) lv (.ref x :: st)) : J p l e R s m args below meth c Q w nL G pc lv st :=
  fun H locs ls hP hS hl => lv_aload_n X.1.1 X.1.2.1 hd hi (lv_at hl q hq) (k H locs ls hP hS hl)
theorem j_aload (X : fw_X p s m args c cc nL own w) {i : Nat} {x : Nat} (hd : decode cc pc = .ok (.aload i, 2)) (q : Nat) (hq : lv[q]? = some (i, .ref x)) (k : J p l e R s m args below meth c Q w nL G (pc + 2) lv (.ref x :: st)) : J p l e R s m args below meth c Q w nL G pc lv st :=
  fun H locs ls hP hS hl => lv_aload X.1.1 X.1.2.1 hd (lv_at hl q hq) (k H locs ls hP hS hl)
theorem j_istore_n (X : fw_X p s m args c cc nL own w) {j : Fin 4} {i : Nat} {x : Int32} (lv' : List (Nat × Value)) (hd : decode cc pc = .ok (.istore_n j, 1)) (hi : (j : Nat) = i) (hn : i < nL) (hl : (i, Value.int x) :: lv.filter (fun q => !(q.1 == i) && !(q.1 + 1 == i && q.2.category == 2)) = lv') (k : J p l e R s m args below meth c Q w nL G (pc + 1) lv' st) : J p l e R s m args below meth c Q w nL G pc lv (.int x :: st) :=
  fun H locs ls hP hS hv => lv_istore_n X.1.1 X.1.2.1 hd hi hv hn hl (fun ls' hv' => k H locs ls' hP hS hv')
theorem j_istore (X : fw_X p s m args c cc nL own w) {i : Nat} {x : Int32} (lv' : List (Nat × Value)) (hd : decode cc pc = .ok (.istore i, 2)) (hn : i < nL) (hl : (i, Value.int x) :: lv.filter (fun q => !(q.1 == i) && !(q.1 + 1 == i && q.2.category == 2)) = lv') (k : J p l e R s m args below meth c Q w nL G (pc + 2) lv' st) : J p l e R s m args below meth c Q w nL G pc lv (.int x :: st) :=
  fun H locs ls hP hS hv => lv_istore X.1.1 X.1.2.1 hd hv hn hl (fun ls' hv' => k H locs ls' hP hS hv')
theorem j_astore_n (X : fw_X p s m args c cc nL own w) {j : Fin 4} {i : Nat} {x : Nat} (lv' : List (Nat × Value)) (hd : decode cc pc = .ok (.astore_n j, 1)) (hi : (j : Nat) = i) (hn : i < nL) (hl : (i, Value.ref x) :: lv.filter (fun q => !(q.1 == i) && !(q.1 + 1 == i && q.2.category == 2)) = lv') (k : J p l e R s m args below meth c Q w nL G (pc + 1) lv' st) : J p l e R s m args below meth c Q w nL G pc lv (.ref x :: st) :=
  fun H locs ls hP hS hv => lv_astore_n X.1.1 X.1.2.1 hd hi hv hn hl (fun ls' hv' => k H locs ls' hP hS hv')
theorem j_astore (X : fw_X p s m args c cc nL own w) {i : Nat} {x : Nat} (lv' : List (Nat × Value)) (hd : decode cc pc = .ok (.astore i, 2)) (hn : i < nL) (hl : (i, Value.ref x) :: lv.filter (fun q => !(q.1 == i) && !(q.1 + 1 == i && q.2.category == 2)) = lv') (k : J p l e R s m args below meth c Q w nL G (pc + 2) lv' st) : J p l e R s m args below meth c Q w nL G pc lv (.ref x :: st) :=
  fun H locs ls hP hS hv => lv_astore X.1.1 X.1.2.1 hd hv hn hl (fun ls' hv' => k H locs ls' hP hS hv')
theorem j_iinc (X : fw_X p s m args c cc nL own w) {i : Nat} {n : Int} {x v : Int32} (lv' : List (Nat × Value)) (hd : decode cc pc = .ok (.iinc i n, 3)) (q : Nat) (hq : lv[q]? = some (i, .int x)) (hv : x + Int32.ofInt n = v) (hn : i < nL) (hl : (i, Value.int v) :: lv.filter (fun q => !(q.1 == i) && !(q.1 + 1 == i && q.2.category == 2)) = lv') (k : J p l e R s m args below meth c Q w nL G (pc + 3) lv' st) : J p l e R s m args below meth c Q w nL G pc lv st :=
  fun H locs ls hP hS hh => lv_iinc X.1.1 X.1.2.1 hd hh hq hv hn hl (fun ls' hv' => k H locs ls' hP hS hv')
theorem j_pick (ks : List Nat) (hl : lv_pick lv ks = lv') (k : J p l e R s m args below meth c Q w nL G pc lv' st) : J p l e R s m args below meth c Q w nL G pc lv st :=
  fun H locs ls hP hS hh => k H locs ls hP hS (lv_sub hh ks hl)
theorem j_iadd (X : fw_X p s m args c cc nL own w) {x y : Int32} (hd : decode cc pc = .ok (.iadd, 1)) (k : J p l e R s m args below meth c Q w nL G (pc + 1) lv (.int (x + y) :: st)) : J p l e R s m args below meth c Q w nL G pc lv (.int y :: .int x :: st) :=
  fun H locs ls hP hS hl => lv_iadd X.1.1 X.1.2.1 hd (k H locs ls hP hS hl)
theorem j_isub (X : fw_X p s m args c cc nL own w) {x y : Int32} (hd : decode cc pc = .ok (.isub, 1)) (k : J p l e R s m args below meth c Q w nL G (pc + 1) lv (.int (x - y) :: st)) : J p l e R s m args below meth c Q w nL G pc lv (.int y :: .int x :: st) :=
  fun H locs ls hP hS hl => lv_isub X.1.1 X.1.2.1 hd (k H locs ls hP hS hl)
theorem j_imul (X : fw_X p s m args c cc nL own w) {x y : Int32} (hd : decode cc pc = .ok (.imul, 1)) (k : J p l e R s m args below meth c Q w nL G (pc + 1) lv (.int (x * y) :: st)) : J p l e R s m args below meth c Q w nL G pc lv (.int y :: .int x :: st) :=
  fun H locs ls hP hS hl => lv_imul X.1.1 X.1.2.1 hd (k H locs ls hP hS hl)
theorem j_iand (X : fw_X p s m args c cc nL own w) {x y : Int32} (hd : decode cc pc = .ok (.iand, 1)) (k : J p l e R s m args below meth c Q w nL G (pc + 1) lv (.int (x &&& y) :: st)) : J p l e R s m args below meth c Q w nL G pc lv (.int y :: .int x :: st) :=
  fun H locs ls hP hS hl => lv_iand X.1.1 X.1.2.1 hd (k H locs ls hP hS hl)
theorem j_ior (X : fw_X p s m args c cc nL own w) {x y : Int32} (hd : decode cc pc = .ok (.ior, 1)) (k : J p l e R s m args below meth c Q w nL G (pc + 1) lv (.int (x ||| y) :: st)) : J p l e R s m args below meth c Q w nL G pc lv (.int y :: .int x :: st) :=
  fun H locs ls hP hS hl => lv_ior X.1.1 X.1.2.1 hd (k H locs ls hP hS hl)
theorem j_ixor (X : fw_X p s m args c cc nL own w) {x y : Int32} (hd : decode cc pc = .ok (.ixor, 1)) (k : J p l e R s m args below meth c Q w nL G (pc + 1) lv (.int (x ^^^ y) :: st)) : J p l e R s m args below meth c Q w nL G pc lv (.int y :: .int x :: st) :=
  fun H locs ls hP hS hl => lv_ixor X.1.1 X.1.2.1 hd (k H locs ls hP hS hl)
theorem j_ishl (X : fw_X p s m args c cc nL own w) {x y : Int32} (hd : decode cc pc = .ok (.ishl, 1)) (k : J p l e R s m args below meth c Q w nL G (pc + 1) lv (.int (x <<< (y &&& 31)) :: st)) : J p l e R s m args below meth c Q w nL G pc lv (.int y :: .int x :: st) :=
  fun H locs ls hP hS hl => lv_ishl X.1.1 X.1.2.1 hd (k H locs ls hP hS hl)
theorem j_ishr (X : fw_X p s m args c cc nL own w) {x y : Int32} (hd : decode cc pc = .ok (.ishr, 1)) (k : J p l e R s m args below meth c Q w nL G (pc + 1) lv (.int (x >>> (y &&& 31)) :: st)) : J p l e R s m args below meth c Q w nL G pc lv (.int y :: .int x :: st) :=
  fun H locs ls hP hS hl => lv_ishr X.1.1 X.1.2.1 hd (k H locs ls hP hS hl)
theorem j_irem (X : fw_X p s m args c cc nL own w) {x y : Int32} (hd : decode cc pc = .ok (.irem, 1)) (hy : ¬ y = 0) (k : J p l e R s m args below meth c Q w nL G (pc + 1) lv (.int (x - x / y * y) :: st)) : J p l e R s m args below meth c Q w nL G pc lv (.int y :: .int x :: st) :=
  fun H locs ls hP hS hl => lv_irem X.1.1 X.1.2.1 hd hy (k H locs ls hP hS hl)
theorem j_ineg (X : fw_X p s m args c cc nL own w) {x : Int32} (hd : decode cc pc = .ok (.ineg, 1)) (k : J p l e R s m args below meth c Q w nL G (pc + 1) lv (.int (-x) :: st)) : J p l e R s m args below meth c Q w nL G pc lv (.int x :: st) :=
  fun H locs ls hP hS hl => lv_ineg X.1.1 X.1.2.1 hd (k H locs ls hP hS hl)
theorem j_i2c (X : fw_X p s m args c cc nL own w) {x v : Int32} (hd : decode cc pc = .ok (.i2c, 1)) (hv : (x.toUInt32 % 65536).toInt32 = v) (k : J p l e R s m args below meth c Q w nL G (pc + 1) lv (.int v :: st)) : J p l e R s m args below meth c Q w nL G pc lv (.int x :: st) :=
  fun H locs ls hP hS hl => lv_i2c X.1.1 X.1.2.1 hd hv (k H locs ls hP hS hl)
theorem j_dup (X : fw_X p s m args c cc nL own w) {v : Value} (hd : decode cc pc = .ok (.dup, 1)) (hv : v.category = 1) (k : J p l e R s m args below meth c Q w nL G (pc + 1) lv (v :: v :: st)) : J p l e R s m args below meth c Q w nL G pc lv (v :: st) :=
  fun H locs ls hP hS hl => lv_dup X.1.1 X.1.2.1 hd hv (k H locs ls hP hS hl)
theorem j_dup2 (X : fw_X p s m args c cc nL own w) {v u : Value} (hd : decode cc pc = .ok (.dup2, 1)) (hv : v.category = 1) (hu : u.category = 1) (k : J p l e R s m args below meth c Q w nL G (pc + 1) lv (v :: u :: v :: u :: st)) : J p l e R s m args below meth c Q w nL G pc lv (v :: u :: st) :=
  fun H locs ls hP hS hl => lv_dup2_11 X.1.1 X.1.2.1 hd hv hu (k H locs ls hP hS hl)
theorem j_pop (X : fw_X p s m args c cc nL own w) {v : Value} (hd : decode cc pc = .ok (.pop, 1)) (hv : v.category = 1) (k : J p l e R s m args below meth c Q w nL G (pc + 1) lv st) : J p l e R s m args below meth c Q w nL G pc lv (v :: st) :=
  fun H locs ls hP hS hl => lv_pop X.1.1 X.1.2.1 hd hv (k H locs ls hP hS hl)
theorem j_if_eq (X : fw_X p s m args c cc nL own w) {x : Int32} {off : Int} (tgt : Nat) (hd : decode cc pc = .ok (.ifCond .eq off, 3)) (ht : (pc : Int) + off = (tgt : Int)) (kt : x = 0 → J p l e R s m args below meth c Q w nL G tgt lv st) (kf : ¬ x = 0 → J p l e R s m args below meth c Q w nL G (pc + 3) lv st) : J p l e R s m args below meth c Q w nL G pc lv (.int x :: st) :=
  fun H locs ls hP hS hl => lv_if_eq X.1.1 X.1.2.1 hd ht (fun q => kt q H locs ls hP hS hl) (fun q => kf q H locs ls hP hS hl)
theorem j_if_ne (X : fw_X p s m args c cc nL own w) {x : Int32} {off : Int} (tgt : Nat) (hd : decode cc pc = .ok (.ifCond .ne off, 3)) (ht : (pc : Int) + off = (tgt : Int)) (kt : ¬ x = 0 → J p l e R s m args below meth c Q w nL G tgt lv st) (kf : x = 0 → J p l e R s m args below meth c Q w nL G (pc + 3) lv st) : J p l e R s m args below meth c Q w nL G pc lv (.int x :: st) :=
  fun H locs ls hP hS hl => lv_if_ne X.1.1 X.1.2.1 hd ht (fun q => kt q H locs ls hP hS hl) (fun q => kf q H locs ls hP hS hl)
theorem j_if_lt (X : fw_X p s m args c cc nL own w) {x : Int32} {off : Int} (tgt : Nat) (hd : decode cc pc = .ok (.ifCond .lt off, 3)) (ht : (pc : Int) + off = (tgt : Int)) (kt : x < 0 → J p l e R s m args below meth c Q w nL G tgt lv st) (kf : ¬ x < 0 → J p l e R s m args below meth c Q w nL G (pc + 3) lv st) : J p l e R s m args below meth c Q w nL G pc lv (.int x :: st) :=
  fun H locs ls hP hS hl => lv_if_lt X.1.1 X.1.2.1 hd ht (fun q => kt q H locs ls hP hS hl) (fun q => kf q H locs ls hP hS hl)
theorem j_if_ge (X : fw_X p s m args c cc nL own w) {x : Int32} {off : Int} (tgt : Nat) (hd : decode cc pc = .ok (.ifCond .ge off, 3)) (ht : (pc : Int) + off = (tgt : Int)) (kt : 0 ≤ x → J p l e R s m args below meth c Q w nL G tgt lv st) (kf : ¬ 0 ≤ x → J p l e R s m args below meth c Q w nL G (pc + 3) lv st) : J p l e R s m args below meth c Q w nL G pc lv (.int x :: st) :=
  fun H locs ls hP hS hl => lv_if_ge X.1.1 X.1.2.1 hd ht (fun q => kt q H locs ls hP hS hl) (fun q => kf q H locs ls hP hS hl)
theorem j_if_gt (X : fw_X p s m args c cc nL own w) {x : Int32} {off : Int} (tgt : Nat) (hd : decode cc pc = .ok (.ifCond .gt off, 3)) (ht : (pc : Int) + off = (tgt : Int)) (kt : 0 < x → J p l e R s m args below meth c Q w nL G tgt lv st) (kf : ¬ 0 < x → J p l e R s m args below meth c Q w nL G (pc + 3) lv st) : J p l e R s m args below meth c Q w nL G pc lv (.int x :: st) :=
  fun H locs ls hP hS hl => lv_if_gt X.1.1 X.1.2.1 hd ht (fun q => kt q H locs ls hP hS hl) (fun q => kf q H locs ls hP hS hl)
theorem j_if_le (X : fw_X p s m args c cc nL own w) {x : Int32} {off : Int} (tgt : Nat) (hd : decode cc pc = .ok (.ifCond .le off, 3)) (ht : (pc : Int) + off = (tgt : Int)) (kt : x ≤ 0 → J p l e R s m args below meth c Q w nL G tgt lv st) (kf : ¬ x ≤ 0 → J p l e R s m args below meth c Q w nL G (pc + 3) lv st) : J p l e R s m args below meth c Q w nL G pc lv (.int x :: st) :=
  fun H locs ls hP hS hl => lv_if_le X.1.1 X.1.2.1 hd ht (fun q => kt q H locs ls hP hS hl) (fun q => kf q H locs ls hP hS hl)
theorem j_icmp_eq (X : fw_X p s m args c cc nL own w) {x y : Int32} {off : Int} (tgt : Nat) (hd : decode cc pc = .ok (.if_icmp .eq off, 3)) (ht : (pc : Int) + off = (tgt : Int)) (kt : x = y → J p l e R s m args below meth c Q w nL G tgt lv st) (kf : ¬ x = y → J p l e R s m args below meth c Q w nL G (pc + 3) lv st) : J p l e R s m args below meth c Q w nL G pc lv (.int y :: .int x :: st) :=
  fun H locs ls hP hS hl => lv_icmp_eq X.1.1 X.1.2.1 hd ht (fun q => kt q H locs ls hP hS hl) (fun q => kf q H locs ls hP hS hl)
theorem j_icmp_ne (X : fw_X p s m args c cc nL own w) {x y : Int32} {off : Int} (tgt : Nat) (hd : decode cc pc = .ok (.if_icmp .ne off, 3)) (ht : (pc : Int) + off = (tgt : Int)) (kt : ¬ x = y → J p l e R s m args below meth c Q w nL G tgt lv st) (kf : x = y → J p l e R s m args below meth c Q w nL G (pc + 3) lv st) : J p l e R s m args below meth c Q w nL G pc lv (.int y :: .int x :: st) :=
  fun H locs ls hP hS hl => lv_icmp_ne X.1.1 X.1.2.1 hd ht (fun q => kt q H locs ls hP hS hl) (fun q => kf q H locs ls hP hS hl)
theorem j_icmp_lt (X : fw_X p s m args c cc nL own w) {x y : Int32} {off : Int} (tgt : Nat) (hd : decode cc pc = .ok (.if_icmp .lt off, 3)) (ht : (pc : Int) + off = (tgt : Int)) (kt : x < y → J p l e R s m args below meth c Q w nL G tgt lv st) (kf : ¬ x < y → J p l e R s m args below meth c Q w nL G (pc + 3) lv st) : J p l e R s m args below meth c Q w nL G pc lv (.int y :: .int x :: st) :=
  fun H locs ls hP hS hl => lv_icmp_lt X.1.1 X.1.2.1 hd ht (fun q => kt q H locs ls hP hS hl) (fun q => kf q H locs ls hP hS hl)
theorem j_icmp_ge (X : fw_X p s m args c cc nL own w) {x y : Int32} {off : Int} (tgt : Nat) (hd : decode cc pc = .ok (.if_icmp .ge off, 3)) (ht : (pc : Int) + off = (tgt : Int)) (kt : y ≤ x → J p l e R s m args below meth c Q w nL G tgt lv st) (kf : ¬ y ≤ x → J p l e R s m args below meth c Q w nL G (pc + 3) lv st) : J p l e R s m args below meth c Q w nL G pc lv (.int y :: .int x :: st) :=
  fun H locs ls hP hS hl => lv_icmp_ge X.1.1 X.1.2.1 hd ht (fun q => kt q H locs ls hP hS hl) (fun q => kf q H locs ls hP hS hl)
theorem j_icmp_gt (X : fw_X p s m args c cc nL own w) {x y : Int32} {off : Int} (tgt : Nat) (hd : decode cc pc = .ok (.if_icmp .gt off, 3)) (ht : (pc : Int) + off = (tgt : Int)) (kt : y < x → J p l e R s m args below meth c Q w nL G tgt lv st) (kf : ¬ y < x → J p l e R s m args below meth c Q w nL G (pc + 3) lv st) : J p l e R s m args below meth c Q w nL G pc lv (.int y :: .int x :: st) :=
  fun H locs ls hP hS hl => lv_icmp_gt X.1.1 X.1.2.1 hd ht (fun q => kt q H locs ls hP hS hl) (fun q => kf q H locs ls hP hS hl)
theorem j_icmp_le (X : fw_X p s m args c cc nL own w) {x y : Int32} {off : Int} (tgt : Nat) (hd : decode cc pc = .ok (.if_icmp .le off, 3)) (ht : (pc : Int) + off = (tgt : Int)) (kt : x ≤ y → J p l e R s m args below meth c Q w nL G tgt lv st) (kf : ¬ x ≤ y → J p l e R s m args below meth c Q w nL G (pc + 3) lv st) : J p l e R s m args below meth c Q w nL G pc lv (.int y :: .int x :: st) :=
  fun H locs ls hP hS hl => lv_icmp_le X.1.1 X.1.2.1 hd ht (fun q => kt q H locs ls hP hS hl) (fun q => kf q H locs ls hP hS hl)
theorem j_goto (X : fw_X p s m args c cc nL own w) {off : Int} (tgt : Nat) (hd : decode cc pc = .ok (.goto off, 3)) (ht : (pc : Int) + off = (tgt : Int)) (k : J p l e R s m args below meth c Q w nL G tgt lv st) : J p l e R s m args below meth c Q w nL G pc lv st :=
  fun H locs ls hP hS hl => lv_goto X.1.1 X.1.2.1 hd ht (k H locs ls hP hS hl)
theorem j_tabOut (X : fw_X p s m args c cc nL own w) {dflt lo hi : Int} {offs : Array Int} {len : Nat} {x : Int32} (tgt : Nat) (hd : decode cc pc = .ok (.tableswitch dflt lo hi offs, len)) (h : x.toInt < lo ∨ hi < x.toInt) (ht : (pc : Int) + dflt = (tgt : Int)) (k : J p l e R s m args below meth c Q w nL G tgt lv st) : J p l e R s m args below meth c Q w nL G pc lv (.int x :: st) :=
  fun H locs ls hP hS hl => lv_tableOut X.1.1 X.1.2.1 hd h ht (k H locs ls hP hS hl)
theorem j_tabIn (X : fw_X p s m args c cc nL own w) {dflt lo hi off : Int} {offs : Array Int} {len : Nat} {x : Int32} (tgt : Nat) (hd : decode cc pc = .ok (.tableswitch dflt lo hi offs, len)) (h1 : ¬ x.toInt < lo) (h2 : ¬ hi < x.toInt) (ho : offs[(x.toInt - lo).toNat]? = some off) (ht : (pc : Int) + off = (tgt : Int)) (k : J p l e R s m args below meth c Q w nL G tgt lv st) : J p l e R s m args below meth c Q w nL G pc lv (.int x :: st) :=
  fun H locs ls hP hS hl => lv_tableIn X.1.1 X.1.2.1 hd h1 h2 ho ht (k H locs ls hP hS hl)
theorem j_getI (X : fw_X p s m args c cc nL own w) {C : String} {T : u_T} {N ci index : Nat} (k : Nat) {fs : List (Option Nat)} (hs : fw_lay[k]? = some (.inl (ci, fs))) (hc : vwCl[ci]? = some (C, T, N)) (hin : ∀ w ∈ u_ws C T N, w ∈ lw_tg) (j : Nat) (hj : j < N) (hf : fs[j]? = some none) (hl : Cond.fieldLink own index (T j).1 (T j).2.1 (T j).2.2.1 ∈ lw_tg) (hd : decode cc pc = .ok (.getfield index, 3)) (kk : J p l e R s m args below meth c Q w nL G (pc + 3) lv (.int (G k j) :: st)) : J p l e R s m args below meth c Q w nL G pc lv (.ref (w.1 k) :: st) :=
  fun H locs ls hP hS hv => va_get X.1.1 X.1.2.1 X.1.2.2.2.2 hin X.1.2.2.2.1 X.2.1 hP k (fw_getC w G hs) hc j hj (X.1.2.2.2.2 _ hl) (fun _ h => h) (fw_flI hf) hd (kk H locs ls hP hS hv)
theorem j_getR (X : fw_X p s m args c cc nL own w) {C : String} {T : u_T} {N ci index : Nat} (k : Nat) {fs : List (Option Nat)} (hs : fw_lay[k]? = some (.inl (ci, fs))) (hc : vwCl[ci]? = some (C, T, N)) (hin : ∀ w ∈ u_ws C T N, w ∈ lw_tg) (j : Nat) (hj : j < N) (k2 : Nat) (hf : fs[j]? = some (some k2)) (hl : Cond.fieldLink own index (T j).1 (T j).2.1 (T j).2.2.1 ∈ lw_tg) (hd : decode cc pc = .ok (.getfield index, 3)) (kk : J p l e R s m args below meth c Q w nL G (pc + 3) lv (.ref (w.1 k2) :: st)) : J p l e R s m args below meth c Q w nL G pc lv (.ref (w.1 k) :: st) :=
  fun H locs ls hP hS hv => va_get X.1.1 X.1.2.1 X.1.2.2.2.2 hin X.1.2.2.2.1 X.2.1 hP k (fw_getC w G hs) hc j hj (X.1.2.2.2.2 _ hl) (fun _ h => h) (fw_flR hf) hd (kk H locs ls hP hS hv)
theorem j_putI (X : fw_X p s m args c cc nL own w) {C : String} {T : u_T} {N ci index : Nat} {v : Int32} (ty0 : Nat → FieldType) (hty : ∀ k, k < N → parseFieldDescriptor (T k).2.2.1 = some (ty0 k)) (hnm : ∀ a, a < N → ∀ b, b < N → a ≠ b → (T a).2.1 ≠ (T b).2.1) (k : Nat) {fs : List (Option Nat)} (hs : fw_lay[k]? = some (.inl (ci, fs))) (hc : vwCl[ci]? = some (C, T, N)) (hin : ∀ w ∈ u_ws C T N, w ∈ lw_tg) (j : Nat) (hj : j < N) (hf : fs[j]? = some none) (hl : Cond.fieldLink own index (T j).1 (T j).2.1 (T j).2.2.1 ∈ lw_tg) (hfin : (T j).2.2.2 = false) (hde : parseFieldDescriptor (T j).2.2.1 = some .int) (hd : decode cc pc = .ok (.putfield index, 3)) (kk : J p l e R s m args below meth c Q w nL (upm G k j v) (pc + 3) lv st) : J p l e R s m args below meth c Q w nL G pc lv (.int v :: .ref (w.1 k) :: st) :=
  fun H locs ls hP hS hv => va_put X.1.1 X.1.2.1 X.1.2.2.2.2 hin ty0 hty hnm X.1.2.2.2.1 X.2.1 hP (fw_D w G X.2.2.1) hS k (fw_getC w G hs) hc j hj (X.1.2.2.2.2 _ hl) (fun _ h => h) hfin hde rfl rfl (fw_flL hf) hd (fun H1 locs1 hP1 _ hS1 => kk H1 locs1 ls (by
    have e : (fw_cells w G).set k (w.1 k, .inr (ci, (fw_fl w.1 fs (G k)).set j (.int v))) = fw_cells w (upm G k j v) := by
      rw [fw_flS hf]
      exact fw_setC w G hs (upd (G k) j v)
    rw [← e]
    exact hP1) hS1 hv)
theorem j_iald (X : fw_X p s m args c cc nL own w) (k n : Nat) {b : Nat} {i v : Int32} (hs : fw_lay[k]? = some (.inr (0, n, b))) (h : ald n G k i = some v) (hd : decode cc pc = .ok (.iaload, 1)) (kk : J p l e R s m args below meth c Q w nL G (pc + 1) lv (.int v :: st)) : J p l e R s m args below meth c Q w nL G pc lv (.int i :: .ref (w.1 k) :: st) :=
  fun H locs ls hP hS hv => va_iald X.1.1 X.1.2.1 X.2.1 hP k 0 (fw_getC w G hs) rfl (ald_s h).1 hd (by rw [← (ald_s h).2]; exact kk H locs ls hP hS hv)
theorem j_zald (X : fw_X p s m args c cc nL own w) (k n : Nat) {b : Nat} {i v : Int32} (hs : fw_lay[k]? = some (.inr (1, n, b))) (h : ald n G k i = some v) (hd : decode cc pc = .ok (.baload, 1)) (kk : J p l e R s m args below meth c Q w nL G (pc + 1) lv (.int v :: st)) : J p l e R s m args below meth c Q w nL G pc lv (.int i :: .ref (w.1 k) :: st) :=
  fun H locs ls hP hS hv => va_zald X.1.1 X.1.2.1 X.2.1 hP k 1 (fw_getC w G hs) rfl (ald_s h).1 hd (by rw [← (ald_s h).2]; exact kk H locs ls hP hS hv)
theorem j_iast (X : fw_X p s m args c cc nL own w) (k n : Nat) {b : Nat} {i x : Int32} {G' : Mem} (hs : fw_lay[k]? = some (.inr (0, n, b))) (h : ast n G k i x = some G') (hd : decode cc pc = .ok (.iastore, 1)) (kk : J p l e R s m args below meth c Q w nL G' (pc + 1) lv st) : J p l e R s m args below meth c Q w nL G pc lv (.int x :: .int i :: .ref (w.1 k) :: st) :=
  fun H locs ls hP hS hv => va_iast X.1.1 X.1.2.1 X.2.1 hP (fw_D w G X.2.2.1) hS k 0 (fw_getC w G hs) rfl (ast_s h).1 hd (fun H1 locs1 hP1 _ hS1 => kk H1 locs1 ls (by
    rw [(ast_s h).2]
    have e := fw_setC w G hs (upd (G k) i.toNatClampNeg x)
    exact e ▸ hP1) hS1 hv)
theorem j_zast (X : fw_X p s m args c cc nL own w) (k n : Nat) {b : Nat} {i x x' : Int32} {G' : Mem} (hs : fw_lay[k]? = some (.inr (1, n, b))) (hx : vp_nar .boolean x = x') (h : ast n G k i x' = some G') (hd : decode cc pc = .ok (.bastore, 1)) (kk : J p l e R s m args below meth c Q w nL G' (pc + 1) lv st) : J p l e R s m args below meth c Q w nL G pc lv (.int x :: .int i :: .ref (w.1 k) :: st) :=
  fun H locs ls hP hS hv => va_zast X.1.1 X.1.2.1 X.2.1 hP (fw_D w G X.2.2.1) hS k 1 (fw_getC w G hs) rfl (ast_s h).1 hd (fun H1 locs1 hP1 _ hS1 => kk H1 locs1 ls (by
    rw [(ast_s h).2]
    rw [hx] at hP1
    have e := fw_setC w G hs (upd (G k) i.toNatClampNeg x')
    exact e ▸ hP1) hS1 hv)
theorem j_aald (X : fw_X p s m args c cc nL own w) (k n b : Nat) {i : Int32} {k2 : Nat} (hs : fw_lay[k]? = some (.inr (2, n, b))) (h : aal n b i = some k2) (hd : decode cc pc = .ok (.aaload, 1)) (kk : J p l e R s m args below meth c Q w nL G (pc + 1) lv (.ref (w.1 k2) :: st)) : J p l e R s m args below meth c Q w nL G pc lv (.int i :: .ref (w.1 k) :: st) :=
  fun H locs ls hP hS hv => by
    have hin := (aal_s h).1
    have hlt : i.toNatClampNeg < n := Nat.not_le.mp fun q => hin (Or.inr q)
    have ha : (fw_cells w G)[k]? = some (w.1 k, .inl (w.2.2.1.2.2, n, .inr (.inr (.inr (.inr (fun j => if j < n then some (w.1 (b + j)) else none)))))) := fw_getC w G hs
    have hT : ArrOfT s w.2.2.1.2.2 (.array .int) := (X.2.1.2 2 _ rfl).1
    refine W.aald (v := .ref (w.1 k2)) (ty := .array .int) X.1.1 X.1.2.1 (hP k _ ha) (hT n (fun j => va_rf (if j < n then some (w.1 (b + j)) else none))) rfl (fun q => by cases q) (by show ¬ (i < 0 ∨ (arrV _ _ _).slots.size ≤ _); rw [arrV_size]; exact hin) (by show (arrV _ _ _).slots[_]? = _; rw [arrV_read _ _ hlt]; show some (va_rf (if i.toNatClampNeg < n then some (w.1 (b + i.toNatClampNeg)) else none)) = _; rw [if_pos hlt, (aal_s h).2]; rfl) rfl rfl hd (kk H locs ls hP hS hv)
theorem j_alenI (X : fw_X p s m args c cc nL own w) (k n : Nat) {b : Nat} {v : Int32} (hs : fw_lay[k]? = some (.inr (0, n, b))) (hv : Int32.ofNat n = v) (hd : decode cc pc = .ok (.arraylength, 1)) (kk : J p l e R s m args below meth c Q w nL G (pc + 1) lv (.int v :: st)) : J p l e R s m args below meth c Q w nL G pc lv (.ref (w.1 k) :: st) :=
  fun H locs ls hP hS hh => va_alen X.1.1 X.1.2.1 X.2.1 hP k 0 (fw_getC w G hs) rfl hv hd (kk H locs ls hP hS hh)
theorem j_alenR (X : fw_X p s m args c cc nL own w) (k n b : Nat) {v : Int32} (hs : fw_lay[k]? = some (.inr (2, n, b))) (hv : Int32.ofNat n = v) (hd : decode cc pc = .ok (.arraylength, 1)) (kk : J p l e R s m args below meth c Q w nL G (pc + 1) lv (.int v :: st)) : J p l e R s m args below meth c Q w nL G pc lv (.ref (w.1 k) :: st) :=
  fun H locs ls hP hS hh => va_alen X.1.1 X.1.2.1 X.2.1 hP k 2 (fw_getC w G hs) rfl hv hd (kk H locs ls hP hS hh)
theorem j_getsE (X : fw_X p s m args c cc nL own w) {index : Nat} (hm : (own, index, RX8, "EVENT_TO_LOOK", "[I", RX8) ∈ fw_nf) (hd : decode cc pc = .ok (.getstatic index, 3)) (kk : J p l e R s m args below meth c Q w nL G (pc + 3) lv (.ref w.2.2.2.1.1 :: st)) : J p l e R s m args below meth c Q w nL G pc lv st :=
  fun H locs ls hP hS hh => va_getsN X.1.1 X.1.2.1 X.2.2.2.1.1 hS X.1.2.2.2.1 (va_Nw.use rfl (X.2.2.2.2.2.2.2.2.2 _ hm)) (fun _ h => h) hd (kk H locs ls hP hS hh)
theorem j_getsK (X : fw_X p s m args c cc nL own w) {index : Nat} (hm : (own, index, RX8, "LOOK_TO_NOW", "[I", RX8) ∈ fw_nf) (hd : decode cc pc = .ok (.getstatic index, 3)) (kk : J p l e R s m args below meth c Q w nL G (pc + 3) lv (.ref w.2.2.2.1.2 :: st)) : J p l e R s m args below meth c Q w nL G pc lv st :=
  fun H locs ls hP hS hh => va_getsN X.1.1 X.1.2.1 X.2.2.2.2.1.1 hS X.1.2.2.2.1 (va_Nw.use rfl (X.2.2.2.2.2.2.2.2.2 _ hm)) (fun _ h => h) hd (kk H locs ls hP hS hh)
theorem j_tabE (X : fw_X p s m args c cc nL own w) {i v : Int32} (h : tld ev_tab i = some v) (hd : decode cc pc = .ok (.iaload, 1)) (kk : J p l e R s m args below meth c Q w nL G (pc + 1) lv (.int v :: st)) : J p l e R s m args below meth c Q w nL G pc lv (.int i :: .ref w.2.2.2.1.1 :: st) :=
  fun H locs ls hP hS hh => va_ti X.1.1 X.1.2.1 X.2.2.2.1.2 hS (tld_s h).1 (by rw [(tld_s h).2]) hd (kk H locs ls hP hS hh)
theorem j_tabK (X : fw_X p s m args c cc nL own w) {i v : Int32} (h : tld lk_tab i = some v) (hd : decode cc pc = .ok (.iaload, 1)) (kk : J p l e R s m args below meth c Q w nL G (pc + 1) lv (.int v :: st)) : J p l e R s m args below meth c Q w nL G pc lv (.int i :: .ref w.2.2.2.1.2 :: st) :=
  fun H locs ls hP hS hh => va_ti X.1.1 X.1.2.1 X.2.2.2.2.1.2 hS (tld_s h).1 (by rw [(tld_s h).2]) hd (kk H locs ls hP hS hh)
theorem j_mmax (X : fw_X p s m args c cc nL own w) {index : Nat} {x y : Int32} (h1 : Cond.methodLink own index Lib.Math.max.name ∈ lw_tg) (h2 : Cond.static Lib.Math.max.name ∈ lw_tg) (h3 : Cond.initialized "java/lang/Math" ∈ lw_tg) (h4 : Cond.code Lib.Math.max.name Lib.Math.max.code 2 (some .int) ∈ lw_tg) (hf : 1 ≤ R.frames) (hlo : (st.map fun v => v.category).sum + 13 ≤ R.locals) (hd : decode cc pc = .ok (.invokestatic index, 3)) (kk : J p l e R s m args below meth c Q w nL G (pc + 3) lv (.int (if x < y then y else x) :: st)) : J p l e R s m args below meth c Q w nL G pc lv (.int y :: .int x :: st) :=
  fun H locs ls hP hS hh => va_mmax X.1.1 X.1.2.1 (by rw [X.1.2.2.1, hh.1]) X.1.2.2.2.1 (X.1.2.2.2.2 _ h1) (X.1.2.2.2.2 _ h2) (X.1.2.2.2.2 _ h3) (X.1.2.2.2.2 _ h4) hf hlo (Nat.zero_le _) (Nat.zero_le _) hd (kk H locs ls hP hS hh)
theorem j_mmin (X : fw_X p s m args c cc nL own w) {index : Nat} {x y : Int32} (h1 : Cond.methodLink own index Lib.Math.min.name ∈ lw_tg) (h2 : Cond.static Lib.Math.min.name ∈ lw_tg) (h3 : Cond.initialized "java/lang/Math" ∈ lw_tg) (h4 : Cond.code Lib.Math.min.name Lib.Math.min.code 2 (some .int) ∈ lw_tg) (hf : 1 ≤ R.frames) (hlo : (st.map fun v => v.category).sum + 13 ≤ R.locals) (hd : decode cc pc = .ok (.invokestatic index, 3)) (kk : J p l e R s m args below meth c Q w nL G (pc + 3) lv (.int (if y < x then y else x) :: st)) : J p l e R s m args below meth c Q w nL G pc lv (.int y :: .int x :: st) :=
  fun H locs ls hP hS hh => va_mmin X.1.1 X.1.2.1 (by rw [X.1.2.2.1, hh.1]) X.1.2.2.2.1 (X.1.2.2.2.2 _ h1) (X.1.2.2.2.2 _ h2) (X.1.2.2.2.2 _ h3) (X.1.2.2.2.2 _ h4) hf hlo (Nat.zero_le _) (Nat.zero_le _) hd (kk H locs ls hP hS hh)
theorem j_callVi (X : fw_X p s m args c cc nL own w) {y : MethodName} {bytes : ByteArray} {maxL fr lo index : Nat} {ret : Option FieldType} {As rest : List Value} {res : Int32 × Mem} {C : String} {T : u_T} {N ci : Nat} (k : Nat) {fs : List (Option Nat)} (hs : fw_lay[k]? = some (.inl (ci, fs))) (hc : vwCl[ci]? = some (C, T, N)) (hM : CMi l y bytes maxL ret fr lo w (.ref (w.1 k) :: As) G res) (hy : y.cls = C) (hd0 : y.cls ≠ "java/lang/invoke/MethodHandle" ∧ y.cls ≠ "java/lang/invoke/VarHandle" ∧ (parseMethodDescriptor y.desc).map (fun d => d.parameters.length) = some As.length) (h1 : Cond.methodLink own index y ∈ lw_tg) (h2 : Cond.instanceMethod y ∈ lw_tg) (h3 : Cond.selects y.cls y y ∈ lw_tg) (h4 : Cond.initialized y.cls ∈ lw_tg) (h5 : Cond.code y bytes maxL ret ∈ lw_tg) (hR : fr + 1 ≤ R.frames ∧ 8 + (maxL + 11) + lo ≤ R.locals) (hwd : (rest.map fun v => v.category).sum ≤ 8) (hst : st = As.reverse ++ .ref (w.1 k) :: rest) (hd : decode cc pc = .ok (.invokevirtual index, 3)) (kk : J p l e R s m args below meth c Q w nL res.2 (pc + 3) lv (.int res.1 :: rest)) : J p l e R s m args below meth c Q w nL G pc lv st := by
  subst hy
  subst hst
  intro H locs ls hP hS hl
  exact va_calli (va_runV (As := As) (rest := rest) X.1 hM (⟨callB_of As.length X.1.2.2.2.2 (tg_good h5) rfl rfl rfl (X.1.2.2.2.2 _ h4) (X.1.2.2.2.2 _ h1) hd0 hR, X.1.2.2.2.2 _ h2, X.1.2.2.2.2 _ h3⟩) ⟨fw_W.blind w G _, va_recv X.2.1 hP hc (fw_getC w G hs), fun U hU hW => ⟨rfl, by rw [hU]; exact hP, X.2.1.moved hW.alike, X.2.2.1, by rw [hU]; exact X.2.2.2.warm hW hS.2.1⟩⟩ rfl rfl hl.1 rfl (lv_room hwd) hd ⟨Nat.zero_le _, Nat.zero_le _⟩) hS (fun q _ h => h) (fun q h => h) (fun r u t H1 locs1 ht _ hw hB _ _ hS1 => by
    subst hw
    exact kk H1 locs1 ls (by rw [← ht]; exact hB) hS1 hl)
theorem j_callSi (X : fw_X p s m args c cc nL own w) {y : MethodName} {bytes : ByteArray} {maxL fr lo index : Nat} {ret : Option FieldType} {As rest : List Value} {res : Int32 × Mem} (hM : CMi l y bytes maxL ret fr lo w As G res) (hd0 : y.cls ≠ "java/lang/invoke/MethodHandle" ∧ y.cls ≠ "java/lang/invoke/VarHandle" ∧ (parseMethodDescriptor y.desc).map (fun d => d.parameters.length) = some As.length) (h1 : Cond.methodLink own index y ∈ lw_tg) (h2 : Cond.static y ∈ lw_tg) (h4 : Cond.initialized y.cls ∈ lw_tg) (h5 : Cond.code y bytes maxL ret ∈ lw_tg) (hR : fr + 1 ≤ R.frames ∧ 8 + (maxL + 11) + lo ≤ R.locals) (hwd : (rest.map fun v => v.category).sum ≤ 8) (hst : st = As.reverse ++ rest) (hd : decode cc pc = .ok (.invokestatic index, 3)) (kk : J p l e R s m args below meth c Q w nL res.2 (pc + 3) lv (.int res.1 :: rest)) : J p l e R s m args below meth c Q w nL G pc lv st := by
  subst hst
  intro H locs ls hP hS hl
  exact va_calli (va_runS (As := As) (rest := rest) X.1 hM (⟨callB_of As.length X.1.2.2.2.2 (tg_good h5) rfl rfl rfl (X.1.2.2.2.2 _ h4) (X.1.2.2.2.2 _ h1) hd0 hR, X.1.2.2.2.2 _ h2⟩) ⟨fw_W.blind w G _, fun U hU hW => ⟨rfl, by rw [hU]; exact hP, X.2.1.moved hW.alike, X.2.2.1, by rw [hU]; exact X.2.2.2.warm hW hS.2.1⟩⟩ rfl rfl hl.1 rfl (lv_room hwd) hd ⟨Nat.zero_le _, Nat.zero_le _⟩) hS (fun q _ h => h) (fun q h => h) (fun r u t H1 locs1 ht _ hw hB _ _ hS1 => by
    subst hw
    exact kk H1 locs1 ls (by rw [← ht]; exact hB) hS1 hl)
theorem j_callNi (X : fw_X p s m args c cc nL own w) {y : MethodName} {bytes : ByteArray} {maxL fr lo index : Nat} {ret : Option FieldType} {As rest : List Value} {res : Int32 × Mem} {host : String} (hM : CMi l y bytes maxL ret fr lo w As G res) (hd0 : y.cls ≠ "java/lang/invoke/MethodHandle" ∧ y.cls ≠ "java/lang/invoke/VarHandle" ∧ (parseMethodDescriptor y.desc).map (fun d => d.parameters.length) = some As.length) (h1 : (own, index, y, host) ∈ fw_nm) (h2 : Cond.static y ∈ lw_tg) (h4 : Cond.initialized y.cls ∈ lw_tg) (h5 : Cond.code y bytes maxL ret ∈ lw_tg) (hR : fr + 1 ≤ R.frames ∧ 8 + (maxL + 11) + lo ≤ R.locals) (hwd : (rest.map fun v => v.category).sum ≤ 8) (hst : st = As.reverse ++ rest) (hd : decode cc pc = .ok (.invokestatic index, 3)) (kk : J p l e R s m args below meth c Q w nL res.2 (pc + 3) lv (.int res.1 :: rest)) : J p l e R s m args below meth c Q w nL G pc lv st := by
  subst hst
  intro H locs ls hP hS hl
  exact va_calli (va_runSN (As := As) (rest := rest) X.1 hM (⟨va_cnB As.length X.1.2.2.2.2 (tg_good h5) rfl rfl rfl (X.2.2.2.2.2.2.2.2.1 _ h1) (X.1.2.2.2.2 _ h4) hd0 hR, X.1.2.2.2.2 _ h2, trivial⟩) ⟨fw_W.blind w G _, fun U hU hW => ⟨rfl, by rw [hU]; exact hP, X.2.1.moved hW.alike, X.2.2.1, by rw [hU]; exact X.2.2.2.warm hW hS.2.1⟩⟩ rfl rfl hl.1 rfl (lv_room hwd) hd ⟨Nat.zero_le _, Nat.zero_le _⟩) hS (fun q _ h => h) (fun q h => h) (fun r u t H1 locs1 ht _ hw hB _ _ hS1 => by
    subst hw
    exact kk H1 locs1 ls (by rw [← ht]; exact hB) hS1 hl)
theorem j_callVv (X : fw_X p s m args c cc nL own w) {y : MethodName} {bytes : ByteArray} {maxL fr lo index : Nat} {ret : Option FieldType} {As rest : List Value} {res : Mem} {C : String} {T : u_T} {N ci : Nat} (k : Nat) {fs : List (Option Nat)} (hs : fw_lay[k]? = some (.inl (ci, fs))) (hc : vwCl[ci]? = some (C, T, N)) (hM : CMv l y bytes maxL ret fr lo w (.ref (w.1 k) :: As) G res) (hy : y.cls = C) (hd0 : y.cls ≠ "java/lang/invoke/MethodHandle" ∧ y.cls ≠ "java/lang/invoke/VarHandle" ∧ (parseMethodDescriptor y.desc).map (fun d => d.parameters.length) = some As.length) (h1 : Cond.methodLink own index y ∈ lw_tg) (h2 : Cond.instanceMethod y ∈ lw_tg) (h3 : Cond.selects y.cls y y ∈ lw_tg) (h4 : Cond.initialized y.cls ∈ lw_tg) (h5 : Cond.code y bytes maxL ret ∈ lw_tg) (hR : fr + 1 ≤ R.frames ∧ 8 + (maxL + 11) + lo ≤ R.locals) (hwd : (rest.map fun v => v.category).sum ≤ 8) (hst : st = As.reverse ++ .ref (w.1 k) :: rest) (hd : decode cc pc = .ok (.invokevirtual index, 3)) (kk : J p l e R s m args below meth c Q w nL res (pc + 3) lv rest) : J p l e R s m args below meth c Q w nL G pc lv st := by
  subst hy
  subst hst
  intro H locs ls hP hS hl
  exact va_callv (va_runV (As := As) (rest := rest) X.1 hM (⟨callB_of As.length X.1.2.2.2.2 (tg_good h5) rfl rfl rfl (X.1.2.2.2.2 _ h4) (X.1.2.2.2.2 _ h1) hd0 hR, X.1.2.2.2.2 _ h2, X.1.2.2.2.2 _ h3⟩) ⟨fw_W.blind w G _, va_recv X.2.1 hP hc (fw_getC w G hs), fun U hU hW => ⟨rfl, by rw [hU]; exact hP, X.2.1.moved hW.alike, X.2.2.1, by rw [hU]; exact X.2.2.2.warm hW hS.2.1⟩⟩ rfl rfl hl.1 rfl (lv_room hwd) hd ⟨Nat.zero_le _, Nat.zero_le _⟩) hS (fun q _ h => h) (fun q h => h) (fun u t H1 locs1 ht _ hw hB _ _ hS1 => by
    subst hw
    exact kk H1 locs1 ls (by rw [← ht]; exact hB) hS1 hl)
theorem j_callSv (X : fw_X p s m args c cc nL own w) {y : MethodName} {bytes : ByteArray} {maxL fr lo index : Nat} {ret : Option FieldType} {As rest : List Value} {res : Mem} (hM : CMv l y bytes maxL ret fr lo w As G res) (hd0 : y.cls ≠ "java/lang/invoke/MethodHandle" ∧ y.cls ≠ "java/lang/invoke/VarHandle" ∧ (parseMethodDescriptor y.desc).map (fun d => d.parameters.length) = some As.length) (h1 : Cond.methodLink own index y ∈ lw_tg) (h2 : Cond.static y ∈ lw_tg) (h4 : Cond.initialized y.cls ∈ lw_tg) (h5 : Cond.code y bytes maxL ret ∈ lw_tg) (hR : fr + 1 ≤ R.frames ∧ 8 + (maxL + 11) + lo ≤ R.locals) (hwd : (rest.map fun v => v.category).sum ≤ 8) (hst : st = As.reverse ++ rest) (hd : decode cc pc = .ok (.invokestatic index, 3)) (kk : J p l e R s m args below meth c Q w nL res (pc + 3) lv rest) : J p l e R s m args below meth c Q w nL G pc lv st := by
  subst hst
  intro H locs ls hP hS hl
  exact va_callv (va_runS (As := As) (rest := rest) X.1 hM (⟨callB_of As.length X.1.2.2.2.2 (tg_good h5) rfl rfl rfl (X.1.2.2.2.2 _ h4) (X.1.2.2.2.2 _ h1) hd0 hR, X.1.2.2.2.2 _ h2⟩) ⟨fw_W.blind w G _, fun U hU hW => ⟨rfl, by rw [hU]; exact hP, X.2.1.moved hW.alike, X.2.2.1, by rw [hU]; exact X.2.2.2.warm hW hS.2.1⟩⟩ rfl rfl hl.1 rfl (lv_room hwd) hd ⟨Nat.zero_le _, Nat.zero_le _⟩) hS (fun q _ h => h) (fun q h => h) (fun u t H1 locs1 ht _ hw hB _ _ hS1 => by
    subst hw
    exact kk H1 locs1 ls (by rw [← ht]; exact hB) hS1 hl)
theorem j_callNv (X : fw_X p s m args c cc nL own w) {y : MethodName} {bytes : ByteArray} {maxL fr lo index : Nat} {ret : Option FieldType} {As rest : List Value} {res : Mem} {host : String} (hM : CMv l y bytes maxL ret fr lo w As G res) (hd0 : y.cls ≠ "java/lang/invoke/MethodHandle" ∧ y.cls ≠ "java/lang/invoke/VarHandle" ∧ (parseMethodDescriptor y.desc).map (fun d => d.parameters.length) = some As.length) (h1 : (own, index, y, host) ∈ fw_nm) (h2 : Cond.static y ∈ lw_tg) (h4 : Cond.initialized y.cls ∈ lw_tg) (h5 : Cond.code y bytes maxL ret ∈ lw_tg) (hR : fr + 1 ≤ R.frames ∧ 8 + (maxL + 11) + lo ≤ R.locals) (hwd : (rest.map fun v => v.category).sum ≤ 8) (hst : st = As.reverse ++ rest) (hd : decode cc pc = .ok (.invokestatic index, 3)) (kk : J p l e R s m args below meth c Q w nL res (pc + 3) lv rest) : J p l e R s m args below meth c Q w nL G pc lv st := by
  subst hst
  intro H locs ls hP hS hl
  exact va_callv (va_runSN (As := As) (rest := rest) X.1 hM (⟨va_cnB As.length X.1.2.2.2.2 (tg_good h5) rfl rfl rfl (X.2.2.2.2.2.2.2.2.1 _ h1) (X.1.2.2.2.2 _ h4) hd0 hR, X.1.2.2.2.2 _ h2, trivial⟩) ⟨fw_W.blind w G _, fun U hU hW => ⟨rfl, by rw [hU]; exact hP, X.2.1.moved hW.alike, X.2.2.1, by rw [hU]; exact X.2.2.2.warm hW hS.2.1⟩⟩ rfl rfl hl.1 rfl (lv_room hwd) hd ⟨Nat.zero_le _, Nat.zero_le _⟩) hS (fun q _ h => h) (fun q h => h) (fun u t H1 locs1 ht _ hw hB _ _ hS1 => by
    subst hw
    exact kk H1 locs1 ls (by rw [← ht]; exact hB) hS1 hl)
end JR
section JE
variable {p : Program} {l : Launch} {e : Env} {R : Room} {s : State} {m : MethodId} {args : Array Value} {below : List Frame} {meth : Method} {c : Code} {w : WP} {nL : Nat} {cc : ByteArray} {own : String} {G : Mem} {pc : Nat} {lv : List (Nat × Value)}
theorem j_iret (X : fw_X p s m args c cc nL own w) {v : Int32} {res : Int32 × Mem} (hr : meth.sig.returnType = some .int) (hk : meth.locks = false) (hd : decode cc pc = .ok (.ireturn, 1)) (h : (v, G) = res) : J p l e R s m args below meth c (Qint below args s w res) w nL G pc lv [.int v] :=
  fun H locs ls hP hS hl => W.iret X.1.1 X.1.2.1 hr (fun t ht hW => ⟨⟨v, G, rfl, h, by show va_P _ _ _ t.heap; rw [ht]; exact hP⟩, hS.F ht⟩) hS.2.2 hd hk
theorem j_zret (X : fw_X p s m args c cc nL own w) {v v' : Int32} {res : Int32 × Mem} (hr : meth.sig.returnType = some .boolean) (hk : meth.locks = false) (hn : v &&& 1 = v') (hd : decode cc pc = .ok (.ireturn, 1)) (h : (v', G) = res) : J p l e R s m args below meth c (Qint below args s w res) w nL G pc lv [.int v] :=
  fun H locs ls hP hS hl => W.zretN X.1.1 X.1.2.1 hr (by rw [← hn]; rfl) (fun t ht hW => ⟨⟨v', G, rfl, h, by show va_P _ _ _ t.heap; rw [ht]; exact hP⟩, hS.F ht⟩) hS.2.2 hd hk
theorem j_vret (X : fw_X p s m args c cc nL own w) {res : Mem} (hr : meth.sig.returnType = none) (hk : meth.locks = false) (hd : decode cc pc = .ok (.return_, 1)) (h : G = res) : J p l e R s m args below meth c (Qvoid below args s w res) w nL G pc lv [] :=
  fun H locs ls hP hS hl => W.vret X.1.1 X.1.2.1 hr (fun t ht hW => ⟨⟨G, rfl, h, by show va_P _ _ _ t.heap; rw [ht]; exact hP⟩, hS.F ht⟩) hS.2.2 hd hk
end JE
/-- a contract out of a walk -/
theorem CMi.of {l : Launch} {y : MethodName} {cc : ByteArray} {nL : Nat} {ret : Option FieldType} {fr lo : Nat} {w : WP} {av : List Value} {G : Mem} {res : Int32 × Mem} (hy : plainName y.cls = true) (hn : (lg_sl av).length ≤ nL)
    (body : ∀ (p : Program) (e : Env) (s : State) (m : MethodId) (args : Array Value) (below : List Frame) (meth : Method) (c : Code), fw_X p s m args c cc nL y.cls w → meth.sig.returnType = ret → meth.locks = false → J p l e { frames := fr, cells := 0, slots := 0, locals := lo } s m args below meth c (Qint below args s w res) w nL G 0 (lv_args 0 av) []) : CMi l y cc nL ret fr lo w av G res := by
  refine Met.ofW (cc := cc) (maxL := nL) (ret := ret) hy rfl ?_
  intro p e s m args below meth c s₁ B hml hv
  obtain ⟨rfl, hP, hK, hD, hSt⟩ := hv
  have hts := atoms_spec (ws := Cond.code y cc nL ret :: lw_tg) B.pre
  have hown : s.vm.findClass y.cls = some m.cls := findClass_of_methodNamed B.named
  have hl := lv_entry av (n := nL) hn
  rw [lg_entry_eq]
  exact body p e s m _ below meth c ⟨⟨B.exec, B.bytes, hml, hown, fun w hw => hts w (List.mem_cons_of_mem _ hw)⟩, hK, hD, hSt⟩ B.returns B.notSynchronized s.heap [] _ hP va_S.rf hl
theorem CMv.of {l : Launch} {y : MethodName} {cc : ByteArray} {nL : Nat} {ret : Option FieldType} {fr lo : Nat} {w : WP} {av : List Value} {G : Mem} {res : Mem} (hy : plainName y.cls = true) (hn : (lg_sl av).length ≤ nL)
    (body : ∀ (p : Program) (e : Env) (s : State) (m : MethodId) (args : Array Value) (below : List Frame) (meth : Method) (c : Code), fw_X p s m args c cc nL y.cls w → meth.sig.returnType = ret → meth.locks = false → J p l e { frames := fr, cells := 0, slots := 0, locals := lo } s m args below meth c (Qvoid below args s w res) w nL G 0 (lv_args 0 av) []) : CMv l y cc nL ret fr lo w av G res := by
  refine Met.ofW (cc := cc) (maxL := nL) (ret := ret) hy rfl ?_
  intro p e s m args below meth c s₁ B hml hv
  obtain ⟨rfl, hP, hK, hD, hSt⟩ := hv
  have hts := atoms_spec (ws := Cond.code y cc nL ret :: lw_tg) B.pre
  have hown : s.vm.findClass y.cls = some m.cls := findClass_of_methodNamed B.named
  have hl := lv_entry av (n := nL) hn
  rw [lg_entry_eq]
  exact body p e s m _ below meth c ⟨⟨B.exec, B.bytes, hml, hown, fun w hw => hts w (List.mem_cons_of_mem _ hw)⟩, hK, hD, hSt⟩ B.returns B.notSynchronized s.heap [] _ hP va_S.rf hl
end
