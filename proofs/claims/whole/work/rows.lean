section
-- ===== PART A: goes FIRST, ahead of the names: the tables' words, and 'selects' of the private methods out of them =====
/-- a private method of a class that the tables say can be made, by its rows of tables_1 -/
def lw_okq (q : MethodName × Nat) : Prop := (q.1.cls ≠ "java/lang/invoke/MethodHandle" ∧ q.1.cls ≠ "java/lang/invoke/VarHandle") ∧ Cond.instantiable q.1.cls q.2 ∈ tables_1 ∧ Cond.privateMethod q.1 ∈ tables_1 ∧ Cond.instanceMethod q.1 ∈ tables_1
theorem lw_p0 : lw_okq (⟨"HeadSplits", "firstFault", "()I"⟩, 14) := ⟨⟨by decide +kernel, by decide +kernel⟩, List.mem_of_getElem? (i := 17) (by decide +kernel), List.mem_of_getElem? (i := 322) (by decide +kernel), List.mem_of_getElem? (i := 323) (by decide +kernel)⟩
theorem lw_p1 : lw_okq (⟨"HeadSplits", "pourPad", "()V"⟩, 14) := ⟨⟨by decide +kernel, by decide +kernel⟩, List.mem_of_getElem? (i := 17) (by decide +kernel), List.mem_of_getElem? (i := 337) (by decide +kernel), List.mem_of_getElem? (i := 338) (by decide +kernel)⟩
theorem lw_p2 : lw_okq (⟨"HeadSplits", "needsOrRowsChanged", "()V"⟩, 14) := ⟨⟨by decide +kernel, by decide +kernel⟩, List.mem_of_getElem? (i := 17) (by decide +kernel), List.mem_of_getElem? (i := 341) (by decide +kernel), List.mem_of_getElem? (i := 342) (by decide +kernel)⟩
theorem lw_p3 : lw_okq (⟨"HeadSplits", "machineChanged", "()V"⟩, 14) := ⟨⟨by decide +kernel, by decide +kernel⟩, List.mem_of_getElem? (i := 17) (by decide +kernel), List.mem_of_getElem? (i := 363) (by decide +kernel), List.mem_of_getElem? (i := 364) (by decide +kernel)⟩
theorem lw_p4 : lw_okq (⟨"HeadSplits$Shorts", "meet", "(III)V"⟩, 7) := ⟨⟨by decide +kernel, by decide +kernel⟩, List.mem_of_getElem? (i := 113) (by decide +kernel), List.mem_of_getElem? (i := 398) (by decide +kernel), List.mem_of_getElem? (i := 399) (by decide +kernel)⟩
theorem lw_p5 : lw_okq (⟨"HeadSplits$Row", "makeRoom", "(I)Z"⟩, 2) := ⟨⟨by decide +kernel, by decide +kernel⟩, List.mem_of_getElem? (i := 25) (by decide +kernel), List.mem_of_getElem? (i := 423) (by decide +kernel), List.mem_of_getElem? (i := 424) (by decide +kernel)⟩
theorem lw_p6 : lw_okq (⟨"HeadSplits$Tally", "countRow", "(LHeadSplits$Row;I)V"⟩, 2) := ⟨⟨by decide +kernel, by decide +kernel⟩, List.mem_of_getElem? (i := 242) (by decide +kernel), List.mem_of_getElem? (i := 439) (by decide +kernel), List.mem_of_getElem? (i := 440) (by decide +kernel)⟩
theorem lw_p7 : lw_okq (⟨"HeadSplits", "refreshNet", "()V"⟩, 14) := ⟨⟨by decide +kernel, by decide +kernel⟩, List.mem_of_getElem? (i := 17) (by decide +kernel), List.mem_of_getElem? (i := 450) (by decide +kernel), List.mem_of_getElem? (i := 451) (by decide +kernel)⟩
theorem lw_p8 : lw_okq (⟨"HeadSplits$Net", "makeLean", "()V"⟩, 13) := ⟨⟨by decide +kernel, by decide +kernel⟩, List.mem_of_getElem? (i := 141) (by decide +kernel), List.mem_of_getElem? (i := 463) (by decide +kernel), List.mem_of_getElem? (i := 464) (by decide +kernel)⟩
theorem lw_p9 : lw_okq (⟨"HeadSplits$Net", "meet", "(I)LHeadSplits$Node;"⟩, 13) := ⟨⟨by decide +kernel, by decide +kernel⟩, List.mem_of_getElem? (i := 141) (by decide +kernel), List.mem_of_getElem? (i := 480) (by decide +kernel), List.mem_of_getElem? (i := 481) (by decide +kernel)⟩
theorem lw_p10 : lw_okq (⟨"HeadSplits$Net", "bucketOf", "(I)I"⟩, 13) := ⟨⟨by decide +kernel, by decide +kernel⟩, List.mem_of_getElem? (i := 141) (by decide +kernel), List.mem_of_getElem? (i := 551) (by decide +kernel), List.mem_of_getElem? (i := 552) (by decide +kernel)⟩
theorem lw_p11 : lw_okq (⟨"HeadSplits$Net", "draftNothing", "(LHeadSplits$Node;I)V"⟩, 13) := ⟨⟨by decide +kernel, by decide +kernel⟩, List.mem_of_getElem? (i := 141) (by decide +kernel), List.mem_of_getElem? (i := 572) (by decide +kernel), List.mem_of_getElem? (i := 573) (by decide +kernel)⟩
theorem lw_p12 : lw_okq (⟨"HeadSplits$Net", "addDraft", "(II)V"⟩, 13) := ⟨⟨by decide +kernel, by decide +kernel⟩, List.mem_of_getElem? (i := 141) (by decide +kernel), List.mem_of_getElem? (i := 587) (by decide +kernel), List.mem_of_getElem? (i := 588) (by decide +kernel)⟩
theorem lw_p13 : lw_okq (⟨"HeadSplits$Net", "settleDrafts", "(LHeadSplits$Node;)V"⟩, 13) := ⟨⟨by decide +kernel, by decide +kernel⟩, List.mem_of_getElem? (i := 141) (by decide +kernel), List.mem_of_getElem? (i := 592) (by decide +kernel), List.mem_of_getElem? (i := 593) (by decide +kernel)⟩
theorem lw_p14 : lw_okq (⟨"HeadSplits$Net", "metBefore", "(I)LHeadSplits$Node;"⟩, 13) := ⟨⟨by decide +kernel, by decide +kernel⟩, List.mem_of_getElem? (i := 141) (by decide +kernel), List.mem_of_getElem? (i := 597) (by decide +kernel), List.mem_of_getElem? (i := 598) (by decide +kernel)⟩
theorem lw_p15 : lw_okq (⟨"HeadSplits$Net", "draftBegins", "(LHeadSplits$Node;II)V"⟩, 13) := ⟨⟨by decide +kernel, by decide +kernel⟩, List.mem_of_getElem? (i := 141) (by decide +kernel), List.mem_of_getElem? (i := 611) (by decide +kernel), List.mem_of_getElem? (i := 612) (by decide +kernel)⟩
def lw_privs_1 : List (MethodName × Nat) := [(⟨"HeadSplits", "firstFault", "()I"⟩, 14), (⟨"HeadSplits", "pourPad", "()V"⟩, 14), (⟨"HeadSplits", "needsOrRowsChanged", "()V"⟩, 14), (⟨"HeadSplits", "machineChanged", "()V"⟩, 14), (⟨"HeadSplits$Shorts", "meet", "(III)V"⟩, 7), (⟨"HeadSplits$Row", "makeRoom", "(I)Z"⟩, 2), (⟨"HeadSplits$Tally", "countRow", "(LHeadSplits$Row;I)V"⟩, 2), (⟨"HeadSplits", "refreshNet", "()V"⟩, 14), (⟨"HeadSplits$Net", "makeLean", "()V"⟩, 13), (⟨"HeadSplits$Net", "meet", "(I)LHeadSplits$Node;"⟩, 13), (⟨"HeadSplits$Net", "bucketOf", "(I)I"⟩, 13), (⟨"HeadSplits$Net", "draftNothing", "(LHeadSplits$Node;I)V"⟩, 13), (⟨"HeadSplits$Net", "addDraft", "(II)V"⟩, 13), (⟨"HeadSplits$Net", "settleDrafts", "(LHeadSplits$Node;)V"⟩, 13), (⟨"HeadSplits$Net", "metBefore", "(I)LHeadSplits$Node;"⟩, 13), (⟨"HeadSplits$Net", "draftBegins", "(LHeadSplits$Node;II)V"⟩, 13)]
theorem lw_r1 : ∀ q ∈ lw_privs_1, lw_okq q := List.forall_mem_cons.mpr ⟨lw_p0, List.forall_mem_cons.mpr ⟨lw_p1, List.forall_mem_cons.mpr ⟨lw_p2, List.forall_mem_cons.mpr ⟨lw_p3, List.forall_mem_cons.mpr ⟨lw_p4, List.forall_mem_cons.mpr ⟨lw_p5, List.forall_mem_cons.mpr ⟨lw_p6, List.forall_mem_cons.mpr ⟨lw_p7, List.forall_mem_cons.mpr ⟨lw_p8, List.forall_mem_cons.mpr ⟨lw_p9, List.forall_mem_cons.mpr ⟨lw_p10, List.forall_mem_cons.mpr ⟨lw_p11, List.forall_mem_cons.mpr ⟨lw_p12, List.forall_mem_cons.mpr ⟨lw_p13, List.forall_mem_cons.mpr ⟨lw_p14, List.forall_mem_cons.mpr ⟨lw_p15, fun _ h => absurd h List.not_mem_nil⟩⟩⟩⟩⟩⟩⟩⟩⟩⟩⟩⟩⟩⟩⟩⟩
theorem lw_p16 : lw_okq (⟨"HeadSplits$Net", "draftTurns", "(IIII)V"⟩, 13) := ⟨⟨by decide +kernel, by decide +kernel⟩, List.mem_of_getElem? (i := 141) (by decide +kernel), List.mem_of_getElem? (i := 619) (by decide +kernel), List.mem_of_getElem? (i := 620) (by decide +kernel)⟩
theorem lw_p17 : lw_okq (⟨"HeadSplits$Answer", "goBack", "(LHeadSplits$Node;I)Z"⟩, 4) := ⟨⟨by decide +kernel, by decide +kernel⟩, List.mem_of_getElem? (i := 196) (by decide +kernel), List.mem_of_getElem? (i := 655) (by decide +kernel), List.mem_of_getElem? (i := 656) (by decide +kernel)⟩
theorem lw_p18 : lw_okq (⟨"HeadSplits", "wordsMakeRowsOne", "()Z"⟩, 14) := ⟨⟨by decide +kernel, by decide +kernel⟩, List.mem_of_getElem? (i := 17) (by decide +kernel), List.mem_of_getElem? (i := 724) (by decide +kernel), List.mem_of_getElem? (i := 725) (by decide +kernel)⟩
theorem lw_p19 : lw_okq (⟨"HeadSplits$Book", "mapOf", "(LHeadSplits$Row;)I"⟩, 6) := ⟨⟨by decide +kernel, by decide +kernel⟩, List.mem_of_getElem? (i := 42) (by decide +kernel), List.mem_of_getElem? (i := 747) (by decide +kernel), List.mem_of_getElem? (i := 748) (by decide +kernel)⟩
theorem lw_p20 : lw_okq (⟨"HeadSplits$Trial", "findMaps", "(LHeadSplits$Machine;)V"⟩, 5) := ⟨⟨by decide +kernel, by decide +kernel⟩, List.mem_of_getElem? (i := 219) (by decide +kernel), List.mem_of_getElem? (i := 775) (by decide +kernel), List.mem_of_getElem? (i := 776) (by decide +kernel)⟩
theorem lw_p21 : lw_okq (⟨"HeadSplits$Trial", "allowedWords", "(I)I"⟩, 5) := ⟨⟨by decide +kernel, by decide +kernel⟩, List.mem_of_getElem? (i := 219) (by decide +kernel), List.mem_of_getElem? (i := 781) (by decide +kernel), List.mem_of_getElem? (i := 782) (by decide +kernel)⟩
theorem lw_p22 : lw_okq (⟨"HeadSplits$Trial", "seekOfSize", "(LHeadSplits$Book;LHeadSplits$Tally;I)Z"⟩, 5) := ⟨⟨by decide +kernel, by decide +kernel⟩, List.mem_of_getElem? (i := 219) (by decide +kernel), List.mem_of_getElem? (i := 786) (by decide +kernel), List.mem_of_getElem? (i := 787) (by decide +kernel)⟩
theorem lw_p23 : lw_okq (⟨"HeadSplits$Trial", "choose", "(II)Z"⟩, 5) := ⟨⟨by decide +kernel, by decide +kernel⟩, List.mem_of_getElem? (i := 219) (by decide +kernel), List.mem_of_getElem? (i := 790) (by decide +kernel), List.mem_of_getElem? (i := 791) (by decide +kernel)⟩
theorem lw_p24 : lw_okq (⟨"HeadSplits$Trial", "seekLast", "(LHeadSplits$Book;I)Z"⟩, 5) := ⟨⟨by decide +kernel, by decide +kernel⟩, List.mem_of_getElem? (i := 219) (by decide +kernel), List.mem_of_getElem? (i := 800) (by decide +kernel), List.mem_of_getElem? (i := 801) (by decide +kernel)⟩
theorem lw_p25 : lw_okq (⟨"HeadSplits$Trial", "spelled", "(LHeadSplits$Row;)J"⟩, 5) := ⟨⟨by decide +kernel, by decide +kernel⟩, List.mem_of_getElem? (i := 219) (by decide +kernel), List.mem_of_getElem? (i := 804) (by decide +kernel), List.mem_of_getElem? (i := 805) (by decide +kernel)⟩
theorem lw_p26 : lw_okq (⟨"HeadSplitsModel", "findDone", "()V"⟩, 43) := ⟨⟨by decide +kernel, by decide +kernel⟩, List.mem_of_getElem? (i := 836) (by decide +kernel), List.mem_of_getElem? (i := 1019) (by decide +kernel), List.mem_of_getElem? (i := 1020) (by decide +kernel)⟩
theorem lw_p27 : lw_okq (⟨"HeadSplitsModel", "addDone", "(IIIII)V"⟩, 43) := ⟨⟨by decide +kernel, by decide +kernel⟩, List.mem_of_getElem? (i := 836) (by decide +kernel), List.mem_of_getElem? (i := 1023) (by decide +kernel), List.mem_of_getElem? (i := 1024) (by decide +kernel)⟩
theorem lw_p28 : lw_okq (⟨"HeadSplitsModel", "isDone", "(III)Z"⟩, 43) := ⟨⟨by decide +kernel, by decide +kernel⟩, List.mem_of_getElem? (i := 836) (by decide +kernel), List.mem_of_getElem? (i := 1027) (by decide +kernel), List.mem_of_getElem? (i := 1028) (by decide +kernel)⟩
theorem lw_p29 : lw_okq (⟨"HeadSplitsModel", "firstFor", "([II)I"⟩, 43) := ⟨⟨by decide +kernel, by decide +kernel⟩, List.mem_of_getElem? (i := 836) (by decide +kernel), List.mem_of_getElem? (i := 1031) (by decide +kernel), List.mem_of_getElem? (i := 1032) (by decide +kernel)⟩
theorem lw_p30 : lw_okq (⟨"HeadSplitsModel", "findNet", "()V"⟩, 43) := ⟨⟨by decide +kernel, by decide +kernel⟩, List.mem_of_getElem? (i := 836) (by decide +kernel), List.mem_of_getElem? (i := 1043) (by decide +kernel), List.mem_of_getElem? (i := 1044) (by decide +kernel)⟩
theorem lw_p31 : lw_okq (⟨"HeadSplitsModel", "lean", "()V"⟩, 43) := ⟨⟨by decide +kernel, by decide +kernel⟩, List.mem_of_getElem? (i := 836) (by decide +kernel), List.mem_of_getElem? (i := 1047) (by decide +kernel), List.mem_of_getElem? (i := 1048) (by decide +kernel)⟩
def lw_privs_2 : List (MethodName × Nat) := [(⟨"HeadSplits$Net", "draftTurns", "(IIII)V"⟩, 13), (⟨"HeadSplits$Answer", "goBack", "(LHeadSplits$Node;I)Z"⟩, 4), (⟨"HeadSplits", "wordsMakeRowsOne", "()Z"⟩, 14), (⟨"HeadSplits$Book", "mapOf", "(LHeadSplits$Row;)I"⟩, 6), (⟨"HeadSplits$Trial", "findMaps", "(LHeadSplits$Machine;)V"⟩, 5), (⟨"HeadSplits$Trial", "allowedWords", "(I)I"⟩, 5), (⟨"HeadSplits$Trial", "seekOfSize", "(LHeadSplits$Book;LHeadSplits$Tally;I)Z"⟩, 5), (⟨"HeadSplits$Trial", "choose", "(II)Z"⟩, 5), (⟨"HeadSplits$Trial", "seekLast", "(LHeadSplits$Book;I)Z"⟩, 5), (⟨"HeadSplits$Trial", "spelled", "(LHeadSplits$Row;)J"⟩, 5), (⟨"HeadSplitsModel", "findDone", "()V"⟩, 43), (⟨"HeadSplitsModel", "addDone", "(IIIII)V"⟩, 43), (⟨"HeadSplitsModel", "isDone", "(III)Z"⟩, 43), (⟨"HeadSplitsModel", "firstFor", "([II)I"⟩, 43), (⟨"HeadSplitsModel", "findNet", "()V"⟩, 43), (⟨"HeadSplitsModel", "lean", "()V"⟩, 43)]
theorem lw_r2 : ∀ q ∈ lw_privs_2, lw_okq q := List.forall_mem_cons.mpr ⟨lw_p16, List.forall_mem_cons.mpr ⟨lw_p17, List.forall_mem_cons.mpr ⟨lw_p18, List.forall_mem_cons.mpr ⟨lw_p19, List.forall_mem_cons.mpr ⟨lw_p20, List.forall_mem_cons.mpr ⟨lw_p21, List.forall_mem_cons.mpr ⟨lw_p22, List.forall_mem_cons.mpr ⟨lw_p23, List.forall_mem_cons.mpr ⟨lw_p24, List.forall_mem_cons.mpr ⟨lw_p25, List.forall_mem_cons.mpr ⟨lw_p26, List.forall_mem_cons.mpr ⟨lw_p27, List.forall_mem_cons.mpr ⟨lw_p28, List.forall_mem_cons.mpr ⟨lw_p29, List.forall_mem_cons.mpr ⟨lw_p30, List.forall_mem_cons.mpr ⟨lw_p31, fun _ h => absurd h List.not_mem_nil⟩⟩⟩⟩⟩⟩⟩⟩⟩⟩⟩⟩⟩⟩⟩⟩
theorem lw_p32 : lw_okq (⟨"HeadSplitsModel", "dropFirst", "()V"⟩, 43) := ⟨⟨by decide +kernel, by decide +kernel⟩, List.mem_of_getElem? (i := 836) (by decide +kernel), List.mem_of_getElem? (i := 1051) (by decide +kernel), List.mem_of_getElem? (i := 1052) (by decide +kernel)⟩
theorem lw_p33 : lw_okq (⟨"HeadSplitsModel", "addNode", "(III)V"⟩, 43) := ⟨⟨by decide +kernel, by decide +kernel⟩, List.mem_of_getElem? (i := 836) (by decide +kernel), List.mem_of_getElem? (i := 1055) (by decide +kernel), List.mem_of_getElem? (i := 1056) (by decide +kernel)⟩
theorem lw_p34 : lw_okq (⟨"HeadSplitsModel", "isEnd", "(I)Z"⟩, 43) := ⟨⟨by decide +kernel, by decide +kernel⟩, List.mem_of_getElem? (i := 836) (by decide +kernel), List.mem_of_getElem? (i := 1059) (by decide +kernel), List.mem_of_getElem? (i := 1060) (by decide +kernel)⟩
theorem lw_p35 : lw_okq (⟨"HeadSplitsModel", "goOn", "(I)V"⟩, 43) := ⟨⟨by decide +kernel, by decide +kernel⟩, List.mem_of_getElem? (i := 836) (by decide +kernel), List.mem_of_getElem? (i := 1063) (by decide +kernel), List.mem_of_getElem? (i := 1064) (by decide +kernel)⟩
theorem lw_p36 : lw_okq (⟨"HeadSplitsModel", "findMoves", "(I)V"⟩, 43) := ⟨⟨by decide +kernel, by decide +kernel⟩, List.mem_of_getElem? (i := 836) (by decide +kernel), List.mem_of_getElem? (i := 1067) (by decide +kernel), List.mem_of_getElem? (i := 1068) (by decide +kernel)⟩
theorem lw_p37 : lw_okq (⟨"HeadSplitsModel", "firstOf", "(II)I"⟩, 43) := ⟨⟨by decide +kernel, by decide +kernel⟩, List.mem_of_getElem? (i := 836) (by decide +kernel), List.mem_of_getElem? (i := 1071) (by decide +kernel), List.mem_of_getElem? (i := 1072) (by decide +kernel)⟩
theorem lw_p38 : lw_okq (⟨"HeadSplitsModel", "addMove", "(III)V"⟩, 43) := ⟨⟨by decide +kernel, by decide +kernel⟩, List.mem_of_getElem? (i := 836) (by decide +kernel), List.mem_of_getElem? (i := 1075) (by decide +kernel), List.mem_of_getElem? (i := 1076) (by decide +kernel)⟩
theorem lw_p39 : lw_okq (⟨"HeadSplitsModel", "addBegins", "(III)V"⟩, 43) := ⟨⟨by decide +kernel, by decide +kernel⟩, List.mem_of_getElem? (i := 836) (by decide +kernel), List.mem_of_getElem? (i := 1079) (by decide +kernel), List.mem_of_getElem? (i := 1080) (by decide +kernel)⟩
theorem lw_p40 : lw_okq (⟨"HeadSplitsModel", "isTurn", "(III)Z"⟩, 43) := ⟨⟨by decide +kernel, by decide +kernel⟩, List.mem_of_getElem? (i := 836) (by decide +kernel), List.mem_of_getElem? (i := 1083) (by decide +kernel), List.mem_of_getElem? (i := 1084) (by decide +kernel)⟩
theorem lw_p41 : lw_okq (⟨"HeadSplitsModel", "makeMove", "(II)I"⟩, 43) := ⟨⟨by decide +kernel, by decide +kernel⟩, List.mem_of_getElem? (i := 836) (by decide +kernel), List.mem_of_getElem? (i := 1090) (by decide +kernel), List.mem_of_getElem? (i := 1091) (by decide +kernel)⟩
theorem lw_p42 : lw_okq (⟨"HeadSplitsModel", "layRows", "(III)V"⟩, 43) := ⟨⟨by decide +kernel, by decide +kernel⟩, List.mem_of_getElem? (i := 836) (by decide +kernel), List.mem_of_getElem? (i := 1094) (by decide +kernel), List.mem_of_getElem? (i := 1095) (by decide +kernel)⟩
theorem lw_p43 : lw_okq (⟨"HeadSplitsModel", "letterAhead", "(III)V"⟩, 43) := ⟨⟨by decide +kernel, by decide +kernel⟩, List.mem_of_getElem? (i := 836) (by decide +kernel), List.mem_of_getElem? (i := 1098) (by decide +kernel), List.mem_of_getElem? (i := 1099) (by decide +kernel)⟩
theorem lw_p44 : lw_okq (⟨"HeadSplitsModel", "variableAhead", "(IIII)V"⟩, 43) := ⟨⟨by decide +kernel, by decide +kernel⟩, List.mem_of_getElem? (i := 836) (by decide +kernel), List.mem_of_getElem? (i := 1102) (by decide +kernel), List.mem_of_getElem? (i := 1103) (by decide +kernel)⟩
theorem lw_p45 : lw_okq (⟨"HeadSplitsModel", "isNothing", "(II)Z"⟩, 43) := ⟨⟨by decide +kernel, by decide +kernel⟩, List.mem_of_getElem? (i := 836) (by decide +kernel), List.mem_of_getElem? (i := 1106) (by decide +kernel), List.mem_of_getElem? (i := 1107) (by decide +kernel)⟩
theorem lw_p46 : lw_okq (⟨"HeadSplitsModel", "isHopeless", "()Z"⟩, 43) := ⟨⟨by decide +kernel, by decide +kernel⟩, List.mem_of_getElem? (i := 836) (by decide +kernel), List.mem_of_getElem? (i := 1110) (by decide +kernel), List.mem_of_getElem? (i := 1111) (by decide +kernel)⟩
theorem lw_p47 : lw_okq (⟨"HeadSplitsModel", "lookFor", "()I"⟩, 43) := ⟨⟨by decide +kernel, by decide +kernel⟩, List.mem_of_getElem? (i := 836) (by decide +kernel), List.mem_of_getElem? (i := 1114) (by decide +kernel), List.mem_of_getElem? (i := 1115) (by decide +kernel)⟩
def lw_privs_3 : List (MethodName × Nat) := [(⟨"HeadSplitsModel", "dropFirst", "()V"⟩, 43), (⟨"HeadSplitsModel", "addNode", "(III)V"⟩, 43), (⟨"HeadSplitsModel", "isEnd", "(I)Z"⟩, 43), (⟨"HeadSplitsModel", "goOn", "(I)V"⟩, 43), (⟨"HeadSplitsModel", "findMoves", "(I)V"⟩, 43), (⟨"HeadSplitsModel", "firstOf", "(II)I"⟩, 43), (⟨"HeadSplitsModel", "addMove", "(III)V"⟩, 43), (⟨"HeadSplitsModel", "addBegins", "(III)V"⟩, 43), (⟨"HeadSplitsModel", "isTurn", "(III)Z"⟩, 43), (⟨"HeadSplitsModel", "makeMove", "(II)I"⟩, 43), (⟨"HeadSplitsModel", "layRows", "(III)V"⟩, 43), (⟨"HeadSplitsModel", "letterAhead", "(III)V"⟩, 43), (⟨"HeadSplitsModel", "variableAhead", "(IIII)V"⟩, 43), (⟨"HeadSplitsModel", "isNothing", "(II)Z"⟩, 43), (⟨"HeadSplitsModel", "isHopeless", "()Z"⟩, 43), (⟨"HeadSplitsModel", "lookFor", "()I"⟩, 43)]
theorem lw_r3 : ∀ q ∈ lw_privs_3, lw_okq q := List.forall_mem_cons.mpr ⟨lw_p32, List.forall_mem_cons.mpr ⟨lw_p33, List.forall_mem_cons.mpr ⟨lw_p34, List.forall_mem_cons.mpr ⟨lw_p35, List.forall_mem_cons.mpr ⟨lw_p36, List.forall_mem_cons.mpr ⟨lw_p37, List.forall_mem_cons.mpr ⟨lw_p38, List.forall_mem_cons.mpr ⟨lw_p39, List.forall_mem_cons.mpr ⟨lw_p40, List.forall_mem_cons.mpr ⟨lw_p41, List.forall_mem_cons.mpr ⟨lw_p42, List.forall_mem_cons.mpr ⟨lw_p43, List.forall_mem_cons.mpr ⟨lw_p44, List.forall_mem_cons.mpr ⟨lw_p45, List.forall_mem_cons.mpr ⟨lw_p46, List.forall_mem_cons.mpr ⟨lw_p47, fun _ h => absurd h List.not_mem_nil⟩⟩⟩⟩⟩⟩⟩⟩⟩⟩⟩⟩⟩⟩⟩⟩
theorem lw_p48 : lw_okq (⟨"HeadSplitsModel", "isSame", "(I)Z"⟩, 43) := ⟨⟨by decide +kernel, by decide +kernel⟩, List.mem_of_getElem? (i := 836) (by decide +kernel), List.mem_of_getElem? (i := 1118) (by decide +kernel), List.mem_of_getElem? (i := 1119) (by decide +kernel)⟩
theorem lw_p49 : lw_okq (⟨"HeadSplitsModel", "firstEnd", "()I"⟩, 43) := ⟨⟨by decide +kernel, by decide +kernel⟩, List.mem_of_getElem? (i := 836) (by decide +kernel), List.mem_of_getElem? (i := 1122) (by decide +kernel), List.mem_of_getElem? (i := 1123) (by decide +kernel)⟩
theorem lw_p50 : lw_okq (⟨"HeadSplitsModel", "cuts", "()I"⟩, 43) := ⟨⟨by decide +kernel, by decide +kernel⟩, List.mem_of_getElem? (i := 836) (by decide +kernel), List.mem_of_getElem? (i := 1126) (by decide +kernel), List.mem_of_getElem? (i := 1127) (by decide +kernel)⟩
theorem lw_p51 : lw_okq (⟨"HeadSplitsModel", "mostOfOne", "()I"⟩, 43) := ⟨⟨by decide +kernel, by decide +kernel⟩, List.mem_of_getElem? (i := 836) (by decide +kernel), List.mem_of_getElem? (i := 1130) (by decide +kernel), List.mem_of_getElem? (i := 1131) (by decide +kernel)⟩
theorem lw_p52 : lw_okq (⟨"HeadSplitsModel", "isNode", "(I)Z"⟩, 43) := ⟨⟨by decide +kernel, by decide +kernel⟩, List.mem_of_getElem? (i := 836) (by decide +kernel), List.mem_of_getElem? (i := 1138) (by decide +kernel), List.mem_of_getElem? (i := 1139) (by decide +kernel)⟩
theorem lw_p53 : lw_okq (⟨"HeadSplitsModel", "findLeading", "(II)V"⟩, 43) := ⟨⟨by decide +kernel, by decide +kernel⟩, List.mem_of_getElem? (i := 836) (by decide +kernel), List.mem_of_getElem? (i := 1142) (by decide +kernel), List.mem_of_getElem? (i := 1143) (by decide +kernel)⟩
theorem lw_p54 : lw_okq (⟨"HeadSplitsModel", "isAnswered", "()Z"⟩, 43) := ⟨⟨by decide +kernel, by decide +kernel⟩, List.mem_of_getElem? (i := 836) (by decide +kernel), List.mem_of_getElem? (i := 1162) (by decide +kernel), List.mem_of_getElem? (i := 1163) (by decide +kernel)⟩
theorem lw_p55 : lw_okq (⟨"HeadSplitsModel", "undoMove", "(I)V"⟩, 43) := ⟨⟨by decide +kernel, by decide +kernel⟩, List.mem_of_getElem? (i := 836) (by decide +kernel), List.mem_of_getElem? (i := 1166) (by decide +kernel), List.mem_of_getElem? (i := 1167) (by decide +kernel)⟩
theorem lw_p56 : lw_okq (⟨"HeadSplitsModel", "ahead", "(II)V"⟩, 43) := ⟨⟨by decide +kernel, by decide +kernel⟩, List.mem_of_getElem? (i := 836) (by decide +kernel), List.mem_of_getElem? (i := 1170) (by decide +kernel), List.mem_of_getElem? (i := 1171) (by decide +kernel)⟩
theorem lw_p57 : lw_okq (⟨"HeadSplitsModel", "isNeeded", "(I)Z"⟩, 43) := ⟨⟨by decide +kernel, by decide +kernel⟩, List.mem_of_getElem? (i := 836) (by decide +kernel), List.mem_of_getElem? (i := 1190) (by decide +kernel), List.mem_of_getElem? (i := 1191) (by decide +kernel)⟩
theorem lw_p58 : lw_okq (⟨"HeadSplitsModel", "isOne", "()Z"⟩, 43) := ⟨⟨by decide +kernel, by decide +kernel⟩, List.mem_of_getElem? (i := 836) (by decide +kernel), List.mem_of_getElem? (i := 1194) (by decide +kernel), List.mem_of_getElem? (i := 1195) (by decide +kernel)⟩
theorem lw_p59 : lw_okq (⟨"HeadSplitsModel", "layWhole", "(I)V"⟩, 43) := ⟨⟨by decide +kernel, by decide +kernel⟩, List.mem_of_getElem? (i := 836) (by decide +kernel), List.mem_of_getElem? (i := 1198) (by decide +kernel), List.mem_of_getElem? (i := 1199) (by decide +kernel)⟩
theorem lw_p60 : lw_okq (⟨"HeadSplitsModel", "addWhole", "(II)V"⟩, 43) := ⟨⟨by decide +kernel, by decide +kernel⟩, List.mem_of_getElem? (i := 836) (by decide +kernel), List.mem_of_getElem? (i := 1202) (by decide +kernel), List.mem_of_getElem? (i := 1203) (by decide +kernel)⟩
theorem lw_p61 : lw_okq (⟨"HeadSplitsModel", "isLengths", "(II)Z"⟩, 43) := ⟨⟨by decide +kernel, by decide +kernel⟩, List.mem_of_getElem? (i := 836) (by decide +kernel), List.mem_of_getElem? (i := 1210) (by decide +kernel), List.mem_of_getElem? (i := 1211) (by decide +kernel)⟩
theorem lw_p62 : lw_okq (⟨"HeadSplitsModel", "timesIn", "(II)I"⟩, 43) := ⟨⟨by decide +kernel, by decide +kernel⟩, List.mem_of_getElem? (i := 836) (by decide +kernel), List.mem_of_getElem? (i := 1214) (by decide +kernel), List.mem_of_getElem? (i := 1215) (by decide +kernel)⟩
theorem lw_p63 : lw_okq (⟨"HeadSplitsModel", "findShortest", "()I"⟩, 43) := ⟨⟨by decide +kernel, by decide +kernel⟩, List.mem_of_getElem? (i := 836) (by decide +kernel), List.mem_of_getElem? (i := 1223) (by decide +kernel), List.mem_of_getElem? (i := 1224) (by decide +kernel)⟩
def lw_privs_4 : List (MethodName × Nat) := [(⟨"HeadSplitsModel", "isSame", "(I)Z"⟩, 43), (⟨"HeadSplitsModel", "firstEnd", "()I"⟩, 43), (⟨"HeadSplitsModel", "cuts", "()I"⟩, 43), (⟨"HeadSplitsModel", "mostOfOne", "()I"⟩, 43), (⟨"HeadSplitsModel", "isNode", "(I)Z"⟩, 43), (⟨"HeadSplitsModel", "findLeading", "(II)V"⟩, 43), (⟨"HeadSplitsModel", "isAnswered", "()Z"⟩, 43), (⟨"HeadSplitsModel", "undoMove", "(I)V"⟩, 43), (⟨"HeadSplitsModel", "ahead", "(II)V"⟩, 43), (⟨"HeadSplitsModel", "isNeeded", "(I)Z"⟩, 43), (⟨"HeadSplitsModel", "isOne", "()Z"⟩, 43), (⟨"HeadSplitsModel", "layWhole", "(I)V"⟩, 43), (⟨"HeadSplitsModel", "addWhole", "(II)V"⟩, 43), (⟨"HeadSplitsModel", "isLengths", "(II)Z"⟩, 43), (⟨"HeadSplitsModel", "timesIn", "(II)I"⟩, 43), (⟨"HeadSplitsModel", "findShortest", "()I"⟩, 43)]
theorem lw_r4 : ∀ q ∈ lw_privs_4, lw_okq q := List.forall_mem_cons.mpr ⟨lw_p48, List.forall_mem_cons.mpr ⟨lw_p49, List.forall_mem_cons.mpr ⟨lw_p50, List.forall_mem_cons.mpr ⟨lw_p51, List.forall_mem_cons.mpr ⟨lw_p52, List.forall_mem_cons.mpr ⟨lw_p53, List.forall_mem_cons.mpr ⟨lw_p54, List.forall_mem_cons.mpr ⟨lw_p55, List.forall_mem_cons.mpr ⟨lw_p56, List.forall_mem_cons.mpr ⟨lw_p57, List.forall_mem_cons.mpr ⟨lw_p58, List.forall_mem_cons.mpr ⟨lw_p59, List.forall_mem_cons.mpr ⟨lw_p60, List.forall_mem_cons.mpr ⟨lw_p61, List.forall_mem_cons.mpr ⟨lw_p62, List.forall_mem_cons.mpr ⟨lw_p63, fun _ h => absurd h List.not_mem_nil⟩⟩⟩⟩⟩⟩⟩⟩⟩⟩⟩⟩⟩⟩⟩⟩
theorem lw_p64 : lw_okq (⟨"HeadSplitsModel", "tryWord", "(II)V"⟩, 43) := ⟨⟨by decide +kernel, by decide +kernel⟩, List.mem_of_getElem? (i := 836) (by decide +kernel), List.mem_of_getElem? (i := 1227) (by decide +kernel), List.mem_of_getElem? (i := 1228) (by decide +kernel)⟩
theorem lw_p65 : lw_okq (⟨"HeadSplitsModel", "passAll", "()V"⟩, 43) := ⟨⟨by decide +kernel, by decide +kernel⟩, List.mem_of_getElem? (i := 836) (by decide +kernel), List.mem_of_getElem? (i := 1235) (by decide +kernel), List.mem_of_getElem? (i := 1236) (by decide +kernel)⟩
theorem lw_p66 : lw_okq (⟨"HeadSplitsModel", "passRow", "([II)V"⟩, 43) := ⟨⟨by decide +kernel, by decide +kernel⟩, List.mem_of_getElem? (i := 836) (by decide +kernel), List.mem_of_getElem? (i := 1239) (by decide +kernel), List.mem_of_getElem? (i := 1240) (by decide +kernel)⟩
def lw_privs_5 : List (MethodName × Nat) := [(⟨"HeadSplitsModel", "tryWord", "(II)V"⟩, 43), (⟨"HeadSplitsModel", "passAll", "()V"⟩, 43), (⟨"HeadSplitsModel", "passRow", "([II)V"⟩, 43)]
theorem lw_r5 : ∀ q ∈ lw_privs_5, lw_okq q := List.forall_mem_cons.mpr ⟨lw_p64, List.forall_mem_cons.mpr ⟨lw_p65, List.forall_mem_cons.mpr ⟨lw_p66, fun _ h => absurd h List.not_mem_nil⟩⟩⟩
def lw_privs : List (MethodName × Nat) := lw_privs_1 ++ (lw_privs_2 ++ (lw_privs_3 ++ (lw_privs_4 ++ (lw_privs_5))))
def lw_tbl : List Cond := k2_sels lw_privs ++ tables_1
theorem lw_privs_ok : ∀ q ∈ lw_privs, lw_okq q := by
  show ∀ q ∈ lw_privs_1 ++ (lw_privs_2 ++ (lw_privs_3 ++ (lw_privs_4 ++ (lw_privs_5)))), lw_okq q
  exact List.forall_mem_append.mpr ⟨lw_r1, List.forall_mem_append.mpr ⟨lw_r2, List.forall_mem_append.mpr ⟨lw_r3, List.forall_mem_append.mpr ⟨lw_r4, lw_r5⟩⟩⟩⟩
end
section
/-! names: classes, fields, methods (written by wip/whole/gen/g01.py out of the printed names) -/
def zR_Answer : String := "HeadSplits$Answer"
def zT_Answer : u_T := fun k => match k with
  | 0 => ("HeadSplits$Answer", "net", "LHeadSplits$Net;", true)
  | 1 => ("HeadSplits$Answer", "shorts", "LHeadSplits$Shorts;", true)
  | 2 => ("HeadSplits$Answer", "words", "LHeadSplits$Words;", true)
  | _ => ("HeadSplits$Answer", "known", "Z", false)
def zY_Answer : Nat → FieldType := fun k => match k with
  | 0 => .object "HeadSplits$Net"
  | 1 => .object "HeadSplits$Shorts"
  | 2 => .object "HeadSplits$Words"
  | _ => .boolean
theorem zn_Answer : ∀ a, a < 4 → ∀ b, b < 4 → a ≠ b → (zT_Answer a).2.1 ≠ (zT_Answer b).2.1 := by decide +kernel
theorem zy_Answer : ∀ k, k < 4 → parseFieldDescriptor (zT_Answer k).2.2.1 = some (zY_Answer k) := by decide +kernel
def zR_Book : String := "HeadSplits$Book"
def zT_Book : u_T := fun k => match k with
  | 0 => ("HeadSplits$Book", "left", "LHeadSplits$Row;", true)
  | 1 => ("HeadSplits$Book", "right", "LHeadSplits$Row;", true)
  | 2 => ("HeadSplits$Book", "machine", "LHeadSplits$Machine;", true)
  | 3 => ("HeadSplits$Book", "words", "LHeadSplits$Words;", true)
  | 4 => ("HeadSplits$Book", "needs", "I", false)
  | _ => ("HeadSplits$Book", "isImage", "Z", false)
def zY_Book : Nat → FieldType := fun k => match k with
  | 0 => .object "HeadSplits$Row"
  | 1 => .object "HeadSplits$Row"
  | 2 => .object "HeadSplits$Machine"
  | 3 => .object "HeadSplits$Words"
  | 4 => .int
  | _ => .boolean
theorem zn_Book : ∀ a, a < 6 → ∀ b, b < 6 → a ≠ b → (zT_Book a).2.1 ≠ (zT_Book b).2.1 := by decide +kernel
theorem zy_Book : ∀ k, k < 6 → parseFieldDescriptor (zT_Book k).2.2.1 = some (zY_Book k) := by decide +kernel
def zR_Machine : String := "HeadSplits$Machine"
def zT_Machine : u_T := fun k => match k with
  | _ => ("HeadSplits$Machine", "goes", "[I", true)
def zY_Machine : Nat → FieldType := fun k => match k with
  | _ => .array .int
theorem zn_Machine : ∀ a, a < 1 → ∀ b, b < 1 → a ≠ b → (zT_Machine a).2.1 ≠ (zT_Machine b).2.1 := by decide +kernel
theorem zy_Machine : ∀ k, k < 1 → parseFieldDescriptor (zT_Machine k).2.2.1 = some (zY_Machine k) := by decide +kernel
def zR_Net : String := "HeadSplits$Net"
def zT_Net : u_T := fun k => match k with
  | 0 => ("HeadSplits$Net", "book", "LHeadSplits$Book;", true)
  | 1 => ("HeadSplits$Net", "shorts", "LHeadSplits$Shorts;", true)
  | 2 => ("HeadSplits$Net", "pool", "[LHeadSplits$Node;", true)
  | 3 => ("HeadSplits$Net", "buckets", "[I", true)
  | 4 => ("HeadSplits$Net", "left", "LHeadSplits$Row;", true)
  | 5 => ("HeadSplits$Net", "right", "LHeadSplits$Row;", true)
  | 6 => ("HeadSplits$Net", "draftNeeds", "LHeadSplits$Row;", true)
  | 7 => ("HeadSplits$Net", "draftCodes", "LHeadSplits$Row;", true)
  | 8 => ("HeadSplits$Net", "mark", "I", false)
  | 9 => ("HeadSplits$Net", "count", "I", false)
  | 10 => ("HeadSplits$Net", "firstEnd", "I", false)
  | 11 => ("HeadSplits$Net", "deepest", "I", false)
  | _ => ("HeadSplits$Net", "cuts", "I", false)
def zY_Net : Nat → FieldType := fun k => match k with
  | 0 => .object "HeadSplits$Book"
  | 1 => .object "HeadSplits$Shorts"
  | 2 => .array (.object "HeadSplits$Node")
  | 3 => .array .int
  | 4 => .object "HeadSplits$Row"
  | 5 => .object "HeadSplits$Row"
  | 6 => .object "HeadSplits$Row"
  | 7 => .object "HeadSplits$Row"
  | 8 => .int
  | 9 => .int
  | 10 => .int
  | 11 => .int
  | _ => .int
theorem zn_Net : ∀ a, a < 13 → ∀ b, b < 13 → a ≠ b → (zT_Net a).2.1 ≠ (zT_Net b).2.1 := by decide +kernel
theorem zy_Net : ∀ k, k < 13 → parseFieldDescriptor (zT_Net k).2.2.1 = some (zY_Net k) := by decide +kernel
def zR_Node : String := "HeadSplits$Node"
def zT_Node : u_T := fun k => match k with
  | 0 => ("HeadSplits$Node", "number", "I", true)
  | 1 => ("HeadSplits$Node", "left", "LHeadSplits$Row;", true)
  | 2 => ("HeadSplits$Node", "right", "LHeadSplits$Row;", true)
  | 3 => ("HeadSplits$Node", "targets", "LHeadSplits$Row;", true)
  | 4 => ("HeadSplits$Node", "codes", "LHeadSplits$Row;", true)
  | 5 => ("HeadSplits$Node", "needs", "I", false)
  | 6 => ("HeadSplits$Node", "depth", "I", false)
  | 7 => ("HeadSplits$Node", "parent", "I", false)
  | 8 => ("HeadSplits$Node", "by", "I", false)
  | 9 => ("HeadSplits$Node", "nextOfBucket", "I", false)
  | _ => ("HeadSplits$Node", "cut", "Z", false)
def zY_Node : Nat → FieldType := fun k => match k with
  | 0 => .int
  | 1 => .object "HeadSplits$Row"
  | 2 => .object "HeadSplits$Row"
  | 3 => .object "HeadSplits$Row"
  | 4 => .object "HeadSplits$Row"
  | 5 => .int
  | 6 => .int
  | 7 => .int
  | 8 => .int
  | 9 => .int
  | _ => .boolean
theorem zn_Node : ∀ a, a < 11 → ∀ b, b < 11 → a ≠ b → (zT_Node a).2.1 ≠ (zT_Node b).2.1 := by decide +kernel
theorem zy_Node : ∀ k, k < 11 → parseFieldDescriptor (zT_Node k).2.2.1 = some (zY_Node k) := by decide +kernel
def zR_Row : String := "HeadSplits$Row"
def zT_Row : u_T := fun k => match k with
  | 0 => ("HeadSplits$Row", "items", "[I", true)
  | _ => ("HeadSplits$Row", "count", "I", false)
def zY_Row : Nat → FieldType := fun k => match k with
  | 0 => .array .int
  | _ => .int
theorem zn_Row : ∀ a, a < 2 → ∀ b, b < 2 → a ≠ b → (zT_Row a).2.1 ≠ (zT_Row b).2.1 := by decide +kernel
theorem zy_Row : ∀ k, k < 2 → parseFieldDescriptor (zT_Row k).2.2.1 = some (zY_Row k) := by decide +kernel
def zR_Shorts : String := "HeadSplits$Shorts"
def zT_Shorts : u_T := fun k => match k with
  | 0 => ("HeadSplits$Shorts", "machine", "LHeadSplits$Machine;", true)
  | 1 => ("HeadSplits$Shorts", "maps", "[I", true)
  | 2 => ("HeadSplits$Shorts", "from", "[I", true)
  | 3 => ("HeadSplits$Shorts", "letter", "[I", true)
  | 4 => ("HeadSplits$Shorts", "fitting", "[I", true)
  | 5 => ("HeadSplits$Shorts", "count", "I", false)
  | _ => ("HeadSplits$Shorts", "stands", "Z", false)
def zY_Shorts : Nat → FieldType := fun k => match k with
  | 0 => .object "HeadSplits$Machine"
  | 1 => .array .int
  | 2 => .array .int
  | 3 => .array .int
  | 4 => .array .int
  | 5 => .int
  | _ => .boolean
theorem zn_Shorts : ∀ a, a < 7 → ∀ b, b < 7 → a ≠ b → (zT_Shorts a).2.1 ≠ (zT_Shorts b).2.1 := by decide +kernel
theorem zy_Shorts : ∀ k, k < 7 → parseFieldDescriptor (zT_Shorts k).2.2.1 = some (zY_Shorts k) := by decide +kernel
def zR_Tally : String := "HeadSplits$Tally"
def zT_Tally : u_T := fun k => match k with
  | 0 => ("HeadSplits$Tally", "times", "[I", true)
  | _ => ("HeadSplits$Tally", "surplus", "[I", true)
def zY_Tally : Nat → FieldType := fun k => match k with
  | 0 => .array .int
  | _ => .array .int
theorem zn_Tally : ∀ a, a < 2 → ∀ b, b < 2 → a ≠ b → (zT_Tally a).2.1 ≠ (zT_Tally b).2.1 := by decide +kernel
theorem zy_Tally : ∀ k, k < 2 → parseFieldDescriptor (zT_Tally k).2.2.1 = some (zY_Tally k) := by decide +kernel
def zR_Trial : String := "HeadSplits$Trial"
def zT_Trial : u_T := fun k => match k with
  | 0 => ("HeadSplits$Trial", "maps", "[I", true)
  | 1 => ("HeadSplits$Trial", "allowed", "[I", true)
  | 2 => ("HeadSplits$Trial", "sizes", "[I", true)
  | 3 => ("HeadSplits$Trial", "digits", "[I", true)
  | _ => ("HeadSplits$Trial", "together", "I", false)
def zY_Trial : Nat → FieldType := fun k => match k with
  | 0 => .array .int
  | 1 => .array .int
  | 2 => .array .int
  | 3 => .array .int
  | _ => .int
theorem zn_Trial : ∀ a, a < 5 → ∀ b, b < 5 → a ≠ b → (zT_Trial a).2.1 ≠ (zT_Trial b).2.1 := by decide +kernel
theorem zy_Trial : ∀ k, k < 5 → parseFieldDescriptor (zT_Trial k).2.2.1 = some (zY_Trial k) := by decide +kernel
def zR_Words : String := "HeadSplits$Words"
def zT_Words : u_T := fun k => match k with
  | 0 => ("HeadSplits$Words", "x", "LHeadSplits$Row;", true)
  | 1 => ("HeadSplits$Words", "y", "LHeadSplits$Row;", true)
  | _ => ("HeadSplits$Words", "z", "LHeadSplits$Row;", true)
def zY_Words : Nat → FieldType := fun k => match k with
  | 0 => .object "HeadSplits$Row"
  | 1 => .object "HeadSplits$Row"
  | _ => .object "HeadSplits$Row"
theorem zn_Words : ∀ a, a < 3 → ∀ b, b < 3 → a ≠ b → (zT_Words a).2.1 ≠ (zT_Words b).2.1 := by decide +kernel
theorem zy_Words : ∀ k, k < 3 → parseFieldDescriptor (zT_Words k).2.2.1 = some (zY_Words k) := by decide +kernel
def zR_H : String := "HeadSplits"
def zT_H : u_T := fun k => match k with
  | 0 => ("HeadSplits", "pad", "LHeadSplits$Row;", true)
  | 1 => ("HeadSplits", "book", "LHeadSplits$Book;", true)
  | 2 => ("HeadSplits", "firstImage", "LHeadSplits$Book;", true)
  | 3 => ("HeadSplits", "secondImage", "LHeadSplits$Book;", true)
  | 4 => ("HeadSplits", "shorts", "LHeadSplits$Shorts;", true)
  | 5 => ("HeadSplits", "nodes", "LHeadSplits$Net;", true)
  | 6 => ("HeadSplits", "found", "LHeadSplits$Answer;", true)
  | 7 => ("HeadSplits", "trial", "LHeadSplits$Trial;", true)
  | 8 => ("HeadSplits", "tally", "LHeadSplits$Tally;", true)
  | 9 => ("HeadSplits", "leftWord", "LHeadSplits$Row;", true)
  | 10 => ("HeadSplits", "rightWord", "LHeadSplits$Row;", true)
  | 11 => ("HeadSplits", "briefWord", "LHeadSplits$Row;", true)
  | 12 => ("HeadSplits", "netStands", "Z", false)
  | _ => ("HeadSplits", "trialStands", "Z", false)
def zY_H : Nat → FieldType := fun k => match k with
  | 0 => .object "HeadSplits$Row"
  | 1 => .object "HeadSplits$Book"
  | 2 => .object "HeadSplits$Book"
  | 3 => .object "HeadSplits$Book"
  | 4 => .object "HeadSplits$Shorts"
  | 5 => .object "HeadSplits$Net"
  | 6 => .object "HeadSplits$Answer"
  | 7 => .object "HeadSplits$Trial"
  | 8 => .object "HeadSplits$Tally"
  | 9 => .object "HeadSplits$Row"
  | 10 => .object "HeadSplits$Row"
  | 11 => .object "HeadSplits$Row"
  | 12 => .boolean
  | _ => .boolean
theorem zn_H : ∀ a, a < 14 → ∀ b, b < 14 → a ≠ b → (zT_H a).2.1 ≠ (zT_H b).2.1 := by decide +kernel
theorem zy_H : ∀ k, k < 14 → parseFieldDescriptor (zT_H k).2.2.1 = some (zY_H k) := by decide +kernel
def zR_Mo : String := "HeadSplitsModel"
def zT_Mo : u_T := fun k => match k with
  | 0 => ("HeadSplitsModel", "row", "[I", true)
  | 1 => ("HeadSplitsModel", "rowMany", "[I", true)
  | 2 => ("HeadSplitsModel", "goes", "[I", true)
  | 3 => ("HeadSplitsModel", "wanted", "[I", true)
  | 4 => ("HeadSplitsModel", "word", "[I", true)
  | 5 => ("HeadSplitsModel", "wordMany", "[I", true)
  | 6 => ("HeadSplitsModel", "pad", "[I", true)
  | 7 => ("HeadSplitsModel", "padMany", "I", false)
  | 8 => ("HeadSplitsModel", "read", "[I", true)
  | 9 => ("HeadSplitsModel", "readMany", "[I", true)
  | 10 => ("HeadSplitsModel", "does", "[I", true)
  | 11 => ("HeadSplitsModel", "doesWord", "[I", true)
  | 12 => ("HeadSplitsModel", "doesLong", "[I", true)
  | 13 => ("HeadSplitsModel", "doesMany", "I", false)
  | 14 => ("HeadSplitsModel", "nodeRow", "[I", true)
  | 15 => ("HeadSplitsModel", "nodeMany", "[I", true)
  | 16 => ("HeadSplitsModel", "nodeNeed", "[I", true)
  | 17 => ("HeadSplitsModel", "depth", "[I", true)
  | 18 => ("HeadSplitsModel", "parent", "[I", true)
  | 19 => ("HeadSplitsModel", "byMove", "[I", true)
  | 20 => ("HeadSplitsModel", "isCut", "[Z", true)
  | 21 => ("HeadSplitsModel", "nodes", "I", false)
  | 22 => ("HeadSplitsModel", "isNet", "Z", false)
  | 23 => ("HeadSplitsModel", "made", "[I", true)
  | 24 => ("HeadSplitsModel", "madeMany", "[I", true)
  | 25 => ("HeadSplitsModel", "madeNeed", "[I", true)
  | 26 => ("HeadSplitsModel", "moves", "[I", true)
  | 27 => ("HeadSplitsModel", "moveMany", "I", false)
  | 28 => ("HeadSplitsModel", "leadingMany", "I", false)
  | 29 => ("HeadSplitsModel", "leadingMove", "I", false)
  | 30 => ("HeadSplitsModel", "leadingTo", "I", false)
  | 31 => ("HeadSplitsModel", "said", "[I", true)
  | 32 => ("HeadSplitsModel", "saidMany", "[I", true)
  | 33 => ("HeadSplitsModel", "isLong", "Z", false)
  | 34 => ("HeadSplitsModel", "tried", "[I", true)
  | 35 => ("HeadSplitsModel", "triedMany", "[I", true)
  | 36 => ("HeadSplitsModel", "whole", "[I", true)
  | 37 => ("HeadSplitsModel", "wholeMany", "[I", true)
  | 38 => ("HeadSplitsModel", "best", "[I", true)
  | 39 => ("HeadSplitsModel", "kept", "[I", true)
  | 40 => ("HeadSplitsModel", "isKept", "[Z", true)
  | 41 => ("HeadSplitsModel", "keptAt", "I", false)
  | _ => ("HeadSplitsModel", "isWriting", "Z", false)
def zY_Mo : Nat → FieldType := fun k => match k with
  | 0 => .array .int
  | 1 => .array .int
  | 2 => .array .int
  | 3 => .array .int
  | 4 => .array .int
  | 5 => .array .int
  | 6 => .array .int
  | 7 => .int
  | 8 => .array .int
  | 9 => .array .int
  | 10 => .array .int
  | 11 => .array .int
  | 12 => .array .int
  | 13 => .int
  | 14 => .array .int
  | 15 => .array .int
  | 16 => .array .int
  | 17 => .array .int
  | 18 => .array .int
  | 19 => .array .int
  | 20 => .array .boolean
  | 21 => .int
  | 22 => .boolean
  | 23 => .array .int
  | 24 => .array .int
  | 25 => .array .int
  | 26 => .array .int
  | 27 => .int
  | 28 => .int
  | 29 => .int
  | 30 => .int
  | 31 => .array .int
  | 32 => .array .int
  | 33 => .boolean
  | 34 => .array .int
  | 35 => .array .int
  | 36 => .array .int
  | 37 => .array .int
  | 38 => .array .int
  | 39 => .array .int
  | 40 => .array .boolean
  | 41 => .int
  | _ => .boolean
theorem zn_Mo : ∀ a, a < 43 → ∀ b, b < 43 → a ≠ b → (zT_Mo a).2.1 ≠ (zT_Mo b).2.1 := by decide +kernel
theorem zy_Mo : ∀ k, k < 43 → parseFieldDescriptor (zT_Mo k).2.2.1 = some (zY_Mo k) := by decide +kernel
abbrev zCl : List vw_C := [(zR_Answer, zT_Answer, 4), (zR_Book, zT_Book, 6), (zR_Machine, zT_Machine, 1), (zR_Net, zT_Net, 13), (zR_Node, zT_Node, 11), (zR_Row, zT_Row, 2), (zR_Shorts, zT_Shorts, 7), (zR_Tally, zT_Tally, 2), (zR_Trial, zT_Trial, 5), (zR_Words, zT_Words, 3), (zR_H, zT_H, 14), (zR_Mo, zT_Mo, 43)]
abbrev m_Answer_init : MethodName × ByteArray × Nat × Option FieldType := (⟨"HeadSplits$Answer", "<init>", "(LHeadSplits$Net;LHeadSplits$Shorts;)V"⟩, prog_2_method_1_code, 3, none)
abbrev m_Answer_trace : MethodName × ByteArray × Nat × Option FieldType := (⟨"HeadSplits$Answer", "trace", "()V"⟩, prog_2_method_2_code, 4, none)
abbrev m_Answer_goBack : MethodName × ByteArray × Nat × Option FieldType := (⟨"HeadSplits$Answer", "goBack", "(LHeadSplits$Node;I)Z"⟩, prog_2_method_3_code, 7, (some .boolean))
abbrev m_Book_init : MethodName × ByteArray × Nat × Option FieldType := (⟨"HeadSplits$Book", "<init>", "()V"⟩, prog_3_method_1_code, 1, none)
abbrev m_Book_copy : MethodName × ByteArray × Nat × Option FieldType := (⟨"HeadSplits$Book", "copy", "(LHeadSplits$Book;)V"⟩, prog_3_method_2_code, 2, none)
abbrev m_Book_wordsMeetNeeds : MethodName × ByteArray × Nat × Option FieldType := (⟨"HeadSplits$Book", "wordsMeetNeeds", "()Z"⟩, prog_3_method_3_code, 2, (some .boolean))
abbrev m_Book_mapOf : MethodName × ByteArray × Nat × Option FieldType := (⟨"HeadSplits$Book", "mapOf", "(LHeadSplits$Row;)I"⟩, prog_3_method_4_code, 4, (some .int))
abbrev m_Machine_init : MethodName × ByteArray × Nat × Option FieldType := (⟨"HeadSplits$Machine", "<init>", "()V"⟩, prog_4_method_1_code, 2, none)
abbrev m_Machine_after : MethodName × ByteArray × Nat × Option FieldType := (⟨"HeadSplits$Machine", "after", "(II)I"⟩, prog_4_method_2_code, 4, (some .int))
abbrev m_Machine_turn : MethodName × ByteArray × Nat × Option FieldType := (⟨"HeadSplits$Machine", "turn", "(III)V"⟩, prog_4_method_3_code, 5, none)
abbrev m_Machine_mapBehind : MethodName × ByteArray × Nat × Option FieldType := (⟨"HeadSplits$Machine", "mapBehind", "(II)I"⟩, prog_4_method_4_code, 6, (some .int))
abbrev m_Machine_copy : MethodName × ByteArray × Nat × Option FieldType := (⟨"HeadSplits$Machine", "copy", "(LHeadSplits$Machine;)V"⟩, prog_4_method_5_code, 3, none)
abbrev m_Need_ofVariable : MethodName × ByteArray × Nat × Option FieldType := (⟨"HeadSplits$Need", "ofVariable", "(II)I"⟩, prog_5_method_2_code, 2, (some .int))
abbrev m_Need_ofState : MethodName × ByteArray × Nat × Option FieldType := (⟨"HeadSplits$Need", "ofState", "(II)I"⟩, prog_5_method_3_code, 2, (some .int))
abbrev m_Need_withVariable : MethodName × ByteArray × Nat × Option FieldType := (⟨"HeadSplits$Need", "withVariable", "(III)I"⟩, prog_5_method_4_code, 3, (some .int))
abbrev m_Need_withState : MethodName × ByteArray × Nat × Option FieldType := (⟨"HeadSplits$Need", "withState", "(IIII)I"⟩, prog_5_method_5_code, 5, (some .int))
abbrev m_Need_allows : MethodName × ByteArray × Nat × Option FieldType := (⟨"HeadSplits$Need", "allows", "(II)Z"⟩, prog_5_method_6_code, 2, (some .boolean))
abbrev m_Need_narrowed : MethodName × ByteArray × Nat × Option FieldType := (⟨"HeadSplits$Need", "narrowed", "(III)I"⟩, prog_5_method_7_code, 3, (some .int))
abbrev m_Need_behindLetter : MethodName × ByteArray × Nat × Option FieldType := (⟨"HeadSplits$Need", "behindLetter", "(IILHeadSplits$Machine;)I"⟩, prog_5_method_8_code, 5, (some .int))
abbrev m_Need_stateOfTurn : MethodName × ByteArray × Nat × Option FieldType := (⟨"HeadSplits$Need", "stateOfTurn", "(II)I"⟩, prog_5_method_9_code, 2, (some .int))
abbrev m_Need_isTurn : MethodName × ByteArray × Nat × Option FieldType := (⟨"HeadSplits$Need", "isTurn", "(II)Z"⟩, prog_5_method_10_code, 3, (some .boolean))
abbrev m_Need_behindTurn : MethodName × ByteArray × Nat × Option FieldType := (⟨"HeadSplits$Need", "behindTurn", "(II)I"⟩, prog_5_method_11_code, 4, (some .int))
abbrev m_Need_aheadOfTurn : MethodName × ByteArray × Nat × Option FieldType := (⟨"HeadSplits$Need", "aheadOfTurn", "(III)I"⟩, prog_5_method_12_code, 5, (some .int))
abbrev m_Net_init : MethodName × ByteArray × Nat × Option FieldType := (⟨"HeadSplits$Net", "<init>", "(LHeadSplits$Book;LHeadSplits$Shorts;)V"⟩, prog_6_method_1_code, 3, none)
abbrev m_Net_at : MethodName × ByteArray × Nat × Option FieldType := (⟨"HeadSplits$Net", "at", "(I)LHeadSplits$Node;"⟩, prog_6_method_2_code, 2, (some (.object "HeadSplits$Node")))
abbrev m_Net_verdict : MethodName × ByteArray × Nat × Option FieldType := (⟨"HeadSplits$Net", "verdict", "()I"⟩, prog_6_method_3_code, 1, (some .int))
abbrev m_Net_begin : MethodName × ByteArray × Nat × Option FieldType := (⟨"HeadSplits$Net", "begin", "()V"⟩, prog_6_method_4_code, 1, none)
abbrev m_Net_unfold : MethodName × ByteArray × Nat × Option FieldType := (⟨"HeadSplits$Net", "unfold", "(I)V"⟩, prog_6_method_5_code, 5, none)
abbrev m_Net_draftNothing : MethodName × ByteArray × Nat × Option FieldType := (⟨"HeadSplits$Net", "draftNothing", "(LHeadSplits$Node;I)V"⟩, prog_6_method_6_code, 4, none)
abbrev m_Net_draftBegins : MethodName × ByteArray × Nat × Option FieldType := (⟨"HeadSplits$Net", "draftBegins", "(LHeadSplits$Node;II)V"⟩, prog_6_method_7_code, 8, none)
abbrev m_Net_draftTurns : MethodName × ByteArray × Nat × Option FieldType := (⟨"HeadSplits$Net", "draftTurns", "(IIII)V"⟩, prog_6_method_8_code, 9, none)
abbrev m_Net_addDraft : MethodName × ByteArray × Nat × Option FieldType := (⟨"HeadSplits$Net", "addDraft", "(II)V"⟩, prog_6_method_9_code, 3, none)
abbrev m_Net_makeLean : MethodName × ByteArray × Nat × Option FieldType := (⟨"HeadSplits$Net", "makeLean", "()V"⟩, prog_6_method_10_code, 2, none)
abbrev m_Net_settleDrafts : MethodName × ByteArray × Nat × Option FieldType := (⟨"HeadSplits$Net", "settleDrafts", "(LHeadSplits$Node;)V"⟩, prog_6_method_11_code, 6, none)
abbrev m_Net_bucketOf : MethodName × ByteArray × Nat × Option FieldType := (⟨"HeadSplits$Net", "bucketOf", "(I)I"⟩, prog_6_method_12_code, 3, (some .int))
abbrev m_Net_metBefore : MethodName × ByteArray × Nat × Option FieldType := (⟨"HeadSplits$Net", "metBefore", "(I)LHeadSplits$Node;"⟩, prog_6_method_13_code, 6, (some (.object "HeadSplits$Node")))
abbrev m_Net_meet : MethodName × ByteArray × Nat × Option FieldType := (⟨"HeadSplits$Net", "meet", "(I)LHeadSplits$Node;"⟩, prog_6_method_14_code, 4, (some (.object "HeadSplits$Node")))
abbrev m_Node_init : MethodName × ByteArray × Nat × Option FieldType := (⟨"HeadSplits$Node", "<init>", "(I)V"⟩, prog_7_method_1_code, 2, none)
abbrev m_Node_start : MethodName × ByteArray × Nat × Option FieldType := (⟨"HeadSplits$Node", "start", "(ILHeadSplits$Row;LHeadSplits$Row;)V"⟩, prog_7_method_2_code, 4, none)
abbrev m_Node_addMove : MethodName × ByteArray × Nat × Option FieldType := (⟨"HeadSplits$Node", "addMove", "(LHeadSplits$Node;I)V"⟩, prog_7_method_3_code, 3, none)
abbrev m_Row_init : MethodName × ByteArray × Nat × Option FieldType := (⟨"HeadSplits$Row", "<init>", "(I)V"⟩, prog_8_method_1_code, 2, none)
abbrev m_Row_size : MethodName × ByteArray × Nat × Option FieldType := (⟨"HeadSplits$Row", "size", "()I"⟩, prog_8_method_2_code, 1, (some .int))
abbrev m_Row_at : MethodName × ByteArray × Nat × Option FieldType := (⟨"HeadSplits$Row", "at", "(I)I"⟩, prog_8_method_3_code, 2, (some .int))
abbrev m_Row_makeEmpty : MethodName × ByteArray × Nat × Option FieldType := (⟨"HeadSplits$Row", "makeEmpty", "()V"⟩, prog_8_method_4_code, 1, none)
abbrev m_Row_push : MethodName × ByteArray × Nat × Option FieldType := (⟨"HeadSplits$Row", "push", "(I)Z"⟩, prog_8_method_5_code, 2, (some .boolean))
abbrev m_Row_pushAhead : MethodName × ByteArray × Nat × Option FieldType := (⟨"HeadSplits$Row", "pushAhead", "(I)Z"⟩, prog_8_method_6_code, 2, (some .boolean))
abbrev m_Row_putAhead : MethodName × ByteArray × Nat × Option FieldType := (⟨"HeadSplits$Row", "putAhead", "(LHeadSplits$Row;)Z"⟩, prog_8_method_7_code, 4, (some .boolean))
abbrev m_Row_makeRoom : MethodName × ByteArray × Nat × Option FieldType := (⟨"HeadSplits$Row", "makeRoom", "(I)Z"⟩, prog_8_method_8_code, 3, (some .boolean))
abbrev m_Row_dropFirst : MethodName × ByteArray × Nat × Option FieldType := (⟨"HeadSplits$Row", "dropFirst", "(I)V"⟩, prog_8_method_9_code, 3, none)
abbrev m_Row_copy : MethodName × ByteArray × Nat × Option FieldType := (⟨"HeadSplits$Row", "copy", "(LHeadSplits$Row;)V"⟩, prog_8_method_10_code, 3, none)
abbrev m_Row_add : MethodName × ByteArray × Nat × Option FieldType := (⟨"HeadSplits$Row", "add", "(LHeadSplits$Row;)V"⟩, prog_8_method_11_code, 3, none)
abbrev m_Row_copyWithout : MethodName × ByteArray × Nat × Option FieldType := (⟨"HeadSplits$Row", "copyWithout", "(LHeadSplits$Row;I)V"⟩, prog_8_method_12_code, 4, none)
abbrev m_Row_copyWithAhead : MethodName × ByteArray × Nat × Option FieldType := (⟨"HeadSplits$Row", "copyWithAhead", "(LHeadSplits$Row;II)V"⟩, prog_8_method_13_code, 5, none)
abbrev m_Row_sameAs : MethodName × ByteArray × Nat × Option FieldType := (⟨"HeadSplits$Row", "sameAs", "(LHeadSplits$Row;)Z"⟩, prog_8_method_14_code, 3, (some .boolean))
abbrev m_Row_sameAtFront : MethodName × ByteArray × Nat × Option FieldType := (⟨"HeadSplits$Row", "sameAtFront", "(LHeadSplits$Row;)I"⟩, prog_8_method_15_code, 3, (some .int))
abbrev m_Row_mark : MethodName × ByteArray × Nat × Option FieldType := (⟨"HeadSplits$Row", "mark", "()I"⟩, prog_8_method_16_code, 3, (some .int))
abbrev m_Shorts_init : MethodName × ByteArray × Nat × Option FieldType := (⟨"HeadSplits$Shorts", "<init>", "(LHeadSplits$Machine;)V"⟩, prog_9_method_1_code, 2, none)
abbrev m_Shorts_forget : MethodName × ByteArray × Nat × Option FieldType := (⟨"HeadSplits$Shorts", "forget", "()V"⟩, prog_9_method_2_code, 1, none)
abbrev m_Shorts_refresh : MethodName × ByteArray × Nat × Option FieldType := (⟨"HeadSplits$Shorts", "refresh", "()V"⟩, prog_9_method_3_code, 3, none)
abbrev m_Shorts_meet : MethodName × ByteArray × Nat × Option FieldType := (⟨"HeadSplits$Shorts", "meet", "(III)V"⟩, prog_9_method_4_code, 5, none)
abbrev m_Shorts_firstFit : MethodName × ByteArray × Nat × Option FieldType := (⟨"HeadSplits$Shorts", "firstFit", "(I)I"⟩, prog_9_method_5_code, 4, (some .int))
abbrev m_Shorts_anyHopeless : MethodName × ByteArray × Nat × Option FieldType := (⟨"HeadSplits$Shorts", "anyHopeless", "(I)Z"⟩, prog_9_method_6_code, 3, (some .boolean))
abbrev m_Shorts_write : MethodName × ByteArray × Nat × Option FieldType := (⟨"HeadSplits$Shorts", "write", "(ILHeadSplits$Row;)V"⟩, prog_9_method_7_code, 5, none)
abbrev m_Tally_init : MethodName × ByteArray × Nat × Option FieldType := (⟨"HeadSplits$Tally", "<init>", "()V"⟩, prog_10_method_1_code, 1, none)
abbrev m_Tally_count : MethodName × ByteArray × Nat × Option FieldType := (⟨"HeadSplits$Tally", "count", "(LHeadSplits$Book;)V"⟩, prog_10_method_2_code, 2, none)
abbrev m_Tally_countRow : MethodName × ByteArray × Nat × Option FieldType := (⟨"HeadSplits$Tally", "countRow", "(LHeadSplits$Row;I)V"⟩, prog_10_method_3_code, 5, none)
abbrev m_Tally_mostOfAVariable : MethodName × ByteArray × Nat × Option FieldType := (⟨"HeadSplits$Tally", "mostOfAVariable", "()I"⟩, prog_10_method_4_code, 1, (some .int))
abbrev m_Tally_wordsGive : MethodName × ByteArray × Nat × Option FieldType := (⟨"HeadSplits$Tally", "wordsGive", "(III)I"⟩, prog_10_method_5_code, 4, (some .int))
abbrev m_Tally_lacking : MethodName × ByteArray × Nat × Option FieldType := (⟨"HeadSplits$Tally", "lacking", "(I)I"⟩, prog_10_method_6_code, 4, (some .int))
abbrev m_Trial_init : MethodName × ByteArray × Nat × Option FieldType := (⟨"HeadSplits$Trial", "<init>", "()V"⟩, prog_11_method_1_code, 2, none)
abbrev m_Trial_seek : MethodName × ByteArray × Nat × Option FieldType := (⟨"HeadSplits$Trial", "seek", "(LHeadSplits$Book;LHeadSplits$Tally;)V"⟩, prog_11_method_2_code, 4, none)
abbrev m_Trial_seekOfSize : MethodName × ByteArray × Nat × Option FieldType := (⟨"HeadSplits$Trial", "seekOfSize", "(LHeadSplits$Book;LHeadSplits$Tally;I)Z"⟩, prog_11_method_3_code, 7, (some .boolean))
abbrev m_Trial_seekLast : MethodName × ByteArray × Nat × Option FieldType := (⟨"HeadSplits$Trial", "seekLast", "(LHeadSplits$Book;I)Z"⟩, prog_11_method_4_code, 4, (some .boolean))
abbrev m_Trial_choose : MethodName × ByteArray × Nat × Option FieldType := (⟨"HeadSplits$Trial", "choose", "(II)Z"⟩, prog_11_method_5_code, 3, (some .boolean))
abbrev m_Trial_spelled : MethodName × ByteArray × Nat × Option FieldType := (⟨"HeadSplits$Trial", "spelled", "(LHeadSplits$Row;)J"⟩, prog_11_method_6_code, 6, (some .long))
abbrev m_Trial_sizeOf : MethodName × ByteArray × Nat × Option FieldType := (⟨"HeadSplits$Trial", "sizeOf", "(I)I"⟩, prog_11_method_7_code, 1, (some .int))
abbrev m_Trial_findMaps : MethodName × ByteArray × Nat × Option FieldType := (⟨"HeadSplits$Trial", "findMaps", "(LHeadSplits$Machine;)V"⟩, prog_11_method_8_code, 3, none)
abbrev m_Trial_allowedWords : MethodName × ByteArray × Nat × Option FieldType := (⟨"HeadSplits$Trial", "allowedWords", "(I)I"⟩, prog_11_method_9_code, 4, (some .int))
abbrev m_Trial_codeOf : MethodName × ByteArray × Nat × Option FieldType := (⟨"HeadSplits$Trial", "codeOf", "(I)I"⟩, prog_11_method_10_code, 5, (some .int))
abbrev m_Words_init : MethodName × ByteArray × Nat × Option FieldType := (⟨"HeadSplits$Words", "<init>", "(I)V"⟩, prog_12_method_1_code, 2, none)
abbrev m_Words_of : MethodName × ByteArray × Nat × Option FieldType := (⟨"HeadSplits$Words", "of", "(I)LHeadSplits$Row;"⟩, prog_12_method_2_code, 2, (some (.object "HeadSplits$Row")))
abbrev m_Words_copy : MethodName × ByteArray × Nat × Option FieldType := (⟨"HeadSplits$Words", "copy", "(LHeadSplits$Words;)V"⟩, prog_12_method_3_code, 2, none)
abbrev m_Words_together : MethodName × ByteArray × Nat × Option FieldType := (⟨"HeadSplits$Words", "together", "()I"⟩, prog_12_method_4_code, 1, (some .int))
abbrev m_Words_longest : MethodName × ByteArray × Nat × Option FieldType := (⟨"HeadSplits$Words", "longest", "()I"⟩, prog_12_method_5_code, 1, (some .int))
abbrev m_Words_spellOut : MethodName × ByteArray × Nat × Option FieldType := (⟨"HeadSplits$Words", "spellOut", "(LHeadSplits$Row;LHeadSplits$Row;)V"⟩, prog_12_method_6_code, 5, none)
abbrev m_H_init : MethodName × ByteArray × Nat × Option FieldType := (⟨"HeadSplits", "<init>", "()V"⟩, prog_1_method_1_code, 1, none)
abbrev m_H_say : MethodName × ByteArray × Nat × Option FieldType := (⟨"HeadSplits", "say", "(I)I"⟩, prog_1_method_2_code, 2, (some .int))
abbrev m_H_wipe : MethodName × ByteArray × Nat × Option FieldType := (⟨"HeadSplits", "wipe", "()I"⟩, prog_1_method_3_code, 2, (some .int))
abbrev m_H_fault : MethodName × ByteArray × Nat × Option FieldType := (⟨"HeadSplits", "fault", "()I"⟩, prog_1_method_4_code, 1, (some .int))
abbrev m_H_load : MethodName × ByteArray × Nat × Option FieldType := (⟨"HeadSplits", "load", "()I"⟩, prog_1_method_5_code, 1, (some .int))
abbrev m_H_leads : MethodName × ByteArray × Nat × Option FieldType := (⟨"HeadSplits", "leads", "(III)I"⟩, prog_1_method_6_code, 5, (some .int))
abbrev m_H_need : MethodName × ByteArray × Nat × Option FieldType := (⟨"HeadSplits", "need", "(III)I"⟩, prog_1_method_7_code, 5, (some .int))
abbrev m_H_brief : MethodName × ByteArray × Nat × Option FieldType := (⟨"HeadSplits", "brief", "(II)I"⟩, prog_1_method_8_code, 4, (some .int))
abbrev m_H_net : MethodName × ByteArray × Nat × Option FieldType := (⟨"HeadSplits", "net", "(I)I"⟩, prog_1_method_9_code, 2, (some .int))
abbrev m_H_node : MethodName × ByteArray × Nat × Option FieldType := (⟨"HeadSplits", "node", "(II)I"⟩, prog_1_method_10_code, 4, (some .int))
abbrev m_H_symbol : MethodName × ByteArray × Nat × Option FieldType := (⟨"HeadSplits", "symbol", "(III)I"⟩, prog_1_method_11_code, 5, (some .int))
abbrev m_H_needs : MethodName × ByteArray × Nat × Option FieldType := (⟨"HeadSplits", "needs", "(III)I"⟩, prog_1_method_12_code, 5, (some .int))
abbrev m_H_move : MethodName × ByteArray × Nat × Option FieldType := (⟨"HeadSplits", "move", "(III)I"⟩, prog_1_method_13_code, 5, (some .int))
abbrev m_H_answer : MethodName × ByteArray × Nat × Option FieldType := (⟨"HeadSplits", "answer", "(II)I"⟩, prog_1_method_14_code, 3, (some .int))
abbrev m_H_spell : MethodName × ByteArray × Nat × Option FieldType := (⟨"HeadSplits", "spell", "(II)I"⟩, prog_1_method_15_code, 4, (some .int))
abbrev m_H_clear : MethodName × ByteArray × Nat × Option FieldType := (⟨"HeadSplits", "clear", "(I)I"⟩, prog_1_method_16_code, 4, (some .int))
abbrev m_H_take : MethodName × ByteArray × Nat × Option FieldType := (⟨"HeadSplits", "take", "()I"⟩, prog_1_method_17_code, 1, (some .int))
abbrev m_H_fits : MethodName × ByteArray × Nat × Option FieldType := (⟨"HeadSplits", "fits", "()I"⟩, prog_1_method_18_code, 3, (some .int))
abbrev m_H_lengths : MethodName × ByteArray × Nat × Option FieldType := (⟨"HeadSplits", "lengths", "(II)I"⟩, prog_1_method_19_code, 6, (some .int))
abbrev m_H_shortest : MethodName × ByteArray × Nat × Option FieldType := (⟨"HeadSplits", "shortest", "(I)I"⟩, prog_1_method_20_code, 2, (some .int))
abbrev m_H_image : MethodName × ByteArray × Nat × Option FieldType := (⟨"HeadSplits", "image", "(I)I"⟩, prog_1_method_21_code, 3, (some .int))
abbrev m_H_restore : MethodName × ByteArray × Nat × Option FieldType := (⟨"HeadSplits", "restore", "(I)I"⟩, prog_1_method_22_code, 3, (some .int))
abbrev m_H_told : MethodName × ByteArray × Nat × Option FieldType := (⟨"HeadSplits", "told", "(I)I"⟩, prog_1_method_23_code, 3, (some .int))
abbrev m_H_isLetter : MethodName × ByteArray × Nat × Option FieldType := (⟨"HeadSplits", "isLetter", "(I)Z"⟩, prog_1_method_24_code, 1, (some .boolean))
abbrev m_H_isVariable : MethodName × ByteArray × Nat × Option FieldType := (⟨"HeadSplits", "isVariable", "(I)Z"⟩, prog_1_method_25_code, 1, (some .boolean))
abbrev m_H_isState : MethodName × ByteArray × Nat × Option FieldType := (⟨"HeadSplits", "isState", "(I)Z"⟩, prog_1_method_26_code, 1, (some .boolean))
abbrev m_H_sizeOrItem : MethodName × ByteArray × Nat × Option FieldType := (⟨"HeadSplits", "sizeOrItem", "(LHeadSplits$Row;I)I"⟩, prog_1_method_27_code, 2, (some .int))
abbrev m_H_symbolOf : MethodName × ByteArray × Nat × Option FieldType := (⟨"HeadSplits", "symbolOf", "(I)I"⟩, prog_1_method_28_code, 1, (some .int))
abbrev m_H_firstFault : MethodName × ByteArray × Nat × Option FieldType := (⟨"HeadSplits", "firstFault", "()I"⟩, prog_1_method_29_code, 4, (some .int))
abbrev m_H_pourPad : MethodName × ByteArray × Nat × Option FieldType := (⟨"HeadSplits", "pourPad", "()V"⟩, prog_1_method_30_code, 3, none)
abbrev m_H_needsOrRowsChanged : MethodName × ByteArray × Nat × Option FieldType := (⟨"HeadSplits", "needsOrRowsChanged", "()V"⟩, prog_1_method_31_code, 1, none)
abbrev m_H_machineChanged : MethodName × ByteArray × Nat × Option FieldType := (⟨"HeadSplits", "machineChanged", "()V"⟩, prog_1_method_32_code, 1, none)
abbrev m_H_refreshNet : MethodName × ByteArray × Nat × Option FieldType := (⟨"HeadSplits", "refreshNet", "()V"⟩, prog_1_method_33_code, 2, none)
abbrev m_H_wordsMakeRowsOne : MethodName × ByteArray × Nat × Option FieldType := (⟨"HeadSplits", "wordsMakeRowsOne", "()Z"⟩, prog_1_method_34_code, 1, (some .boolean))
abbrev m_Mo_init : MethodName × ByteArray × Nat × Option FieldType := (⟨"HeadSplitsModel", "<init>", "()V"⟩, prog_14_method_1_code, 2, none)
abbrev m_Mo_in : MethodName × ByteArray × Nat × Option FieldType := (⟨"HeadSplitsModel", "in", "(JJJ)Z"⟩, prog_14_method_3_code, 6, (some .boolean))
abbrev m_Mo_isThird : MethodName × ByteArray × Nat × Option FieldType := (⟨"HeadSplitsModel", "isThird", "(I)Z"⟩, prog_14_method_4_code, 1, (some .boolean))
abbrev m_Mo_has : MethodName × ByteArray × Nat × Option FieldType := (⟨"HeadSplitsModel", "has", "(II)Z"⟩, prog_14_method_5_code, 2, (some .boolean))
abbrev m_Mo_say : MethodName × ByteArray × Nat × Option FieldType := (⟨"HeadSplitsModel", "say", "(I)I"⟩, prog_14_method_6_code, 2, (some .int))
abbrev m_Mo_wipe : MethodName × ByteArray × Nat × Option FieldType := (⟨"HeadSplitsModel", "wipe", "()I"⟩, prog_14_method_7_code, 2, (some .int))
abbrev m_Mo_symbolOf : MethodName × ByteArray × Nat × Option FieldType := (⟨"HeadSplitsModel", "symbolOf", "(I)I"⟩, prog_14_method_8_code, 1, (some .int))
abbrev m_Mo_fault : MethodName × ByteArray × Nat × Option FieldType := (⟨"HeadSplitsModel", "fault", "()I"⟩, prog_14_method_9_code, 5, (some .int))
abbrev m_Mo_load : MethodName × ByteArray × Nat × Option FieldType := (⟨"HeadSplitsModel", "load", "()I"⟩, prog_14_method_10_code, 2, (some .int))
abbrev m_Mo_leads : MethodName × ByteArray × Nat × Option FieldType := (⟨"HeadSplitsModel", "leads", "(III)I"⟩, prog_14_method_11_code, 5, (some .int))
abbrev m_Mo_need : MethodName × ByteArray × Nat × Option FieldType := (⟨"HeadSplitsModel", "need", "(III)I"⟩, prog_14_method_12_code, 5, (some .int))
abbrev m_Mo_isDone : MethodName × ByteArray × Nat × Option FieldType := (⟨"HeadSplitsModel", "isDone", "(III)Z"⟩, prog_14_method_13_code, 6, (some .boolean))
abbrev m_Mo_addDone : MethodName × ByteArray × Nat × Option FieldType := (⟨"HeadSplitsModel", "addDone", "(IIIII)V"⟩, prog_14_method_14_code, 6, none)
abbrev m_Mo_findDone : MethodName × ByteArray × Nat × Option FieldType := (⟨"HeadSplitsModel", "findDone", "()V"⟩, prog_14_method_15_code, 4, none)
abbrev m_Mo_firstFor : MethodName × ByteArray × Nat × Option FieldType := (⟨"HeadSplitsModel", "firstFor", "([II)I"⟩, prog_14_method_16_code, 4, (some .int))
abbrev m_Mo_brief : MethodName × ByteArray × Nat × Option FieldType := (⟨"HeadSplitsModel", "brief", "(II)I"⟩, prog_14_method_17_code, 4, (some .int))
abbrev m_Mo_dropFirst : MethodName × ByteArray × Nat × Option FieldType := (⟨"HeadSplitsModel", "dropFirst", "()V"⟩, prog_14_method_18_code, 3, none)
abbrev m_Mo_lean : MethodName × ByteArray × Nat × Option FieldType := (⟨"HeadSplitsModel", "lean", "()V"⟩, prog_14_method_19_code, 1, none)
abbrev m_Mo_isHopeless : MethodName × ByteArray × Nat × Option FieldType := (⟨"HeadSplitsModel", "isHopeless", "()Z"⟩, prog_14_method_20_code, 1, (some .boolean))
abbrev m_Mo_isSame : MethodName × ByteArray × Nat × Option FieldType := (⟨"HeadSplitsModel", "isSame", "(I)Z"⟩, prog_14_method_21_code, 5, (some .boolean))
abbrev m_Mo_lookFor : MethodName × ByteArray × Nat × Option FieldType := (⟨"HeadSplitsModel", "lookFor", "()I"⟩, prog_14_method_22_code, 2, (some .int))
abbrev m_Mo_addNode : MethodName × ByteArray × Nat × Option FieldType := (⟨"HeadSplitsModel", "addNode", "(III)V"⟩, prog_14_method_23_code, 6, none)
abbrev m_Mo_firstOf : MethodName × ByteArray × Nat × Option FieldType := (⟨"HeadSplitsModel", "firstOf", "(II)I"⟩, prog_14_method_24_code, 3, (some .int))
abbrev m_Mo_isEnd : MethodName × ByteArray × Nat × Option FieldType := (⟨"HeadSplitsModel", "isEnd", "(I)Z"⟩, prog_14_method_25_code, 3, (some .boolean))
abbrev m_Mo_addMove : MethodName × ByteArray × Nat × Option FieldType := (⟨"HeadSplitsModel", "addMove", "(III)V"⟩, prog_14_method_26_code, 4, none)
abbrev m_Mo_third : MethodName × ByteArray × Nat × Option FieldType := (⟨"HeadSplitsModel", "third", "(I)I"⟩, prog_14_method_27_code, 1, (some .int))
abbrev m_Mo_isTurn : MethodName × ByteArray × Nat × Option FieldType := (⟨"HeadSplitsModel", "isTurn", "(III)Z"⟩, prog_14_method_28_code, 6, (some .boolean))
abbrev m_Mo_addBegins : MethodName × ByteArray × Nat × Option FieldType := (⟨"HeadSplitsModel", "addBegins", "(III)V"⟩, prog_14_method_29_code, 5, none)
abbrev m_Mo_findMoves : MethodName × ByteArray × Nat × Option FieldType := (⟨"HeadSplitsModel", "findMoves", "(I)V"⟩, prog_14_method_30_code, 4, none)
abbrev m_Mo_layRows : MethodName × ByteArray × Nat × Option FieldType := (⟨"HeadSplitsModel", "layRows", "(III)V"⟩, prog_14_method_31_code, 9, none)
abbrev m_Mo_letterAhead : MethodName × ByteArray × Nat × Option FieldType := (⟨"HeadSplitsModel", "letterAhead", "(III)V"⟩, prog_14_method_32_code, 7, none)
abbrev m_Mo_variableAhead : MethodName × ByteArray × Nat × Option FieldType := (⟨"HeadSplitsModel", "variableAhead", "(IIII)V"⟩, prog_14_method_33_code, 8, none)
abbrev m_Mo_isNothing : MethodName × ByteArray × Nat × Option FieldType := (⟨"HeadSplitsModel", "isNothing", "(II)Z"⟩, prog_14_method_34_code, 4, (some .boolean))
abbrev m_Mo_makeMove : MethodName × ByteArray × Nat × Option FieldType := (⟨"HeadSplitsModel", "makeMove", "(II)I"⟩, prog_14_method_35_code, 7, (some .int))
abbrev m_Mo_goOn : MethodName × ByteArray × Nat × Option FieldType := (⟨"HeadSplitsModel", "goOn", "(I)V"⟩, prog_14_method_36_code, 5, none)
abbrev m_Mo_findNet : MethodName × ByteArray × Nat × Option FieldType := (⟨"HeadSplitsModel", "findNet", "()V"⟩, prog_14_method_37_code, 3, none)
abbrev m_Mo_firstEnd : MethodName × ByteArray × Nat × Option FieldType := (⟨"HeadSplitsModel", "firstEnd", "()I"⟩, prog_14_method_38_code, 2, (some .int))
abbrev m_Mo_cuts : MethodName × ByteArray × Nat × Option FieldType := (⟨"HeadSplitsModel", "cuts", "()I"⟩, prog_14_method_39_code, 3, (some .int))
abbrev m_Mo_mostOfOne : MethodName × ByteArray × Nat × Option FieldType := (⟨"HeadSplitsModel", "mostOfOne", "()I"⟩, prog_14_method_40_code, 6, (some .int))
abbrev m_Mo_net : MethodName × ByteArray × Nat × Option FieldType := (⟨"HeadSplitsModel", "net", "(I)I"⟩, prog_14_method_41_code, 2, (some .int))
abbrev m_Mo_isNode : MethodName × ByteArray × Nat × Option FieldType := (⟨"HeadSplitsModel", "isNode", "(I)Z"⟩, prog_14_method_42_code, 2, (some .boolean))
abbrev m_Mo_findLeading : MethodName × ByteArray × Nat × Option FieldType := (⟨"HeadSplitsModel", "findLeading", "(II)V"⟩, prog_14_method_43_code, 5, none)
abbrev m_Mo_node : MethodName × ByteArray × Nat × Option FieldType := (⟨"HeadSplitsModel", "node", "(II)I"⟩, prog_14_method_44_code, 3, (some .int))
abbrev m_Mo_symbol : MethodName × ByteArray × Nat × Option FieldType := (⟨"HeadSplitsModel", "symbol", "(III)I"⟩, prog_14_method_45_code, 4, (some .int))
abbrev m_Mo_needs : MethodName × ByteArray × Nat × Option FieldType := (⟨"HeadSplitsModel", "needs", "(III)I"⟩, prog_14_method_46_code, 4, (some .int))
abbrev m_Mo_move : MethodName × ByteArray × Nat × Option FieldType := (⟨"HeadSplitsModel", "move", "(III)I"⟩, prog_14_method_47_code, 4, (some .int))
abbrev m_Mo_ahead : MethodName × ByteArray × Nat × Option FieldType := (⟨"HeadSplitsModel", "ahead", "(II)V"⟩, prog_14_method_48_code, 4, none)
abbrev m_Mo_undoMove : MethodName × ByteArray × Nat × Option FieldType := (⟨"HeadSplitsModel", "undoMove", "(I)V"⟩, prog_14_method_49_code, 7, none)
abbrev m_Mo_isAnswered : MethodName × ByteArray × Nat × Option FieldType := (⟨"HeadSplitsModel", "isAnswered", "()Z"⟩, prog_14_method_50_code, 5, (some .boolean))
abbrev m_Mo_answer : MethodName × ByteArray × Nat × Option FieldType := (⟨"HeadSplitsModel", "answer", "(II)I"⟩, prog_14_method_51_code, 3, (some .int))
abbrev m_Mo_spell : MethodName × ByteArray × Nat × Option FieldType := (⟨"HeadSplitsModel", "spell", "(II)I"⟩, prog_14_method_52_code, 3, (some .int))
abbrev m_Mo_clear : MethodName × ByteArray × Nat × Option FieldType := (⟨"HeadSplitsModel", "clear", "(I)I"⟩, prog_14_method_53_code, 3, (some .int))
abbrev m_Mo_take : MethodName × ByteArray × Nat × Option FieldType := (⟨"HeadSplitsModel", "take", "()I"⟩, prog_14_method_54_code, 3, (some .int))
abbrev m_Mo_addWhole : MethodName × ByteArray × Nat × Option FieldType := (⟨"HeadSplitsModel", "addWhole", "(II)V"⟩, prog_14_method_55_code, 3, none)
abbrev m_Mo_layWhole : MethodName × ByteArray × Nat × Option FieldType := (⟨"HeadSplitsModel", "layWhole", "(I)V"⟩, prog_14_method_56_code, 5, none)
abbrev m_Mo_isOne : MethodName × ByteArray × Nat × Option FieldType := (⟨"HeadSplitsModel", "isOne", "()Z"⟩, prog_14_method_57_code, 3, (some .boolean))
abbrev m_Mo_isNeeded : MethodName × ByteArray × Nat × Option FieldType := (⟨"HeadSplitsModel", "isNeeded", "(I)Z"⟩, prog_14_method_58_code, 6, (some .boolean))
abbrev m_Mo_fits : MethodName × ByteArray × Nat × Option FieldType := (⟨"HeadSplitsModel", "fits", "()I"⟩, prog_14_method_59_code, 3, (some .int))
abbrev m_Mo_timesIn : MethodName × ByteArray × Nat × Option FieldType := (⟨"HeadSplitsModel", "timesIn", "(II)I"⟩, prog_14_method_60_code, 5, (some .int))
abbrev m_Mo_isLengths : MethodName × ByteArray × Nat × Option FieldType := (⟨"HeadSplitsModel", "isLengths", "(II)Z"⟩, prog_14_method_61_code, 6, (some .boolean))
abbrev m_Mo_lengths : MethodName × ByteArray × Nat × Option FieldType := (⟨"HeadSplitsModel", "lengths", "(II)I"⟩, prog_14_method_62_code, 5, (some .int))
abbrev m_Mo_tryWord : MethodName × ByteArray × Nat × Option FieldType := (⟨"HeadSplitsModel", "tryWord", "(II)V"⟩, prog_14_method_63_code, 6, none)
abbrev m_Mo_findShortest : MethodName × ByteArray × Nat × Option FieldType := (⟨"HeadSplitsModel", "findShortest", "()I"⟩, prog_14_method_64_code, 4, (some .int))
abbrev m_Mo_shortest : MethodName × ByteArray × Nat × Option FieldType := (⟨"HeadSplitsModel", "shortest", "(I)I"⟩, prog_14_method_65_code, 5, (some .int))
abbrev m_Mo_passRow : MethodName × ByteArray × Nat × Option FieldType := (⟨"HeadSplitsModel", "passRow", "([II)V"⟩, prog_14_method_66_code, 4, none)
abbrev m_Mo_passAll : MethodName × ByteArray × Nat × Option FieldType := (⟨"HeadSplitsModel", "passAll", "()V"⟩, prog_14_method_67_code, 1, none)
abbrev m_Mo_image : MethodName × ByteArray × Nat × Option FieldType := (⟨"HeadSplitsModel", "image", "(I)I"⟩, prog_14_method_68_code, 2, (some .int))
abbrev m_Mo_restore : MethodName × ByteArray × Nat × Option FieldType := (⟨"HeadSplitsModel", "restore", "(I)I"⟩, prog_14_method_69_code, 2, (some .int))
abbrev m_Mo_told : MethodName × ByteArray × Nat × Option FieldType := (⟨"HeadSplitsModel", "told", "(I)I"⟩, prog_14_method_70_code, 3, (some .int))
abbrev m_Math_max : MethodName × ByteArray × Nat × Option FieldType := (⟨"java/lang/Math", "max", "(II)I"⟩, prog_15_method_65_code, 2, (some .int))
abbrev m_Arr_fill : MethodName × ByteArray × Nat × Option FieldType := (⟨"java/util/Arrays", "fill", "([II)V"⟩, prog_16_method_103_code, 4, none)
end
section
/-! A plain machine over a flat memory: what stands in the world is told by S (how many cells, the kind of each, its length, its references: all that seldom changes) and by M (the numbers). -/
def zsh (B : Nat) : Value → Value
  | .ref a => .ref (B + a)
  | .int x => .int x
  | .long x => .long x
  | .float x => .float x
  | .double x => .double x
  | .null => .null
  | .retAddr x => .retAddr x
abbrev ZS : Type := Nat × (Nat → Nat) × (Nat → Nat) × (Nat → Nat → Option Nat)
abbrev ZM : Type := Nat → Nat → Int32
abbrev ZE : Type := Launch × va_G × (ClassId × ClassId × ClassId) × Nat
abbrev ZI : Type := MethodName × ByteArray × Nat × Option FieldType
def zrft : List (List Bool) := [[true, true, true, false], [true, true, true, true, false, false], [true], [true, true, true, true, true, true, true, true, false, false, false, false, false], [false, true, true, true, true, false, false, false, false, false, false], [true, false], [true, true, true, true, true, false, false], [true, true], [true, true, true, true, false], [true, true, true], [true, true, true, true, true, true, true, true, true, true, true, true, false, false], [true, true, true, true, true, true, true, false, true, true, true, true, true, false, true, true, true, true, true, true, true, false, false, true, true, true, true, false, false, false, false, true, true, false, true, true, true, true, true, true, true, false, false]]
def znf (ci : Nat) : Nat := ((zrft[ci]?).getD []).length
def zrf (ci k : Nat) : Bool := (((zrft[ci]?).getD [])[k]?).getD false
def zrv (B : Nat) (o : Option Nat) : Value := va_rf (o.map (fun a => B + a))
def zpv (B : Nat) (S : ZS) (M : ZM) (a k : Nat) : Value := if zrf (S.2.1 a) k = true then zrv B (S.2.2.2 a k) else .int (M a k)
def zce (E : ZE) (S : ZS) (M : ZM) (a : Nat) : va_E :=
  if S.2.1 a < 12 then .inr (S.2.1 a, (List.range (znf (S.2.1 a))).map (zpv E.2.2.2 S M a))
  else if S.2.1 a = 12 then .inl (E.2.2.1.1, S.2.2.1 a, .inl (M a))
  else if S.2.1 a = 13 then .inl (E.2.2.1.2.1, S.2.2.1 a, .inl (M a))
  else .inl (E.2.2.1.2.2, S.2.2.1 a, .inr (.inr (.inr (.inr (fun k => (S.2.2.2 a k).map (fun x => E.2.2.2 + x))))))
def zws (E : ZE) (S : ZS) (M : ZM) : va_W := (List.range S.1).map (fun a => (E.2.2.2 + a, zce E S M a))
def ztys (E : ZE) : List (ClassId × FieldType) := [(E.2.2.1.1, .int), (E.2.2.1.2.1, .boolean), (E.2.2.1.2.2, .object "HeadSplits$Node")]
def zszc (S : ZS) (a : Nat) : Nat := if S.2.1 a < 12 then znf (S.2.1 a) else S.2.2.1 a
def zsl (S : ZS) : Nat := ((List.range S.1).map (zszc S)).sum
def zms (M : ZM) (a k : Nat) (v : Int32) : ZM := fun p q => if p = a ∧ q = k then v else M p q
def zup {α : Type} (f : Nat → α) (a : Nat) (v : α) : Nat → α := fun p => if p = a then v else f p
theorem zsh_cat (B : Nat) (v : Value) : (zsh B v).category = v.category := by cases v <;> rfl
theorem zsh_rf (B : Nat) (o : Option Nat) : zsh B (va_rf o) = zrv B o := by cases o <;> rfl
theorem zws_len (E : ZE) (S : ZS) (M : ZM) : (zws E S M).length = S.1 := by simp [zws]
theorem zws_get (E : ZE) (S : ZS) (M : ZM) {a : Nat} (h : a < S.1) : (zws E S M)[a]? = some (E.2.2.2 + a, zce E S M a) := by
  simp [zws, h]
theorem zws_inv {E : ZE} {S : ZS} {M : ZM} {k : Nat} {q : Nat × va_E} (h : (zws E S M)[k]? = some q) : k < S.1 ∧ q = (E.2.2.2 + k, zce E S M k) := by
  have hk : k < S.1 := by
    have := (List.getElem?_eq_some_iff.mp h).1
    rwa [zws_len] at this
  rw [zws_get E S M hk] at h
  exact ⟨hk, (Option.some.inj h).symm⟩
theorem zws_D (E : ZE) (S : ZS) (M : ZM) : va_D (fun q => E.2.2.2 ≤ q) (zws E S M) := by
  refine ⟨fun i j x y hi hj e => ?_, fun k q hk => ?_⟩
  · rw [(zws_inv hi).2, (zws_inv hj).2] at e
    exact Nat.add_left_cancel e
  · rw [(zws_inv hk).2]
    exact Nat.le_add_right _ _
theorem zws_eq {E : ZE} {S S' : ZS} {M M' : ZM} (hn : S'.1 = S.1) (h : ∀ b, b < S.1 → zce E S' M' b = zce E S M b) : zws E S' M' = zws E S M := by
  unfold zws
  rw [hn]
  exact List.map_congr_left (fun b hb => by rw [h b (List.mem_range.mp hb)])
theorem zws_set {E : ZE} {S S' : ZS} {M M' : ZM} {a : Nat} {e : va_E} (hn : S'.1 = S.1) (he : zce E S' M' a = e) (h : ∀ b, b < S.1 → b ≠ a → zce E S' M' b = zce E S M b) : (zws E S M).set a (E.2.2.2 + a, e) = zws E S' M' := by
  apply List.ext_getElem?
  intro i
  by_cases hi : i < S.1
  · rw [zws_get E S' M' (by rw [hn]; exact hi)]
    by_cases hia : i = a
    · subst hia
      rw [List.getElem?_set_self (by rw [zws_len]; exact hi), he]
    · rw [List.getElem?_set_ne (Ne.symm hia), zws_get E S M hi, h i hi hia]
  · rw [List.getElem?_eq_none (by rw [List.length_set, zws_len]; omega), List.getElem?_eq_none (by rw [zws_len, hn]; omega)]
theorem zws_push {E : ZE} {S S' : ZS} {M M' : ZM} {e : va_E} (hn : S'.1 = S.1 + 1) (he : zce E S' M' S.1 = e) (h : ∀ b, b < S.1 → zce E S' M' b = zce E S M b) : zws E S M ++ [(E.2.2.2 + S.1, e)] = zws E S' M' := by
  unfold zws
  rw [hn, List.range_succ, List.map_append]
  congr 1
  · exact List.map_congr_left (fun b hb => by rw [h b (List.mem_range.mp hb)])
  · simp [he]
theorem zce_o {E : ZE} {S : ZS} {M : ZM} {a ci : Nat} (h : S.2.1 a = ci) (hc : ci < 12) : zce E S M a = .inr (ci, (List.range (znf ci)).map (zpv E.2.2.2 S M a)) := by
  subst h
  simp [zce, hc]
theorem zce_i {E : ZE} {S : ZS} {M : ZM} {a : Nat} (h : S.2.1 a = 12) : zce E S M a = .inl (E.2.2.1.1, S.2.2.1 a, .inl (M a)) := by simp [zce, h]
theorem zce_z {E : ZE} {S : ZS} {M : ZM} {a : Nat} (h : S.2.1 a = 13) : zce E S M a = .inl (E.2.2.1.2.1, S.2.2.1 a, .inl (M a)) := by simp [zce, h]
theorem zce_r {E : ZE} {S : ZS} {M : ZM} {a : Nat} (h : S.2.1 a = 14) : zce E S M a = .inl (E.2.2.1.2.2, S.2.2.1 a, .inr (.inr (.inr (.inr (fun k => (S.2.2.2 a k).map (fun x => E.2.2.2 + x)))))) := by simp [zce, h]
theorem zce_congr {E : ZE} {S S' : ZS} {M M' : ZM} {b : Nat} (h1 : S'.2.1 b = S.2.1 b) (h2 : S'.2.2.1 b = S.2.2.1 b) (h3 : S'.2.2.2 b = S.2.2.2 b) (h4 : M' b = M b) : zce E S' M' b = zce E S M b := by
  have e : zpv E.2.2.2 S' M' b = zpv E.2.2.2 S M b := by
    funext k
    simp [zpv, h1, h3, h4]
  unfold zce
  rw [h1, h2, h3, h4, e]
theorem zms_self (M : ZM) (a k : Nat) (v : Int32) : zms M a k v a = zup (M a) k v := by
  funext q
  simp [zms, zup]
theorem zms_ne (M : ZM) {a b : Nat} (k : Nat) (v : Int32) (h : b ≠ a) : zms M a k v b = M b := by
  funext q
  simp [zms, h]
theorem zmap_set {N k : Nat} {f g : Nat → Value} {v : Value} (hk : g k = v) (h : ∀ j, j ≠ k → g j = f j) : ((List.range N).map f).set k v = (List.range N).map g := by
  apply List.ext_getElem?
  intro i
  by_cases hi : i < N
  · by_cases hik : i = k
    · subst hik
      rw [List.getElem?_set_self (by simpa using hi)]
      simp [hi, hk]
    · rw [List.getElem?_set_ne (Ne.symm hik)]
      simp [hi, h i hik]
  · rw [List.getElem?_eq_none (by simp; omega), List.getElem?_eq_none (by simp; omega)]
/-! the locals: by their numbers -/
def zL (B nL : Nat) (L : Array Slot) (ls : List (Option Value)) : Prop := L.size = nL ∧ lv_wf L ∧ ∀ (i : Nat) (v : Value), ls[i]? = some (some v) → L[i]? = some (.val (zsh B v))
def zal (B : Nat) (ls : List (Option Value)) : List (Nat × Value) := (List.range ls.length).filterMap (fun i => ((ls[i]?).join).map (fun v => (i, zsh B v)))
theorem zal_mem {B : Nat} {ls : List (Option Value)} {q : Nat × Value} : q ∈ zal B ls ↔ ∃ v, ls[q.1]? = some (some v) ∧ q.2 = zsh B v := by
  unfold zal
  rw [List.mem_filterMap]
  constructor
  · rintro ⟨i, -, h⟩
    cases hl : ls[i]? with
    | none => rw [hl] at h; cases h
    | some o =>
      rw [hl] at h
      cases o with
      | none => cases h
      | some v => cases h; exact ⟨v, hl, rfl⟩
  · rintro ⟨v, h, e⟩
    have hi := (List.getElem?_eq_some_iff.mp h).1
    refine ⟨q.1, List.mem_range.mpr hi, ?_⟩
    rw [h]
    obtain ⟨a, b⟩ := q
    subst e
    rfl
theorem zL.has {B nL : Nat} {L : Array Slot} {ls : List (Option Value)} (h : zL B nL L ls) : lv_has L nL (zal B ls) := by
  refine ⟨h.1, h.2.1, fun q hq => ?_⟩
  obtain ⟨v, h1, h2⟩ := zal_mem.mp hq
  rw [h2]
  exact h.2.2 q.1 v h1
def zok1 (ls : List (Option Value)) (i : Nat) : Bool := i == 0 || match ls[i - 1]? with
  | some (some v) => v.category == 1
  | _ => true
theorem zok1_spec {ls : List (Option Value)} {i j : Nat} {w : Value} (h : zok1 ls i = true) (hj : j + 1 = i) (hw : ls[j]? = some (some w)) : w.category = 1 := by
  subst hj
  unfold zok1 at h
  rw [Nat.add_sub_cancel, hw] at h
  simpa using h
theorem zL_st1 {B nL : Nat} {L' : Array Slot} {ls : List (Option Value)} {i : Nat} {v : Value} (hk : zok1 ls i = true)
    (h : lv_has L' nL ((i, zsh B v) :: (zal B ls).filter (fun q => !(q.1 == i) && !(q.1 + 1 == i && q.2.category == 2)))) : zL B nL L' (ls.set i (some v)) := by
  refine ⟨h.1, h.2.1, fun j w hj => ?_⟩
  by_cases hji : j = i
  · subst hji
    have hl : j < (ls.set j (some v)).length := (List.getElem?_eq_some_iff.mp hj).1
    rw [List.length_set] at hl
    rw [List.getElem?_set_self hl] at hj
    cases hj
    exact h.2.2 (j, zsh B v) List.mem_cons_self
  · rw [List.getElem?_set_ne (Ne.symm hji)] at hj
    refine h.2.2 (j, zsh B w) (List.mem_cons_of_mem _ (List.mem_filter.mpr ⟨zal_mem.mpr ⟨w, hj, rfl⟩, ?_⟩))
    by_cases h1 : j + 1 = i
    · have hc := zok1_spec hk h1 hj
      simp [hji, zsh_cat, hc]
    · simp [hji, h1]
theorem zL_st2 {B nL : Nat} {L' : Array Slot} {ls : List (Option Value)} {i : Nat} {v : Value} (hk : zok1 ls i = true)
    (h : lv_has L' nL ((i, zsh B v) :: (zal B ls).filter (fun q => !(q.1 == i) && (!(q.1 == i + 1) && !(q.1 + 1 == i && q.2.category == 2))))) : zL B nL L' ((ls.set i (some v)).set (i + 1) none) := by
  refine ⟨h.1, h.2.1, fun j w hj => ?_⟩
  by_cases hj1 : j = i + 1
  · subst hj1
    have hl : i + 1 < ((ls.set i (some v)).set (i + 1) none).length := (List.getElem?_eq_some_iff.mp hj).1
    rw [List.length_set] at hl
    rw [List.getElem?_set_self hl] at hj
    cases hj
  · rw [List.getElem?_set_ne (Ne.symm hj1)] at hj
    by_cases hji : j = i
    · subst hji
      have hl : j < (ls.set j (some v)).length := (List.getElem?_eq_some_iff.mp hj).1
      rw [List.length_set] at hl
      rw [List.getElem?_set_self hl] at hj
      cases hj
      exact h.2.2 (j, zsh B v) List.mem_cons_self
    · rw [List.getElem?_set_ne (Ne.symm hji)] at hj
      refine h.2.2 (j, zsh B w) (List.mem_cons_of_mem _ (List.mem_filter.mpr ⟨zal_mem.mpr ⟨w, hj, rfl⟩, ?_⟩))
      by_cases h1 : j + 1 = i
      · have hc := zok1_spec hk h1 hj
        simp [hji, hj1, zsh_cat, hc]
      · simp [hji, hj1, h1]
/-! a method's start -/
def zsl1 (v : Value) : List (Option Value) := if v.category = 2 then [some v, none] else [some v]
def zent (as : List Value) (n : Nat) : List (Option Value) := as.flatMap zsl1 ++ List.replicate (n - (as.flatMap zsl1).length) none
theorem zent_args {B : Nat} : ∀ (as : List Value) (o i : Nat) (v : Value), (as.flatMap zsl1)[i]? = some (some v) → (o + i, zsh B v) ∈ lv_args o (as.map (zsh B))
  | [], o, i, v, h => by simp at h
  | a :: as, o, i, v, h => by
    simp only [List.flatMap_cons, zsl1] at h
    simp only [List.map_cons, lv_args, zsh_cat]
    by_cases hc : a.category = 2
    · rw [if_pos hc] at h ⊢
      match i, h with
      | 0, h => cases h; exact List.mem_cons_self
      | 1, h => cases h
      | i + 2, h =>
        have h2 : (as.flatMap zsl1)[i]? = some (some v) := h
        have := zent_args (B := B) as (o + 2) i v h2
        rw [show o + (i + 2) = o + 2 + i by omega]
        exact List.mem_cons_of_mem _ this
    · rw [if_neg hc] at h ⊢
      match i, h with
      | 0, h => cases h; exact List.mem_cons_self
      | i + 1, h =>
        have h2 : (as.flatMap zsl1)[i]? = some (some v) := h
        have := zent_args (B := B) as (o + 1) i v h2
        rw [show o + (i + 1) = o + 1 + i by omega]
        exact List.mem_cons_of_mem _ this
theorem zsl_len (B : Nat) (as : List Value) : (lg_sl (as.map (zsh B))).length = (as.flatMap zsl1).length := by
  induction as with
  | nil => rfl
  | cons a as ih =>
    simp only [lg_sl, List.map_cons, List.flatMap_cons, List.length_append, zsl1, zsh_cat] at ih ⊢
    rw [ih]
    by_cases hc : a.category = 2 <;> simp [hc]
theorem zL_entry (B : Nat) (as : List Value) {n : Nat} (h : (as.flatMap zsl1).length ≤ n) : zL B n ((lg_sl (as.map (zsh B)) ++ List.replicate (n - (lg_sl (as.map (zsh B))).length) Slot.unset).toArray) (zent as n) := by
  have h1 := lv_entry (as.map (zsh B)) (n := n) (by rw [zsl_len]; exact h)
  refine ⟨h1.1, h1.2.1, fun i v hi => ?_⟩
  unfold zent at hi
  by_cases hl : i < (as.flatMap zsl1).length
  · rw [List.getElem?_append_left hl] at hi
    have h2 := zent_args (B := B) as 0 i v hi
    rw [Nat.zero_add] at h2
    exact h1.2.2 _ h2
  · rw [List.getElem?_append_right (by omega)] at hi
    have := List.eq_of_mem_replicate (List.mem_of_getElem? hi)
    cases this
/-! the tables' words, wherever the machine stands -/
def zgood : Cond → Bool
  | .arrayClass _ => true
  | .arrayOver (.object _) => true
  | .fieldLinkNest _ _ _ _ _ _ => true
  | .methodLinkNest _ _ _ _ => true
  | w => w.onTables && w.keeps
def ztbl : List Cond := lw_tbl.filter zgood
theorem zq {w : Cond} (i : Nat) (h : lw_tbl[i]? = some w) (hg : zgood w = true) : w ∈ ztbl := List.mem_filter.mpr ⟨List.mem_of_getElem? h, hg⟩
theorem zmems {ws : List Cond} (ps : List Nat) (hp : ws = ps.filterMap (fun i => lw_tbl[i]?)) (hg : ws.all zgood = true) : ∀ w ∈ ws, w ∈ ztbl := by
  intro w hw
  have hg2 := List.all_eq_true.mp hg w hw
  subst hp
  obtain ⟨i, -, hi⟩ := List.mem_filterMap.mp hw
  exact List.mem_filter.mpr ⟨List.mem_of_getElem? hi, hg2⟩
theorem zwarm1 {w : Cond} (hg : zgood w = true) {s U : State} {a a' : Array Value} (hW : s.WarmedH U.vm) (h : w.before a s = true) : w.before a' U = true := by
  cases w
  case arrayOver ty =>
    cases ty
    case object C => exact va_AO.use (va_AO.moved hW.alike (va_AO.of h))
    all_goals exact word_at hW (Or.inl hg) h
  case arrayClass ty => exact word_at hW (Or.inr ⟨_, rfl⟩) h
  case fieldLinkNest => exact va_Nw.use rfl (va_Nw.warmF hW (va_Nw.of rfl h))
  case methodLinkNest => exact va_Nw.use rfl (va_Nw.warmM hW (va_Nw.of rfl h))
  all_goals exact word_at hW (Or.inl hg) h
theorem zwarm {s U : State} {a a' : Array Value} (hW : s.WarmedH U.vm) (h : ∀ w ∈ ztbl, w.before a s = true) : ∀ w ∈ ztbl, w.before a' U = true :=
  fun w hw => zwarm1 (List.mem_filter.mp hw).2 hW (h w hw)
end
section
/-! the fields of each class stand in the tables -/
set_option maxRecDepth 20000 in
theorem zi_Answer : ∀ w ∈ u_ws zR_Answer zT_Answer 4, w ∈ ztbl := zmems [276, 278, 280, 282] (by decide +kernel) (by decide +kernel)
set_option maxRecDepth 20000 in
theorem zi_Book : ∀ w ∈ u_ws zR_Book zT_Book 6, w ∈ ztbl := zmems [166, 168, 170, 172, 174, 176] (by decide +kernel) (by decide +kernel)
set_option maxRecDepth 20000 in
theorem zi_Machine : ∀ w ∈ u_ws zR_Machine zT_Machine 1, w ∈ ztbl := zmems [123] (by decide +kernel) (by decide +kernel)
set_option maxRecDepth 20000 in
theorem zi_Net : ∀ w ∈ u_ws zR_Net zT_Net 13, w ∈ ztbl := zmems [235, 237, 239, 241, 243, 245, 247, 249, 251, 253, 255, 257, 259] (by decide +kernel) (by decide +kernel)
set_option maxRecDepth 20000 in
theorem zi_Node : ∀ w ∈ u_ws zR_Node zT_Node 11, w ∈ ztbl := zmems [588, 590, 592, 594, 596, 598, 600, 602, 604, 606, 608] (by decide +kernel) (by decide +kernel)
set_option maxRecDepth 20000 in
theorem zi_Row : ∀ w ∈ u_ws zR_Row zT_Row 2, w ∈ ztbl := zmems [102, 104] (by decide +kernel) (by decide +kernel)
set_option maxRecDepth 20000 in
theorem zi_Shorts : ∀ w ∈ u_ws zR_Shorts zT_Shorts 7, w ∈ ztbl := zmems [192, 194, 196, 198, 200, 202, 204] (by decide +kernel) (by decide +kernel)
set_option maxRecDepth 20000 in
theorem zi_Tally : ∀ w ∈ u_ws zR_Tally zT_Tally 2, w ∈ ztbl := zmems [316, 318] (by decide +kernel) (by decide +kernel)
set_option maxRecDepth 20000 in
theorem zi_Trial : ∀ w ∈ u_ws zR_Trial zT_Trial 5, w ∈ ztbl := zmems [297, 299, 301, 303, 305] (by decide +kernel) (by decide +kernel)
set_option maxRecDepth 20000 in
theorem zi_Words : ∀ w ∈ u_ws zR_Words zT_Words 3, w ∈ ztbl := zmems [137, 139, 141] (by decide +kernel) (by decide +kernel)
set_option maxRecDepth 20000 in
theorem zi_H : ∀ w ∈ u_ws zR_H zT_H 14, w ∈ ztbl := zmems [335, 337, 339, 341, 343, 345, 347, 349, 351, 353, 355, 357, 359, 361] (by decide +kernel) (by decide +kernel)
set_option maxRecDepth 20000 in
theorem zi_Mo : ∀ w ∈ u_ws zR_Mo zT_Mo 43, w ∈ ztbl := zmems [951, 953, 955, 957, 959, 961, 963, 965, 967, 969, 971, 973, 975, 977, 979, 981, 983, 985, 987, 989, 991, 993, 995, 997, 999, 1001, 1003, 1005, 1007, 1009, 1011, 1013, 1015, 1017, 1019, 1021, 1023, 1025, 1027, 1029, 1031, 1033, 1035] (by decide +kernel) (by decide +kernel)
theorem zg_in {ci : Nat} {C : String} {T : u_T} {N : Nat} (hc : zCl[ci]? = some (C, T, N)) : ∀ w ∈ u_ws C T N, w ∈ ztbl := by
  match ci, hc with
  | 0, hc => cases hc; exact zi_Answer
  | 1, hc => cases hc; exact zi_Book
  | 2, hc => cases hc; exact zi_Machine
  | 3, hc => cases hc; exact zi_Net
  | 4, hc => cases hc; exact zi_Node
  | 5, hc => cases hc; exact zi_Row
  | 6, hc => cases hc; exact zi_Shorts
  | 7, hc => cases hc; exact zi_Tally
  | 8, hc => cases hc; exact zi_Trial
  | 9, hc => cases hc; exact zi_Words
  | 10, hc => cases hc; exact zi_H
  | 11, hc => cases hc; exact zi_Mo
  | n + 12, hc => simp [zCl] at hc
theorem zg_ty {ci : Nat} {C : String} {T : u_T} {N : Nat} (hc : zCl[ci]? = some (C, T, N)) : ∃ ty0 : Nat → FieldType, ∀ k, k < N → parseFieldDescriptor (T k).2.2.1 = some (ty0 k) := by
  match ci, hc with
  | 0, hc => cases hc; exact ⟨zY_Answer, zy_Answer⟩
  | 1, hc => cases hc; exact ⟨zY_Book, zy_Book⟩
  | 2, hc => cases hc; exact ⟨zY_Machine, zy_Machine⟩
  | 3, hc => cases hc; exact ⟨zY_Net, zy_Net⟩
  | 4, hc => cases hc; exact ⟨zY_Node, zy_Node⟩
  | 5, hc => cases hc; exact ⟨zY_Row, zy_Row⟩
  | 6, hc => cases hc; exact ⟨zY_Shorts, zy_Shorts⟩
  | 7, hc => cases hc; exact ⟨zY_Tally, zy_Tally⟩
  | 8, hc => cases hc; exact ⟨zY_Trial, zy_Trial⟩
  | 9, hc => cases hc; exact ⟨zY_Words, zy_Words⟩
  | 10, hc => cases hc; exact ⟨zY_H, zy_H⟩
  | 11, hc => cases hc; exact ⟨zY_Mo, zy_Mo⟩
  | n + 12, hc => simp [zCl] at hc
theorem zg_nm {ci : Nat} {C : String} {T : u_T} {N : Nat} (hc : zCl[ci]? = some (C, T, N)) : ∀ a, a < N → ∀ b, b < N → a ≠ b → (T a).2.1 ≠ (T b).2.1 := by
  match ci, hc with
  | 0, hc => cases hc; exact zn_Answer
  | 1, hc => cases hc; exact zn_Book
  | 2, hc => cases hc; exact zn_Machine
  | 3, hc => cases hc; exact zn_Net
  | 4, hc => cases hc; exact zn_Node
  | 5, hc => cases hc; exact zn_Row
  | 6, hc => cases hc; exact zn_Shorts
  | 7, hc => cases hc; exact zn_Tally
  | 8, hc => cases hc; exact zn_Trial
  | 9, hc => cases hc; exact zn_Words
  | 10, hc => cases hc; exact zn_H
  | 11, hc => cases hc; exact zn_Mo
  | n + 12, hc => simp [zCl] at hc
theorem zg_nf {ci : Nat} {C : String} {T : u_T} {N : Nat} (hc : zCl[ci]? = some (C, T, N)) : znf ci = N ∧ ci < 12 := by
  match ci, hc with
  | 0, hc => cases hc; exact ⟨rfl, by decide⟩
  | 1, hc => cases hc; exact ⟨rfl, by decide⟩
  | 2, hc => cases hc; exact ⟨rfl, by decide⟩
  | 3, hc => cases hc; exact ⟨rfl, by decide⟩
  | 4, hc => cases hc; exact ⟨rfl, by decide⟩
  | 5, hc => cases hc; exact ⟨rfl, by decide⟩
  | 6, hc => cases hc; exact ⟨rfl, by decide⟩
  | 7, hc => cases hc; exact ⟨rfl, by decide⟩
  | 8, hc => cases hc; exact ⟨rfl, by decide⟩
  | 9, hc => cases hc; exact ⟨rfl, by decide⟩
  | 10, hc => cases hc; exact ⟨rfl, by decide⟩
  | 11, hc => cases hc; exact ⟨rfl, by decide⟩
  | n + 12, hc => simp [zCl] at hc
theorem zg_own {ci : Nat} {C : String} {T : u_T} {N : Nat} (hc : zCl[ci]? = some (C, T, N)) : ∀ k, (T k).1 = C := by
  match ci, hc with
  | 0, hc => cases hc; exact fun k => by unfold zT_Answer; split <;> rfl
  | 1, hc => cases hc; exact fun k => by unfold zT_Book; split <;> rfl
  | 2, hc => cases hc; exact fun k => by unfold zT_Machine; split <;> rfl
  | 3, hc => cases hc; exact fun k => by unfold zT_Net; split <;> rfl
  | 4, hc => cases hc; exact fun k => by unfold zT_Node; split <;> rfl
  | 5, hc => cases hc; exact fun k => by unfold zT_Row; split <;> rfl
  | 6, hc => cases hc; exact fun k => by unfold zT_Shorts; split <;> rfl
  | 7, hc => cases hc; exact fun k => by unfold zT_Tally; split <;> rfl
  | 8, hc => cases hc; exact fun k => by unfold zT_Trial; split <;> rfl
  | 9, hc => cases hc; exact fun k => by unfold zT_Words; split <;> rfl
  | 10, hc => cases hc; exact fun k => by unfold zT_H; split <;> rfl
  | 11, hc => cases hc; exact fun k => by unfold zT_Mo; split <;> rfl
  | n + 12, hc => simp [zCl] at hc
theorem zg_def {ci : Nat} {C : String} {T : u_T} {N : Nat} (hc : zCl[ci]? = some (C, T, N)) : ∃ ty0 : Nat → FieldType, (∀ k, k < N → parseFieldDescriptor (T k).2.2.1 = some (ty0 k)) ∧ ∀ k, k < N → defaultValue (ty0 k) = if zrf ci k = true then .null else .int 0 := by
  match ci, hc with
  | 0, hc => cases hc; exact ⟨zY_Answer, zy_Answer, by decide +kernel⟩
  | 1, hc => cases hc; exact ⟨zY_Book, zy_Book, by decide +kernel⟩
  | 2, hc => cases hc; exact ⟨zY_Machine, zy_Machine, by decide +kernel⟩
  | 3, hc => cases hc; exact ⟨zY_Net, zy_Net, by decide +kernel⟩
  | 4, hc => cases hc; exact ⟨zY_Node, zy_Node, by decide +kernel⟩
  | 5, hc => cases hc; exact ⟨zY_Row, zy_Row, by decide +kernel⟩
  | 6, hc => cases hc; exact ⟨zY_Shorts, zy_Shorts, by decide +kernel⟩
  | 7, hc => cases hc; exact ⟨zY_Tally, zy_Tally, by decide +kernel⟩
  | 8, hc => cases hc; exact ⟨zY_Trial, zy_Trial, by decide +kernel⟩
  | 9, hc => cases hc; exact ⟨zY_Words, zy_Words, by decide +kernel⟩
  | 10, hc => cases hc; exact ⟨zY_H, zy_H, by decide +kernel⟩
  | 11, hc => cases hc; exact ⟨zY_Mo, zy_Mo, by decide +kernel⟩
  | n + 12, hc => simp [zCl] at hc
end
section
/-! the judgement of the plain machine, and a rule an instruction -/
def zC (E : ZE) (mi : ZI) (d : Nat) (p : Program) (R : Room) (s : State) (m : MethodId) (args : Array Value) (meth : Method) (c : Code) : Prop :=
  p.tables.exec = Jvm.exec ∧ c.code = mi.2.1 ∧ meth.sig.returnType = mi.2.2.2 ∧ c.maxLocals = mi.2.2.1 ∧ s.vm.findClass mi.1.cls = some m.cls ∧ (∀ w ∈ ztbl, w.before args s = true) ∧ va_K E.2.1 zCl (ztys E) s ∧ meth.locks = false ∧ d ≤ R.frames ∧ 36 * d ≤ R.locals ∧ meth.name = mi.1.name
def zH (E : ZE) (S : ZS) (M : ZM) (H0 H : Heap) (locs : List Loc) : Prop := va_P E.2.1 zCl (zws E S M) H ∧ H.size = E.2.2.2 + S.1 ∧ va_S (fun q => E.2.2.2 ≤ q) H0 H locs
def zQ (E : ZE) (S : ZS) (M : ZM) (r : Option Value) : Array Value → State → Outcome → State → Prop := fun _ st o t => o = .returned (r.map (zsh E.2.2.2)) ∧ va_P E.2.1 zCl (zws E S M) t.heap ∧ t.heap.size = E.2.2.2 + S.1 ∧ va_F (fun q => E.2.2.2 ≤ q) st t
def zW (E : ZE) (mi : ZI) (d : Nat) (S : ZS) (M : ZM) (pc : Nat) (ls : List (Option Value)) (st : List Value) (Φ : Option Value → ZS → ZM → Prop) : Prop :=
  ∃ (S' : ZS) (M' : ZM) (r : Option Value), Φ r S' M' ∧ S.1 ≤ S'.1 ∧ zsl S ≤ zsl S' ∧
    ∀ (p : Program) (e : Env) (R : Room) (s : State) (m : MethodId) (args : Array Value) (below : List Frame) (meth : Method) (c : Code) (n0 s0 : Nat), zC E mi d p R s m args meth c → n0 ≤ S.1 → s0 ≤ zsl S → S'.1 - n0 ≤ R.cells → zsl S' - s0 ≤ R.slots → E.2.2.2 ≤ s.heap.size →
    ∀ (H : Heap) (locs : List Loc) (L : Array Slot), zH E S M s.heap H locs → zL E.2.2.2 mi.2.2.1 L ls →
    W p E.1 e R s m args below meth c H locs (S.1 - n0) (zsl S - s0) (MQ below (zQ E S' M' r) args s (S'.1 - n0) (zsl S' - s0) (fun q => E.2.2.2 ≤ q)) (F0 m pc L (st.map (zsh E.2.2.2)))
section ZR
variable {E : ZE} {mi : ZI} {d : Nat} {S : ZS} {M : ZM} {pc : Nat} {ls : List (Option Value)} {st : List Value} {Φ : Option Value → ZS → ZM → Prop}
theorem zW_mono {Ψ : Option Value → ZS → ZM → Prop} (h : zW E mi d S M pc ls st Ψ) (hm : ∀ r S' M', Ψ r S' M' → Φ r S' M') : zW E mi d S M pc ls st Φ := by
  obtain ⟨S', M', r, h1, h2⟩ := h
  exact ⟨S', M', r, hm _ _ _ h1, h2⟩
/-- another picture of the same cells -/
theorem zW_same {S1 : ZS} {M1 : ZM} (hn : S1.1 = S.1) (he : ∀ b, b < S.1 → zce E S1 M1 b = zce E S M b) (hz : zsl S1 = zsl S) (k : zW E mi d S1 M1 pc ls st Φ) : zW E mi d S M pc ls st Φ := by
  obtain ⟨S', M', r, h1, h2, h3, h4⟩ := k
  refine ⟨S', M', r, h1, by rw [← hn]; exact h2, by rw [← hz]; exact h3, fun p e R s m args below meth c n0 s0 C a1 a2 a3 a4 a5 H locs L hH hL => ?_⟩
  have := h4 p e R s m args below meth c n0 s0 C (by rw [hn]; exact a1) (by rw [hz]; exact a2) a3 a4 a5 H locs L ⟨by rw [zws_eq hn he]; exact hH.1, by rw [hn]; exact hH.2.1, hH.2.2⟩ hL
  rwa [hn, hz] at this
theorem zW_step {ls' : List (Option Value)} {st' : List Value} {pc' : Nat}
    (h : ∀ {p : Program} {e : Env} {R : Room} {s : State} {m : MethodId} {args : Array Value} {below : List Frame} {meth : Method} {c : Code} {H : Heap} {locs : List Loc} {cells slots : Nat} {Q : State → Prop} {L : Array Slot}, zC E mi d p R s m args meth c → zL E.2.2.2 mi.2.2.1 L ls →
      (∀ L', zL E.2.2.2 mi.2.2.1 L' ls' → W p E.1 e R s m args below meth c H locs cells slots Q (F0 m pc' L' (st'.map (zsh E.2.2.2)))) → W p E.1 e R s m args below meth c H locs cells slots Q (F0 m pc L (st.map (zsh E.2.2.2))))
    (k : zW E mi d S M pc' ls' st' Φ) : zW E mi d S M pc ls st Φ := by
  obtain ⟨S', M', r, h1, h2, h3, h4⟩ := k
  exact ⟨S', M', r, h1, h2, h3, fun p e R s m args below meth c n0 s0 C a1 a2 a3 a4 a5 H locs L hH hL => h C hL (fun L' hL' => h4 p e R s m args below meth c n0 s0 C a1 a2 a3 a4 a5 H locs L' hH hL')⟩
/-- what looks at the heap, or writes into it, and makes nothing -/
theorem zW_heap {S1 : ZS} {M1 : ZM} {st' : List Value} {pc' : Nat} (hn : S1.1 = S.1) (hz : zsl S1 = zsl S)
    (h : ∀ {p : Program} {e : Env} {R : Room} {s : State} {m : MethodId} {args : Array Value} {below : List Frame} {meth : Method} {c : Code} {H : Heap} {locs : List Loc} {cells slots : Nat} {Q : State → Prop} {L : Array Slot}, zC E mi d p R s m args meth c → zH E S M s.heap H locs →
      (∀ H' locs', zH E S1 M1 s.heap H' locs' → W p E.1 e R s m args below meth c H' locs' cells slots Q (F0 m pc' L (st'.map (zsh E.2.2.2)))) → W p E.1 e R s m args below meth c H locs cells slots Q (F0 m pc L (st.map (zsh E.2.2.2))))
    (k : zW E mi d S1 M1 pc' ls st' Φ) : zW E mi d S M pc ls st Φ := by
  obtain ⟨S', M', r, h1, h2, h3, h4⟩ := k
  refine ⟨S', M', r, h1, by rw [← hn]; exact h2, by rw [← hz]; exact h3, fun p e R s m args below meth c n0 s0 C a1 a2 a3 a4 a5 H locs L hH hL => h C hH (fun H' locs' hH' => ?_)⟩
  have := h4 p e R s m args below meth c n0 s0 C (by rw [hn]; exact a1) (by rw [hz]; exact a2) a3 a4 a5 H' locs' L hH' hL
  rwa [hn, hz] at this
variable {x y : Int32} {a i tgt : Nat} {off : Int}
theorem z_iconst {n : Int} (v : Int32) (hd : decode mi.2.1 pc = .ok (.iconst n, 1)) (hv : Int32.ofInt n = v) (k : zW E mi d S M (pc + 1) ls (.int v :: st) Φ) : zW E mi d S M pc ls st Φ :=
  zW_step (fun C hL kk => lv_iconst C.1 C.2.1 hd hv (kk _ hL)) k
theorem z_bipush {n : Int} (v : Int32) (hd : decode mi.2.1 pc = .ok (.bipush n, 2)) (hv : (Int8.ofInt n).toInt32 = v) (k : zW E mi d S M (pc + 2) ls (.int v :: st) Φ) : zW E mi d S M pc ls st Φ :=
  zW_step (fun C hL kk => lv_bipush C.1 C.2.1 hd hv (kk _ hL)) k
theorem z_sipush {n : Int} (v : Int32) (hd : decode mi.2.1 pc = .ok (.sipush n, 3)) (hv : (Int16.ofInt n).toInt32 = v) (k : zW E mi d S M (pc + 3) ls (.int v :: st) Φ) : zW E mi d S M pc ls st Φ :=
  zW_step (fun C hL kk => lv_sipush C.1 C.2.1 hd hv (kk _ hL)) k
theorem z_lconst {n : Fin 2} (v : Int64) (hd : decode mi.2.1 pc = .ok (.lconst n, 1)) (hv : Int64.ofNat (n : Nat) = v) (k : zW E mi d S M (pc + 1) ls (.long v :: st) Φ) : zW E mi d S M pc ls st Φ :=
  zW_step (fun C hL kk => lv_lconst C.1 C.2.1 hd hv (kk _ hL)) k
theorem z_ldc {index : Nat} (v : Int32) (hd : decode mi.2.1 pc = .ok (.ldc index, 2)) (hw : Cond.constant mi.1.cls index v ∈ ztbl) (k : zW E mi d S M (pc + 2) ls (.int v :: st) Φ) : zW E mi d S M pc ls st Φ :=
  zW_step (fun C hL kk => lv_ldc C.1 C.2.1 C.2.2.2.2.1 (C.2.2.2.2.2.1 _ hw) hd (kk _ hL)) k
theorem z_ldc2 {index : Nat} (v : Int64) (hd : decode mi.2.1 pc = .ok (.ldc2_w index, 3)) (hw : Cond.constantLong mi.1.cls index v ∈ ztbl) (k : zW E mi d S M (pc + 3) ls (.long v :: st) Φ) : zW E mi d S M pc ls st Φ :=
  zW_step (fun C hL kk => lv_ldc2 C.1 C.2.1 C.2.2.2.2.1 (C.2.2.2.2.2.1 _ hw) hd (kk _ hL)) k
theorem z_null (hd : decode mi.2.1 pc = .ok (.aconst_null, 1)) (k : zW E mi d S M (pc + 1) ls (.null :: st) Φ) : zW E mi d S M pc ls st Φ :=
  zW_step (fun C hL kk => lv_null C.1 C.2.1 hd (kk _ hL)) k
theorem z_iload_n {j : Fin 4} (hd : decode mi.2.1 pc = .ok (.iload_n j, 1)) (hl : ls[(j : Nat)]? = some (some (.int x))) (k : zW E mi d S M (pc + 1) ls (.int x :: st) Φ) : zW E mi d S M pc ls st Φ :=
  zW_step (fun C hL kk => lv_iload_n C.1 C.2.1 hd rfl (hL.2.2 _ _ hl) (kk _ hL)) k
theorem z_iload (hd : decode mi.2.1 pc = .ok (.iload i, 2)) (hl : ls[i]? = some (some (.int x))) (k : zW E mi d S M (pc + 2) ls (.int x :: st) Φ) : zW E mi d S M pc ls st Φ :=
  zW_step (fun C hL kk => lv_iload C.1 C.2.1 hd (hL.2.2 _ _ hl) (kk _ hL)) k
theorem z_lload_n {j : Fin 4} {v : Int64} (hd : decode mi.2.1 pc = .ok (.lload_n j, 1)) (hl : ls[(j : Nat)]? = some (some (.long v))) (k : zW E mi d S M (pc + 1) ls (.long v :: st) Φ) : zW E mi d S M pc ls st Φ :=
  zW_step (fun C hL kk => lv_lload_n C.1 C.2.1 hd rfl (hL.2.2 _ _ hl) (kk _ hL)) k
theorem z_lload {v : Int64} (hd : decode mi.2.1 pc = .ok (.lload i, 2)) (hl : ls[i]? = some (some (.long v))) (k : zW E mi d S M (pc + 2) ls (.long v :: st) Φ) : zW E mi d S M pc ls st Φ :=
  zW_step (fun C hL kk => lv_lload C.1 C.2.1 hd (hL.2.2 _ _ hl) (kk _ hL)) k
theorem z_aload_n {j : Fin 4} (hd : decode mi.2.1 pc = .ok (.aload_n j, 1)) (hl : ls[(j : Nat)]? = some (some (.ref a))) (k : zW E mi d S M (pc + 1) ls (.ref a :: st) Φ) : zW E mi d S M pc ls st Φ :=
  zW_step (fun C hL kk => lv_aload_n C.1 C.2.1 hd rfl (hL.2.2 _ _ hl) (kk _ hL)) k
theorem z_aload (hd : decode mi.2.1 pc = .ok (.aload i, 2)) (hl : ls[i]? = some (some (.ref a))) (k : zW E mi d S M (pc + 2) ls (.ref a :: st) Φ) : zW E mi d S M pc ls st Φ :=
  zW_step (fun C hL kk => lv_aload C.1 C.2.1 hd (hL.2.2 _ _ hl) (kk _ hL)) k
theorem z_aload_nN {j : Fin 4} (hd : decode mi.2.1 pc = .ok (.aload_n j, 1)) (hl : ls[(j : Nat)]? = some (some .null)) (k : zW E mi d S M (pc + 1) ls (.null :: st) Φ) : zW E mi d S M pc ls st Φ :=
  zW_step (fun C hL kk => lv_aload_nN C.1 C.2.1 hd rfl (hL.2.2 _ _ hl) (kk _ hL)) k
theorem z_aloadN (hd : decode mi.2.1 pc = .ok (.aload i, 2)) (hl : ls[i]? = some (some .null)) (k : zW E mi d S M (pc + 2) ls (.null :: st) Φ) : zW E mi d S M pc ls st Φ :=
  zW_step (fun C hL kk => lv_aloadN C.1 C.2.1 hd (hL.2.2 _ _ hl) (kk _ hL)) k
variable {ls' : List (Option Value)}
theorem z_istore_n {j : Fin 4} (hd : decode mi.2.1 pc = .ok (.istore_n j, 1)) (hn : (j : Nat) < mi.2.2.1) (hk : zok1 ls (j : Nat) = true) (hs : ls.set (j : Nat) (some (.int x)) = ls') (k : zW E mi d S M (pc + 1) ls' st Φ) : zW E mi d S M pc ls (.int x :: st) Φ :=
  zW_step (fun C hL kk => lv_istore_n C.1 C.2.1 hd rfl hL.has hn rfl (fun L' h => kk L' (by rw [← hs]; exact zL_st1 (v := .int x) hk h))) k
theorem z_istore (hd : decode mi.2.1 pc = .ok (.istore i, 2)) (hn : i < mi.2.2.1) (hk : zok1 ls i = true) (hs : ls.set i (some (.int x)) = ls') (k : zW E mi d S M (pc + 2) ls' st Φ) : zW E mi d S M pc ls (.int x :: st) Φ :=
  zW_step (fun C hL kk => lv_istore C.1 C.2.1 hd hL.has hn rfl (fun L' h => kk L' (by rw [← hs]; exact zL_st1 (v := .int x) hk h))) k
theorem z_astore_n {j : Fin 4} (hd : decode mi.2.1 pc = .ok (.astore_n j, 1)) (hn : (j : Nat) < mi.2.2.1) (hk : zok1 ls (j : Nat) = true) (hs : ls.set (j : Nat) (some (.ref a)) = ls') (k : zW E mi d S M (pc + 1) ls' st Φ) : zW E mi d S M pc ls (.ref a :: st) Φ :=
  zW_step (fun C hL kk => lv_astore_n C.1 C.2.1 hd rfl hL.has hn rfl (fun L' h => kk L' (by rw [← hs]; exact zL_st1 (v := .ref a) hk h))) k
theorem z_astore (hd : decode mi.2.1 pc = .ok (.astore i, 2)) (hn : i < mi.2.2.1) (hk : zok1 ls i = true) (hs : ls.set i (some (.ref a)) = ls') (k : zW E mi d S M (pc + 2) ls' st Φ) : zW E mi d S M pc ls (.ref a :: st) Φ :=
  zW_step (fun C hL kk => lv_astore C.1 C.2.1 hd hL.has hn rfl (fun L' h => kk L' (by rw [← hs]; exact zL_st1 (v := .ref a) hk h))) k
theorem z_astore_nN {j : Fin 4} (hd : decode mi.2.1 pc = .ok (.astore_n j, 1)) (hn : (j : Nat) < mi.2.2.1) (hk : zok1 ls (j : Nat) = true) (hs : ls.set (j : Nat) (some .null) = ls') (k : zW E mi d S M (pc + 1) ls' st Φ) : zW E mi d S M pc ls (.null :: st) Φ :=
  zW_step (fun C hL kk => lv_astore_nN C.1 C.2.1 hd rfl hL.has hn rfl (fun L' h => kk L' (by rw [← hs]; exact zL_st1 (v := .null) hk h))) k
theorem z_astoreN (hd : decode mi.2.1 pc = .ok (.astore i, 2)) (hn : i < mi.2.2.1) (hk : zok1 ls i = true) (hs : ls.set i (some .null) = ls') (k : zW E mi d S M (pc + 2) ls' st Φ) : zW E mi d S M pc ls (.null :: st) Φ :=
  zW_step (fun C hL kk => lv_astoreN C.1 C.2.1 hd hL.has hn rfl (fun L' h => kk L' (by rw [← hs]; exact zL_st1 (v := .null) hk h))) k
theorem z_lstore_n {j : Fin 4} {v : Int64} (hd : decode mi.2.1 pc = .ok (.lstore_n j, 1)) (hn : (j : Nat) + 1 < mi.2.2.1) (hk : zok1 ls (j : Nat) = true) (hs : (ls.set (j : Nat) (some (.long v))).set ((j : Nat) + 1) none = ls') (k : zW E mi d S M (pc + 1) ls' st Φ) : zW E mi d S M pc ls (.long v :: st) Φ :=
  zW_step (fun C hL kk => lv_lstore_n C.1 C.2.1 hd rfl hL.has hn rfl (fun L' h => kk L' (by rw [← hs]; exact zL_st2 (v := .long v) hk h))) k
theorem z_iinc {n : Int} (v : Int32) (hd : decode mi.2.1 pc = .ok (.iinc i n, 3)) (hl : ls[i]? = some (some (.int x))) (hv : x + Int32.ofInt n = v) (hn : i < mi.2.2.1) (hk : zok1 ls i = true) (hs : ls.set i (some (.int v)) = ls') (k : zW E mi d S M (pc + 3) ls' st Φ) : zW E mi d S M pc ls st Φ :=
  zW_step (fun {p e R s m args below meth c H locs cells slots Q L} C hL kk => by
    obtain ⟨q, hq⟩ := List.getElem?_of_mem (zal_mem (B := E.2.2.2) (q := (i, .int x)).mpr ⟨.int x, hl, rfl⟩)
    exact lv_iinc C.1 C.2.1 hd hL.has hq hv hn rfl (fun L' h => kk L' (by rw [← hs]; exact zL_st1 (v := .int v) hk h))) k
theorem z_iadd (hd : decode mi.2.1 pc = .ok (.iadd, 1)) (k : zW E mi d S M (pc + 1) ls (.int (x + y) :: st) Φ) : zW E mi d S M pc ls (.int y :: .int x :: st) Φ :=
  zW_step (fun C hL kk => lv_iadd C.1 C.2.1 hd (kk _ hL)) k
theorem z_isub (hd : decode mi.2.1 pc = .ok (.isub, 1)) (k : zW E mi d S M (pc + 1) ls (.int (x - y) :: st) Φ) : zW E mi d S M pc ls (.int y :: .int x :: st) Φ :=
  zW_step (fun C hL kk => lv_isub C.1 C.2.1 hd (kk _ hL)) k
theorem z_imul (hd : decode mi.2.1 pc = .ok (.imul, 1)) (k : zW E mi d S M (pc + 1) ls (.int (x * y) :: st) Φ) : zW E mi d S M pc ls (.int y :: .int x :: st) Φ :=
  zW_step (fun C hL kk => lv_imul C.1 C.2.1 hd (kk _ hL)) k
theorem z_iand (hd : decode mi.2.1 pc = .ok (.iand, 1)) (k : zW E mi d S M (pc + 1) ls (.int (x &&& y) :: st) Φ) : zW E mi d S M pc ls (.int y :: .int x :: st) Φ :=
  zW_step (fun C hL kk => lv_iand C.1 C.2.1 hd (kk _ hL)) k
theorem z_ior (hd : decode mi.2.1 pc = .ok (.ior, 1)) (k : zW E mi d S M (pc + 1) ls (.int (x ||| y) :: st) Φ) : zW E mi d S M pc ls (.int y :: .int x :: st) Φ :=
  zW_step (fun C hL kk => lv_ior C.1 C.2.1 hd (kk _ hL)) k
theorem z_ixor (hd : decode mi.2.1 pc = .ok (.ixor, 1)) (k : zW E mi d S M (pc + 1) ls (.int (x ^^^ y) :: st) Φ) : zW E mi d S M pc ls (.int y :: .int x :: st) Φ :=
  zW_step (fun C hL kk => lv_ixor C.1 C.2.1 hd (kk _ hL)) k
theorem z_ishl (hd : decode mi.2.1 pc = .ok (.ishl, 1)) (k : zW E mi d S M (pc + 1) ls (.int (x <<< (y &&& 31)) :: st) Φ) : zW E mi d S M pc ls (.int y :: .int x :: st) Φ :=
  zW_step (fun C hL kk => lv_ishl C.1 C.2.1 hd (kk _ hL)) k
theorem z_ishr (hd : decode mi.2.1 pc = .ok (.ishr, 1)) (k : zW E mi d S M (pc + 1) ls (.int (x >>> (y &&& 31)) :: st) Φ) : zW E mi d S M pc ls (.int y :: .int x :: st) Φ :=
  zW_step (fun C hL kk => lv_ishr C.1 C.2.1 hd (kk _ hL)) k
theorem z_iushr (hd : decode mi.2.1 pc = .ok (.iushr, 1)) (k : zW E mi d S M (pc + 1) ls (.int ((x.toUInt32 >>> (y.toUInt32 &&& Int32.toUInt32 31)).toInt32) :: st) Φ) : zW E mi d S M pc ls (.int y :: .int x :: st) Φ :=
  zW_step (fun C hL kk => lv_iushr C.1 C.2.1 hd rfl (kk _ hL)) k
theorem z_idiv (hd : decode mi.2.1 pc = .ok (.idiv, 1)) (hne : ¬ y = 0) (k : zW E mi d S M (pc + 1) ls (.int (x / y) :: st) Φ) : zW E mi d S M pc ls (.int y :: .int x :: st) Φ :=
  zW_step (fun C hL kk => lv_idiv C.1 C.2.1 hd hne (kk _ hL)) k
theorem z_irem (hd : decode mi.2.1 pc = .ok (.irem, 1)) (hne : ¬ y = 0) (k : zW E mi d S M (pc + 1) ls (.int (x - x / y * y) :: st) Φ) : zW E mi d S M pc ls (.int y :: .int x :: st) Φ :=
  zW_step (fun C hL kk => lv_irem C.1 C.2.1 hd hne (kk _ hL)) k
theorem z_ineg (hd : decode mi.2.1 pc = .ok (.ineg, 1)) (k : zW E mi d S M (pc + 1) ls (.int (-x) :: st) Φ) : zW E mi d S M pc ls (.int x :: st) Φ :=
  zW_step (fun C hL kk => lv_ineg C.1 C.2.1 hd (kk _ hL)) k
theorem z_i2l (hd : decode mi.2.1 pc = .ok (.i2l, 1)) (k : zW E mi d S M (pc + 1) ls (.long x.toInt64 :: st) Φ) : zW E mi d S M pc ls (.int x :: st) Φ :=
  zW_step (fun C hL kk => lv_i2l C.1 C.2.1 hd rfl (kk _ hL)) k
theorem z_ladd {u v : Int64} (hd : decode mi.2.1 pc = .ok (.ladd, 1)) (k : zW E mi d S M (pc + 1) ls (.long (u + v) :: st) Φ) : zW E mi d S M pc ls (.long v :: .long u :: st) Φ :=
  zW_step (fun C hL kk => lv_ladd C.1 C.2.1 hd (kk _ hL)) k
theorem z_lshl {u : Int64} (hd : decode mi.2.1 pc = .ok (.lshl, 1)) (k : zW E mi d S M (pc + 1) ls (.long (u <<< (y.toInt64 &&& 63)) :: st) Φ) : zW E mi d S M pc ls (.int y :: .long u :: st) Φ :=
  zW_step (fun C hL kk => lv_lshl C.1 C.2.1 hd rfl (kk _ hL)) k
theorem z_lcmp {u v : Int64} (hd : decode mi.2.1 pc = .ok (.lcmp, 1)) (k : zW E mi d S M (pc + 1) ls (.int (lg_cmp u v) :: st) Φ) : zW E mi d S M pc ls (.long v :: .long u :: st) Φ :=
  zW_step (fun C hL kk => W.lcmp C.1 C.2.1 hd (kk _ hL)) k
theorem z_dup {v : Value} (hd : decode mi.2.1 pc = .ok (.dup, 1)) (hv : v.category = 1) (k : zW E mi d S M (pc + 1) ls (v :: v :: st) Φ) : zW E mi d S M pc ls (v :: st) Φ :=
  zW_step (fun C hL kk => lv_dup C.1 C.2.1 hd (by rw [zsh_cat]; exact hv) (kk _ hL)) k
theorem z_dup2 {v w : Value} (hd : decode mi.2.1 pc = .ok (.dup2, 1)) (hv : v.category = 1) (hw : w.category = 1) (k : zW E mi d S M (pc + 1) ls (v :: w :: v :: w :: st) Φ) : zW E mi d S M pc ls (v :: w :: st) Φ :=
  zW_step (fun C hL kk => lv_dup2_11 C.1 C.2.1 hd (by rw [zsh_cat]; exact hv) (by rw [zsh_cat]; exact hw) (kk _ hL)) k
theorem z_pop {v : Value} (hd : decode mi.2.1 pc = .ok (.pop, 1)) (hv : v.category = 1) (k : zW E mi d S M (pc + 1) ls st Φ) : zW E mi d S M pc ls (v :: st) Φ :=
  zW_step (fun C hL kk => lv_pop C.1 C.2.1 hd (by rw [zsh_cat]; exact hv) (kk _ hL)) k
theorem z_goto (tgt : Nat) (hd : decode mi.2.1 pc = .ok (.goto off, 3)) (ht : (pc : Int) + off = (tgt : Int)) (k : zW E mi d S M tgt ls st Φ) : zW E mi d S M pc ls st Φ :=
  zW_step (fun C hL kk => lv_goto C.1 C.2.1 hd ht (kk _ hL)) k
theorem z_if_eq (tgt : Nat) (hd : decode mi.2.1 pc = .ok (.ifCond .eq off, 3)) (ht : (pc : Int) + off = (tgt : Int)) (k : (x = 0 → zW E mi d S M tgt ls st Φ) ∧ (¬ x = 0 → zW E mi d S M (pc + 3) ls st Φ)) : zW E mi d S M pc ls (.int x :: st) Φ := by
  by_cases hP : x = 0
  · exact zW_step (fun C hL kk => lv_if_eq C.1 C.2.1 hd ht (fun _ => kk _ hL) (fun h => absurd hP h)) (k.1 hP)
  · exact zW_step (fun C hL kk => lv_if_eq C.1 C.2.1 hd ht (fun h => absurd h hP) (fun _ => kk _ hL)) (k.2 hP)
theorem z_if_ne (tgt : Nat) (hd : decode mi.2.1 pc = .ok (.ifCond .ne off, 3)) (ht : (pc : Int) + off = (tgt : Int)) (k : (¬ x = 0 → zW E mi d S M tgt ls st Φ) ∧ (x = 0 → zW E mi d S M (pc + 3) ls st Φ)) : zW E mi d S M pc ls (.int x :: st) Φ := by
  by_cases hP : x = 0
  · exact zW_step (fun C hL kk => lv_if_ne C.1 C.2.1 hd ht (fun h => absurd hP h) (fun _ => kk _ hL)) (k.2 hP)
  · exact zW_step (fun C hL kk => lv_if_ne C.1 C.2.1 hd ht (fun _ => kk _ hL) (fun h => absurd h hP)) (k.1 hP)
theorem z_if_lt (tgt : Nat) (hd : decode mi.2.1 pc = .ok (.ifCond .lt off, 3)) (ht : (pc : Int) + off = (tgt : Int)) (k : (x < 0 → zW E mi d S M tgt ls st Φ) ∧ (¬ x < 0 → zW E mi d S M (pc + 3) ls st Φ)) : zW E mi d S M pc ls (.int x :: st) Φ := by
  by_cases hP : x < 0
  · exact zW_step (fun C hL kk => lv_if_lt C.1 C.2.1 hd ht (fun _ => kk _ hL) (fun h => absurd hP h)) (k.1 hP)
  · exact zW_step (fun C hL kk => lv_if_lt C.1 C.2.1 hd ht (fun h => absurd h hP) (fun _ => kk _ hL)) (k.2 hP)
theorem z_if_ge (tgt : Nat) (hd : decode mi.2.1 pc = .ok (.ifCond .ge off, 3)) (ht : (pc : Int) + off = (tgt : Int)) (k : (0 ≤ x → zW E mi d S M tgt ls st Φ) ∧ (¬ 0 ≤ x → zW E mi d S M (pc + 3) ls st Φ)) : zW E mi d S M pc ls (.int x :: st) Φ := by
  by_cases hP : 0 ≤ x
  · exact zW_step (fun C hL kk => lv_if_ge C.1 C.2.1 hd ht (fun _ => kk _ hL) (fun h => absurd hP h)) (k.1 hP)
  · exact zW_step (fun C hL kk => lv_if_ge C.1 C.2.1 hd ht (fun h => absurd h hP) (fun _ => kk _ hL)) (k.2 hP)
theorem z_if_gt (tgt : Nat) (hd : decode mi.2.1 pc = .ok (.ifCond .gt off, 3)) (ht : (pc : Int) + off = (tgt : Int)) (k : (0 < x → zW E mi d S M tgt ls st Φ) ∧ (¬ 0 < x → zW E mi d S M (pc + 3) ls st Φ)) : zW E mi d S M pc ls (.int x :: st) Φ := by
  by_cases hP : 0 < x
  · exact zW_step (fun C hL kk => lv_if_gt C.1 C.2.1 hd ht (fun _ => kk _ hL) (fun h => absurd hP h)) (k.1 hP)
  · exact zW_step (fun C hL kk => lv_if_gt C.1 C.2.1 hd ht (fun h => absurd h hP) (fun _ => kk _ hL)) (k.2 hP)
theorem z_if_le (tgt : Nat) (hd : decode mi.2.1 pc = .ok (.ifCond .le off, 3)) (ht : (pc : Int) + off = (tgt : Int)) (k : (x ≤ 0 → zW E mi d S M tgt ls st Φ) ∧ (¬ x ≤ 0 → zW E mi d S M (pc + 3) ls st Φ)) : zW E mi d S M pc ls (.int x :: st) Φ := by
  by_cases hP : x ≤ 0
  · exact zW_step (fun C hL kk => lv_if_le C.1 C.2.1 hd ht (fun _ => kk _ hL) (fun h => absurd hP h)) (k.1 hP)
  · exact zW_step (fun C hL kk => lv_if_le C.1 C.2.1 hd ht (fun h => absurd h hP) (fun _ => kk _ hL)) (k.2 hP)
theorem z_icmp_eq (tgt : Nat) (hd : decode mi.2.1 pc = .ok (.if_icmp .eq off, 3)) (ht : (pc : Int) + off = (tgt : Int)) (k : (x = y → zW E mi d S M tgt ls st Φ) ∧ (¬ x = y → zW E mi d S M (pc + 3) ls st Φ)) : zW E mi d S M pc ls (.int y :: .int x :: st) Φ := by
  by_cases hP : x = y
  · exact zW_step (fun C hL kk => lv_icmp_eq C.1 C.2.1 hd ht (fun _ => kk _ hL) (fun h => absurd hP h)) (k.1 hP)
  · exact zW_step (fun C hL kk => lv_icmp_eq C.1 C.2.1 hd ht (fun h => absurd h hP) (fun _ => kk _ hL)) (k.2 hP)
theorem z_icmp_ne (tgt : Nat) (hd : decode mi.2.1 pc = .ok (.if_icmp .ne off, 3)) (ht : (pc : Int) + off = (tgt : Int)) (k : (¬ x = y → zW E mi d S M tgt ls st Φ) ∧ (x = y → zW E mi d S M (pc + 3) ls st Φ)) : zW E mi d S M pc ls (.int y :: .int x :: st) Φ := by
  by_cases hP : x = y
  · exact zW_step (fun C hL kk => lv_icmp_ne C.1 C.2.1 hd ht (fun h => absurd hP h) (fun _ => kk _ hL)) (k.2 hP)
  · exact zW_step (fun C hL kk => lv_icmp_ne C.1 C.2.1 hd ht (fun _ => kk _ hL) (fun h => absurd h hP)) (k.1 hP)
theorem z_icmp_lt (tgt : Nat) (hd : decode mi.2.1 pc = .ok (.if_icmp .lt off, 3)) (ht : (pc : Int) + off = (tgt : Int)) (k : (x < y → zW E mi d S M tgt ls st Φ) ∧ (¬ x < y → zW E mi d S M (pc + 3) ls st Φ)) : zW E mi d S M pc ls (.int y :: .int x :: st) Φ := by
  by_cases hP : x < y
  · exact zW_step (fun C hL kk => lv_icmp_lt C.1 C.2.1 hd ht (fun _ => kk _ hL) (fun h => absurd hP h)) (k.1 hP)
  · exact zW_step (fun C hL kk => lv_icmp_lt C.1 C.2.1 hd ht (fun h => absurd h hP) (fun _ => kk _ hL)) (k.2 hP)
theorem z_icmp_ge (tgt : Nat) (hd : decode mi.2.1 pc = .ok (.if_icmp .ge off, 3)) (ht : (pc : Int) + off = (tgt : Int)) (k : (y ≤ x → zW E mi d S M tgt ls st Φ) ∧ (¬ y ≤ x → zW E mi d S M (pc + 3) ls st Φ)) : zW E mi d S M pc ls (.int y :: .int x :: st) Φ := by
  by_cases hP : y ≤ x
  · exact zW_step (fun C hL kk => lv_icmp_ge C.1 C.2.1 hd ht (fun _ => kk _ hL) (fun h => absurd hP h)) (k.1 hP)
  · exact zW_step (fun C hL kk => lv_icmp_ge C.1 C.2.1 hd ht (fun h => absurd h hP) (fun _ => kk _ hL)) (k.2 hP)
theorem z_icmp_gt (tgt : Nat) (hd : decode mi.2.1 pc = .ok (.if_icmp .gt off, 3)) (ht : (pc : Int) + off = (tgt : Int)) (k : (y < x → zW E mi d S M tgt ls st Φ) ∧ (¬ y < x → zW E mi d S M (pc + 3) ls st Φ)) : zW E mi d S M pc ls (.int y :: .int x :: st) Φ := by
  by_cases hP : y < x
  · exact zW_step (fun C hL kk => lv_icmp_gt C.1 C.2.1 hd ht (fun _ => kk _ hL) (fun h => absurd hP h)) (k.1 hP)
  · exact zW_step (fun C hL kk => lv_icmp_gt C.1 C.2.1 hd ht (fun h => absurd h hP) (fun _ => kk _ hL)) (k.2 hP)
theorem z_icmp_le (tgt : Nat) (hd : decode mi.2.1 pc = .ok (.if_icmp .le off, 3)) (ht : (pc : Int) + off = (tgt : Int)) (k : (x ≤ y → zW E mi d S M tgt ls st Φ) ∧ (¬ x ≤ y → zW E mi d S M (pc + 3) ls st Φ)) : zW E mi d S M pc ls (.int y :: .int x :: st) Φ := by
  by_cases hP : x ≤ y
  · exact zW_step (fun C hL kk => lv_icmp_le C.1 C.2.1 hd ht (fun _ => kk _ hL) (fun h => absurd hP h)) (k.1 hP)
  · exact zW_step (fun C hL kk => lv_icmp_le C.1 C.2.1 hd ht (fun h => absurd h hP) (fun _ => kk _ hL)) (k.2 hP)
theorem z_ifnonnull (tgt : Nat) (hd : decode mi.2.1 pc = .ok (.ifnonnull off, 3)) (ht : (pc : Int) + off = (tgt : Int)) (k : zW E mi d S M tgt ls st Φ) : zW E mi d S M pc ls (.ref a :: st) Φ :=
  zW_step (fun C hL kk => lv_ifnonnull C.1 C.2.1 hd ht (kk _ hL)) k
theorem z_ifnonnullN (hd : decode mi.2.1 pc = .ok (.ifnonnull off, 3)) (k : zW E mi d S M (pc + 3) ls st Φ) : zW E mi d S M pc ls (.null :: st) Φ :=
  zW_step (fun C hL kk => lv_ifnonnullN C.1 C.2.1 hd (kk _ hL)) k
theorem z_ifnull (hd : decode mi.2.1 pc = .ok (.ifnull off, 3)) (k : zW E mi d S M (pc + 3) ls st Φ) : zW E mi d S M pc ls (.ref a :: st) Φ :=
  zW_step (fun C hL kk => lv_ifnull C.1 C.2.1 hd (kk _ hL)) k
theorem z_ifnullN (tgt : Nat) (hd : decode mi.2.1 pc = .ok (.ifnull off, 3)) (ht : (pc : Int) + off = (tgt : Int)) (k : zW E mi d S M tgt ls st Φ) : zW E mi d S M pc ls (.null :: st) Φ :=
  zW_step (fun C hL kk => lv_ifnullN C.1 C.2.1 hd ht (kk _ hL)) k
theorem z_tswIn (tgt : Nat) {dflt lo hi : Int} {offs : Array Int} {len : Nat} (hd : decode mi.2.1 pc = .ok (.tableswitch dflt lo hi offs, len)) (h1 : ¬ x.toInt < lo) (h2 : ¬ hi < x.toInt) (ho : offs[(x.toInt - lo).toNat]? = some off) (ht : (pc : Int) + off = (tgt : Int)) (k : zW E mi d S M tgt ls st Φ) : zW E mi d S M pc ls (.int x :: st) Φ :=
  zW_step (fun C hL kk => lv_tableIn C.1 C.2.1 hd h1 h2 ho ht (kk _ hL)) k
theorem z_tswOut (tgt : Nat) {dflt lo hi : Int} {offs : Array Int} {len : Nat} (hd : decode mi.2.1 pc = .ok (.tableswitch dflt lo hi offs, len)) (h : x.toInt < lo ∨ hi < x.toInt) (ht : (pc : Int) + dflt = (tgt : Int)) (k : zW E mi d S M tgt ls st Φ) : zW E mi d S M pc ls (.int x :: st) Φ :=
  zW_step (fun C hL kk => lv_tableOut C.1 C.2.1 hd h ht (kk _ hL)) k
end ZR
end
section
/-! rules of the instructions that look at the heap, write into it, or make cells -/
/-- the link of a field, as a class names it in its pool -/
def zFL (own : String) (index ci k : Nat) : Prop := ∃ (C : String) (T : u_T) (N : Nat), zCl[ci]? = some (C, T, N) ∧ k < N ∧ (Cond.fieldLink own index C (T k).2.1 (T k).2.2.1 ∈ ztbl ∨ ∃ host, Cond.fieldLinkNest own index C (T k).2.1 (T k).2.2.1 host ∈ ztbl)
/-- a cell of a kind -/
def zA (S : ZS) (a ci : Nat) : Prop := a < S.1 ∧ S.2.1 a = ci
section ZH
variable {E : ZE} {mi : ZI} {d : Nat} {S : ZS} {M : ZM} {pc : Nat} {ls : List (Option Value)} {st : List Value} {Φ : Option Value → ZS → ZM → Prop}
variable {x y : Int32} {a i tgt : Nat} {off : Int}
theorem zfs_get {B : Nat} {N k : Nat} (hk : k < N) : ((List.range N).map (zpv B S M a))[k]? = some (zpv B S M a k) := by simp [hk]
theorem z_getv {index ci k : Nat} {v : Value} (hl : zFL mi.1.cls index ci k) (ha : zA S a ci) (hv : zpv E.2.2.2 S M a k = zsh E.2.2.2 v) (hd : decode mi.2.1 pc = .ok (.getfield index, 3)) (kk : zW E mi d S M (pc + 3) ls (v :: st) Φ) : zW E mi d S M pc ls (.ref a :: st) Φ := by
  obtain ⟨C0, T, N, hc, hk, hw⟩ := hl
  obtain ⟨hnf, h12⟩ := zg_nf hc
  refine zW_heap rfl rfl (fun {p e R s m args below meth c H locs cells slots Q L} C hH k1 => ?_) kk
  have he : (zws E S M)[a]? = some (E.2.2.2 + a, .inr (ci, (List.range N).map (zpv E.2.2.2 S M a))) := by rw [zws_get E S M ha.1, zce_o ha.2 h12, hnf]
  have hown : (T k).1 = C0 := zg_own hc k
  have hf : ((List.range N).map (zpv E.2.2.2 S M a))[k]? = some (zsh E.2.2.2 v) := by rw [zfs_get hk, hv]
  rcases hw with hw | ⟨host, hw⟩
  · exact va_get C.1 C.2.1 (Ts := ztbl) C.2.2.2.2.2.1 (zg_in hc) C.2.2.2.2.1 C.2.2.2.2.2.2.1 hH.1 a he hc k hk (C.2.2.2.2.2.1 _ hw) (fun z h => by rw [hown] at h; exact h) hf hd (k1 H locs hH)
  · exact va_getN C.1 C.2.1 (Ts := ztbl) C.2.2.2.2.2.1 (zg_in hc) C.2.2.2.2.1 C.2.2.2.2.2.2.1 hH.1 a he hc k hk (C.2.2.2.2.2.1 _ hw) (fun z h => by rw [hown] at h; exact h) hf hd (k1 H locs hH)
theorem z_geti {index ci k : Nat} (hl : zFL mi.1.cls index ci k) (hr : zrf ci k = false) (hd : decode mi.2.1 pc = .ok (.getfield index, 3)) (ha : zA S a ci) (kk : zW E mi d S M (pc + 3) ls (.int (M a k) :: st) Φ) : zW E mi d S M pc ls (.ref a :: st) Φ :=
  z_getv hl ha (by simp [zpv, ha.2, hr, zsh]) hd kk
theorem z_getr {index ci k b : Nat} (hl : zFL mi.1.cls index ci k) (hr : zrf ci k = true) (hd : decode mi.2.1 pc = .ok (.getfield index, 3)) (ha : zA S a ci) (hb : S.2.2.2 a k = some b) (kk : zW E mi d S M (pc + 3) ls (.ref b :: st) Φ) : zW E mi d S M pc ls (.ref a :: st) Φ :=
  z_getv hl ha (by simp [zpv, ha.2, hr, zsh, hb, zrv, va_rf]) hd kk
theorem zsl_eq {S1 : ZS} (hn : S1.1 = S.1) (h1 : S1.2.1 = S.2.1) (h2 : S1.2.2.1 = S.2.2.1) : zsl S1 = zsl S := by
  unfold zsl
  rw [hn]
  congr 1
  refine List.map_congr_left (fun b _ => ?_)
  simp [zszc, h1, h2]
/-- a field is written -/
theorem z_putv {index ci k : Nat} {v : Value} {ty : FieldType} {S1 : ZS} {M1 : ZM} {C0 : String} {T : u_T} {N : Nat} (hc : zCl[ci]? = some (C0, T, N)) (hk : k < N)
    (hw : (Cond.fieldLink mi.1.cls index C0 (T k).2.1 (T k).2.2.1 ∈ ztbl ∧ ((T k).2.2.2 = false ∨ ((T k).2.2.2 = true ∧ mi.1.name = "<init>" ∧ C0 = mi.1.cls))) ∨ ∃ host, Cond.fieldLinkNest mi.1.cls index C0 (T k).2.1 (T k).2.2.1 host ∈ ztbl ∧ (T k).2.2.2 = false) (ha : zA S a ci) (hty : parseFieldDescriptor (T k).2.2.1 = some ty)
    (hn : narrow ty (zsh E.2.2.2 v) = zsh E.2.2.2 v) (hfit : fits ty (zsh E.2.2.2 v) = true)
    (hS : S1.1 = S.1 ∧ S1.2.1 = S.2.1 ∧ S1.2.2.1 = S.2.2.1) (hk1 : zpv E.2.2.2 S1 M1 a k = zsh E.2.2.2 v) (hk2 : ∀ j, j ≠ k → zpv E.2.2.2 S1 M1 a j = zpv E.2.2.2 S M a j) (ho : ∀ b, b < S.1 → b ≠ a → zce E S1 M1 b = zce E S M b)
    (hd : decode mi.2.1 pc = .ok (.putfield index, 3)) (kk : zW E mi d S1 M1 (pc + 3) ls st Φ) : zW E mi d S M pc ls (v :: .ref a :: st) Φ := by
  obtain ⟨hnf, h12⟩ := zg_nf hc
  refine zW_heap hS.1 (zsl_eq hS.1 hS.2.1 hS.2.2) (fun {p e R s m args below meth c H locs cells slots Q L} C hH k1 => ?_) kk
  have he : (zws E S M)[a]? = some (E.2.2.2 + a, .inr (ci, (List.range N).map (zpv E.2.2.2 S M a))) := by rw [zws_get E S M ha.1, zce_o ha.2 h12, hnf]
  have hown : (T k).1 = C0 := zg_own hc k
  have hsame : ∀ x, s.fieldFound? (T k).1 (T k).2.1 (T k).2.2.1 = some x → s.fieldFound? C0 (T k).2.1 (T k).2.2.1 = some x := fun z h => by rw [hown] at h; exact h
  obtain ⟨ty0, hty0⟩ := zg_ty hc
  have hts := C.2.2.2.2.2.1
  have hK := C.2.2.2.2.2.2.1
  have hD := zws_D E S M
  have hset : (zws E S M).set a (E.2.2.2 + a, .inr (ci, ((List.range N).map (zpv E.2.2.2 S M a)).set k (zsh E.2.2.2 v))) = zws E S1 M1 := by
    refine zws_set hS.1 ?_ ho
    rw [zce_o (by rw [hS.2.1]; exact ha.2) h12, hnf, zmap_set hk1 hk2]
  have hap := va_apart (own := mi.1.cls) hts (zg_in hc) ty0 hty0 (zg_nm hc) hK hc
  obtain ⟨r, h1, cell, q1, q2, q3, q4⟩ := hH.1 a _ he
  have hr : r = (C0, T, N) := Option.some.inj (h1.symm.trans hc)
  subst hr
  obtain ⟨hSl, hfc, kC, hkC, hkind⟩ := hK.1 ci _ hc
  obtain ⟨cf, kf, fi, f, hi, hsl⟩ := hSl k hk
  have hst := (u_facts hfc hkC (u_lays hts (zg_in hc) hk) hi).1
  have hlay := hts _ (zg_in hc _ (u_in_lay hk))
  have fin : ∀ H' : Heap, H'[E.2.2.2 + a]? = some (cell.setSlot f.slot (zsh E.2.2.2 v)) → H'.size = H.size → (∀ q, q ≠ E.2.2.2 + a → H'[q]? = H[q]?) → zH E S1 M1 s.heap H' (locs ++ [⟨E.2.2.2 + a, f.slot⟩]) := by
    intro H' e1 e2 e3
    rw [hsl] at e1
    refine ⟨?_, by rw [e2, hS.1]; exact hH.2.1, hH.2.2.put e2 e3 (Nat.le_add_right _ _)⟩
    rw [← hset]
    exact hH.1.set hD he ⟨_, hc, t_OB.to (V := updV (vp_V ((List.range N).map (zpv E.2.2.2 S M a))) k (zsh E.2.2.2 v)) ⟨_, e1, q2, q3, t_set q4 hap hk _⟩ (fun j _ => vp_updV_set (by simpa using hk) _ j)⟩ e3
  rcases hw with ⟨hw, hf | ⟨hf, hin, hcls⟩⟩ | ⟨host, hw, hf⟩
  · unfold u_lay at hlay
    rw [if_neg (by rw [hf]; decide)] at hlay
    have h6 := u_store hfc hkC hkind hlay hi hty hn hfit
    exact W.putK C.1 C.2.1 (f := f) ⟨C.2.2.2.2.1, hts _ hw, ⟨_, _, _, hsame _ hi⟩, hst⟩ (by rw [q2]; exact h6) q1 q3 (by rw [hsl]; exact k2_hasslot (q4 k hk)) rfl rfl hd (fun H' e1 e2 e3 => k1 H' _ (fin H' e1 e2 e3))
  · unfold u_lay at hlay
    rw [if_pos hf] at hlay
    have hcf : m.cls = cf := by
      obtain ⟨_, _, c', _, _, _, -, -, hf', -, -, -, hown2, -⟩ := Cond.laysFinal_spec hlay
      have e1 : c' = cf := by have := hi.symm.trans hf'; simp at this; exact this.1.symm
      rw [hown, hcls] at hown2
      rw [← e1]; exact Option.some.inj (C.2.2.2.2.1.symm.trans hown2)
    have h6 := u_fits hfc hkC hkind (Or.inr hlay) hi hty hn hfit
    exact W.putFinK C.1 C.2.1 C.2.2.2.2.1 (hts _ hw) (hsame _ hi) hst hcf (C.2.2.2.2.2.2.2.2.2.2.trans hin) (by rw [q2]; exact h6) q1 q3 (by rw [hsl]; exact k2_hasslot (q4 k hk)) rfl rfl hd (fun H' e1 e2 e3 => k1 H' _ (fin H' e1 e2 e3))
  · unfold u_lay at hlay
    rw [if_neg (by rw [hf]; decide)] at hlay
    have h6 := u_store hfc hkC hkind hlay hi hty hn hfit
    exact va_WputK C.1 C.2.1 (f := f) C.2.2.2.2.1 (hts _ hw) (hsame _ hi) hst (by rw [q2]; exact h6) q1 q3 (by rw [hsl]; exact k2_hasslot (q4 k hk)) rfl rfl hd (fun H' e1 e2 e3 => k1 H' _ (fin H' e1 e2 e3))
/-- what a field's link gives for writing a number -/
def zPL (mi : ZI) (index ci k : Nat) (ty : FieldType) : Prop := ∃ (C0 : String) (T : u_T) (N : Nat), zCl[ci]? = some (C0, T, N) ∧ k < N ∧ parseFieldDescriptor (T k).2.2.1 = some ty ∧
  ((Cond.fieldLink mi.1.cls index C0 (T k).2.1 (T k).2.2.1 ∈ ztbl ∧ ((T k).2.2.2 = false ∨ ((T k).2.2.2 = true ∧ mi.1.name = "<init>" ∧ C0 = mi.1.cls))) ∨ ∃ host, Cond.fieldLinkNest mi.1.cls index C0 (T k).2.1 (T k).2.2.1 host ∈ ztbl ∧ (T k).2.2.2 = false)
theorem z_puti {index ci k : Nat} {ty : FieldType} (hl : zPL mi index ci k ty) (hr : zrf ci k = false) (hd : decode mi.2.1 pc = .ok (.putfield index, 3)) (ha : zA S a ci) (hn : narrow ty (.int x) = .int x) (hfit : fits ty (.int x) = true) (kk : zW E mi d S (zms M a k x) (pc + 3) ls st Φ) : zW E mi d S M pc ls (.int x :: .ref a :: st) Φ := by
  obtain ⟨C0, T, N, hc, hk, hty, hw⟩ := hl
  refine z_putv (v := .int x) hc hk hw ha hty hn hfit ⟨rfl, rfl, rfl⟩ (by simp [zpv, ha.2, hr, zsh, zms]) (fun j hj => ?_) (fun b _ hb => zce_congr rfl rfl rfl (zms_ne M k x hb)) hd kk
  simp [zpv, ha.2, zms, hj]
theorem z_putr {index ci k b : Nat} {ty : FieldType} (hl : zPL mi index ci k ty) (hr : zrf ci k = true) (hd : decode mi.2.1 pc = .ok (.putfield index, 3)) (ha : zA S a ci) (hn : ∀ q : Nat, narrow ty (.ref q) = .ref q ∧ fits ty (.ref q) = true) (kk : zW E mi d (S.1, S.2.1, S.2.2.1, zup S.2.2.2 a (zup (S.2.2.2 a) k (some b))) M (pc + 3) ls st Φ) : zW E mi d S M pc ls (.ref b :: .ref a :: st) Φ := by
  obtain ⟨C0, T, N, hc, hk, hty, hw⟩ := hl
  refine z_putv (v := .ref b) (S1 := (S.1, S.2.1, S.2.2.1, zup S.2.2.2 a (zup (S.2.2.2 a) k (some b)))) hc hk hw ha hty (hn _).1 (hn _).2 ⟨rfl, rfl, rfl⟩ (by simp [zpv, ha.2, hr, zsh, zup, zrv, va_rf]) (fun j hj => ?_) (fun b' _ hb => zce_congr rfl rfl (by simp [zup, hb]) rfl) hd kk
  simp [zpv, zup, hj]
/-! arrays -/
theorem z_alen {ty : Nat} (ha : zA S a ty) (ht : 12 ≤ ty ∧ ty ≤ 14) (hd : decode mi.2.1 pc = .ok (.arraylength, 1)) (kk : zW E mi d S M (pc + 1) ls (.int (Int32.ofNat (S.2.2.1 a)) :: st) Φ) : zW E mi d S M pc ls (.ref a :: st) Φ := by
  refine zW_heap rfl rfl (fun {p e R s m args below meth c H locs cells slots Q L} C hH k1 => ?_) kk
  have hK := C.2.2.2.2.2.2.1
  have hg := zws_get E S M ha.1
  rcases (show ty = 12 ∨ ty = 13 ∨ ty = 14 by omega) with rfl | rfl | rfl
  · rw [zce_i ha.2] at hg
    exact va_alen C.1 C.2.1 hK hH.1 a 0 hg rfl rfl hd (k1 H locs hH)
  · rw [zce_z ha.2] at hg
    exact va_alen C.1 C.2.1 hK hH.1 a 1 hg rfl rfl hd (k1 H locs hH)
  · rw [zce_r ha.2] at hg
    exact va_alen C.1 C.2.1 hK hH.1 a 2 hg rfl rfl hd (k1 H locs hH)
theorem z_iaload (hd : decode mi.2.1 pc = .ok (.iaload, 1)) (ha : zA S a 12) (hin : vp_in x (S.2.2.1 a)) (kk : zW E mi d S M (pc + 1) ls (.int (M a x.toNatClampNeg) :: st) Φ) : zW E mi d S M pc ls (.int x :: .ref a :: st) Φ := by
  refine zW_heap rfl rfl (fun {p e R s m args below meth c H locs cells slots Q L} C hH k1 => ?_) kk
  have hg := zws_get E S M ha.1
  rw [zce_i ha.2] at hg
  exact va_iald C.1 C.2.1 C.2.2.2.2.2.2.1 hH.1 a 0 hg rfl hin hd (k1 H locs hH)
theorem z_baload (hd : decode mi.2.1 pc = .ok (.baload, 1)) (ha : zA S a 13) (hin : vp_in x (S.2.2.1 a)) (kk : zW E mi d S M (pc + 1) ls (.int (M a x.toNatClampNeg) :: st) Φ) : zW E mi d S M pc ls (.int x :: .ref a :: st) Φ := by
  refine zW_heap rfl rfl (fun {p e R s m args below meth c H locs cells slots Q L} C hH k1 => ?_) kk
  have hg := zws_get E S M ha.1
  rw [zce_z ha.2] at hg
  exact va_zald C.1 C.2.1 C.2.2.2.2.2.2.1 hH.1 a 1 hg rfl hin hd (k1 H locs hH)
theorem z_aaload (o : Option Nat) (hd : decode mi.2.1 pc = .ok (.aaload, 1)) (ha : zA S a 14) (hin : vp_in x (S.2.2.1 a)) (ho : S.2.2.2 a x.toNatClampNeg = o) (kk : zW E mi d S M (pc + 1) ls (va_rf o :: st) Φ) : zW E mi d S M pc ls (.int x :: .ref a :: st) Φ := by
  subst ho
  refine zW_heap rfl rfl (fun {p e R s m args below meth c H locs cells slots Q L} C hH k1 => ?_) kk
  have hg := zws_get E S M ha.1
  rw [zce_r ha.2] at hg
  have k2 := k1 H locs hH
  rw [List.map_cons, zsh_rf] at k2
  exact va_aldq C.1 C.2.1 C.2.2.2.2.2.2.1 hH.1 a 2 hg rfl hin hd k2
theorem z_iastore (hd : decode mi.2.1 pc = .ok (.iastore, 1)) (ha : zA S a 12) (hin : vp_in x (S.2.2.1 a)) (kk : zW E mi d S (zms M a x.toNatClampNeg y) (pc + 1) ls st Φ) : zW E mi d S M pc ls (.int y :: .int x :: .ref a :: st) Φ := by
  refine zW_heap rfl rfl (fun {p e R s m args below meth c H locs cells slots Q L} C hH k1 => ?_) kk
  have hg := zws_get E S M ha.1
  rw [zce_i ha.2] at hg
  have hset : (zws E S M).set a (E.2.2.2 + a, .inl (E.2.2.1.1, S.2.2.1 a, .inl (zup (M a) x.toNatClampNeg y))) = zws E S (zms M a x.toNatClampNeg y) :=
    zws_set rfl (by rw [zce_i ha.2, zms_self]) (fun b _ hb => zce_congr rfl rfl rfl (zms_ne M _ _ hb))
  refine W.iast C.1 C.2.1 (hH.1 a _ hg) ((C.2.2.2.2.2.2.1.2 0 _ rfl).1 (S.2.2.1 a) (fun j => .int (M a j))) (fun q => by cases q) (by show ¬ (x < 0 ∨ (arrV _ _ _).slots.size ≤ _); rw [arrV_size]; exact hin) rfl rfl hd fun H1 e1 z oq => ?_
  refine k1 H1 _ ⟨?_, z.trans hH.2.1, hH.2.2.put z oq (Nat.le_add_right _ _)⟩
  rw [← hset]
  refine hH.1.set (zws_D E S M) hg ?_ oq
  show H1[E.2.2.2 + a]? = some (vp_cell _ _)
  rw [e1]
  rw [vp_cell_i, vp_cell_i, arrV_store]
  congr 2
  funext q
  by_cases hq : q = x.toNatClampNeg
  · subst hq
    simp [updV, zup]
  · simp [updV, zup, hq]
theorem z_bastore (hd : decode mi.2.1 pc = .ok (.bastore, 1)) (ha : zA S a 13) (hin : vp_in x (S.2.2.1 a)) (hy : narrow .boolean (.int y) = .int y) (kk : zW E mi d S (zms M a x.toNatClampNeg y) (pc + 1) ls st Φ) : zW E mi d S M pc ls (.int y :: .int x :: .ref a :: st) Φ := by
  refine zW_heap rfl rfl (fun {p e R s m args below meth c H locs cells slots Q L} C hH k1 => ?_) kk
  have hg := zws_get E S M ha.1
  rw [zce_z ha.2] at hg
  have hset : (zws E S M).set a (E.2.2.2 + a, .inl (E.2.2.1.2.1, S.2.2.1 a, .inl (zup (M a) x.toNatClampNeg y))) = zws E S (zms M a x.toNatClampNeg y) :=
    zws_set rfl (by rw [zce_z ha.2, zms_self]) (fun b _ hb => zce_congr rfl rfl rfl (zms_ne M _ _ hb))
  refine W.zast C.1 C.2.1 (hH.1 a _ hg) ((C.2.2.2.2.2.2.1.2 1 _ rfl).1 (S.2.2.1 a) (fun j => .int (M a j))) (fun q => by cases q) (by show ¬ (x < 0 ∨ (arrV _ _ _).slots.size ≤ _); rw [arrV_size]; exact hin) rfl rfl hd fun H1 e1 z oq => ?_
  refine k1 H1 _ ⟨?_, z.trans hH.2.1, hH.2.2.put z oq (Nat.le_add_right _ _)⟩
  rw [← hset]
  refine hH.1.set (zws_D E S M) hg ?_ oq
  show H1[E.2.2.2 + a]? = some (vp_cell _ _)
  rw [e1, hy]
  rw [vp_cell_i, vp_cell_i, arrV_store]
  congr 2
  funext q
  by_cases hq : q = x.toNatClampNeg
  · subst hq
    simp [updV, zup]
  · simp [updV, zup, hq]
theorem z_aastore {b : Nat} (hd : decode mi.2.1 pc = .ok (.aastore, 1)) (ha : zA S a 14) (hb : zA S b 4) (hin : vp_in x (S.2.2.1 a)) (kk : zW E mi d (S.1, S.2.1, S.2.2.1, zup S.2.2.2 a (zup (S.2.2.2 a) x.toNatClampNeg (some b))) M (pc + 1) ls st Φ) : zW E mi d S M pc ls (.ref b :: .int x :: .ref a :: st) Φ := by
  refine zW_heap (S1 := (S.1, S.2.1, S.2.2.1, zup S.2.2.2 a (zup (S.2.2.2 a) x.toNatClampNeg (some b)))) rfl (zsl_eq rfl rfl rfl) (fun {p e R s m args below meth c H locs cells slots Q L} C hH k1 => ?_) kk
  have hg := zws_get E S M ha.1
  rw [zce_r ha.2] at hg
  have hgb := zws_get E S M hb.1
  rw [zce_o hb.2 (by decide)] at hgb
  have hK := C.2.2.2.2.2.2.1
  have hset : (zws E S M).set a (E.2.2.2 + a, .inl (E.2.2.1.2.2, S.2.2.1 a, .inr (.inr (.inr (.inr (fun k => (zup (S.2.2.2 a) x.toNatClampNeg (some b) k).map (fun q => E.2.2.2 + q))))))) = zws E (S.1, S.2.1, S.2.2.1, zup S.2.2.2 a (zup (S.2.2.2 a) x.toNatClampNeg (some b))) M := by
    refine zws_set rfl ?_ (fun b' _ hb' => zce_congr rfl rfl (by simp [zup, hb']) rfl)
    rw [zce_r (show (S.1, S.2.1, S.2.2.1, zup S.2.2.2 a (zup (S.2.2.2 a) x.toNatClampNeg (some b))).2.1 a = 14 from ha.2)]
    simp [zup]
  have hlt : x.toNatClampNeg < S.2.2.1 a := Nat.not_le.mp fun q => hin (Or.inr q)
  have h0 : ¬ x < 0 := fun q => hin (Or.inl q)
  obtain ⟨r', hr', cellV, g1, g2, g3, -⟩ := hH.1 b _ hgb
  have hcls := (hK.1 4 (zR_Node, zT_Node, 11) rfl).2
  obtain ⟨kA, comp, k1', k2, k3, -⟩ := (hK.2 2 _ rfl).2
  have hcomp : comp = E.2.1.1 4 := Option.some.inj (k3.symm.trans hcls.1)
  subst hcomp
  obtain ⟨kC, hkC, -⟩ := hcls.2
  refine W.aast C.1 C.2.1 (hH.1 a _ hg) (fun q h => by cases h) (fun h => by cases h) k1' k2 rfl hkC ⟨h0, by show _ < (arrV _ _ _).slots.size; rw [arrV_size]; exact hlt⟩ g1 (fun q h => by rw [g3] at h; cases h) (by rw [g2]; exact hkC) (by rw [g2]; exact va_assign hcls) rfl rfl hd fun H1 e z oq => ?_
  refine k1 H1 _ ⟨?_, z.trans hH.2.1, hH.2.2.put z oq (Nat.le_add_right _ _)⟩
  rw [← hset]
  refine hH.1.set (zws_D E S M) hg ?_ oq
  show H1[E.2.2.2 + a]? = some (vp_cell _ _)
  rw [e]
  rw [vp_cell_q, vp_cell_q, arrV_store]
  congr 2
  funext q
  by_cases hq : q = x.toNatClampNeg
  · subst hq
    simp [updV, zup, va_rf]
  · simp [updV, zup, hq]
end ZH
end
section
/-! rules of the instructions that make cells, of the returns and of the calls -/
section ZN
variable {E : ZE} {mi : ZI} {d : Nat} {S : ZS} {M : ZM} {pc : Nat} {ls : List (Option Value)} {st : List Value} {Φ : Option Value → ZS → ZM → Prop}
variable {x y : Int32} {a i tgt : Nat} {off : Int}
/-- one cell more: of a kind, with a length; nothing in it -/
def zadd (S : ZS) (ty len : Nat) : ZS := (S.1 + 1, zup S.2.1 S.1 ty, zup S.2.2.1 S.1 len, zup S.2.2.2 S.1 (fun _ => none))
def zM0 (S : ZS) (M : ZM) : ZM := zup M S.1 (fun _ => 0)
theorem zadd_sl (S : ZS) (ty len : Nat) : zsl (zadd S ty len) = zsl S + (if ty < 12 then znf ty else len) := by
  unfold zsl
  show (List.map (zszc (zadd S ty len)) (List.range (S.1 + 1))).sum = _
  rw [List.range_succ, List.map_append, List.sum_append]
  congr 1
  · congr 1
    refine List.map_congr_left (fun b hb => ?_)
    have hb := List.mem_range.mp hb
    have hne : b ≠ S.1 := by omega
    simp [zszc, zadd, zup, hne]
  · simp [zszc, zadd, zup]
theorem zadd_ce {ty len b : Nat} (hb : b < S.1) : zce E (zadd S ty len) (zM0 S M) b = zce E S M b := by
  have hne : b ≠ S.1 := by omega
  refine zce_congr ?_ ?_ ?_ ?_ <;> simp [zadd, zM0, zup, hne]
/-- what is made stands behind all that was there -/
theorem zH_push {ty len : Nat} {H H' : Heap} {H0 : Heap} {locs : List Loc} (hH : zH E S M H0 H locs) (z : H'.size = E.2.2.2 + S.1 + 1) (oq : ∀ q, q < E.2.2.2 + S.1 → H'[q]? = H[q]?) (he : va_at E.2.1 zCl (E.2.2.2 + S.1, zce E (zadd S ty len) (zM0 S M) S.1) H') : zH E (zadd S ty len) (zM0 S M) H0 H' locs := by
  have hz := hH.2.1
  refine ⟨?_, by rw [z]; show _ = E.2.2.2 + (S.1 + 1); omega, Nat.le_trans hH.2.2.1 (by omega), fun q h1 h2 => ?_, hH.2.2.2.2⟩
  · rw [← zws_push (E := E) (S := S) (S' := zadd S ty len) (M := M) (M' := zM0 S M) rfl rfl (fun b hb => zadd_ce hb)]
    refine va_P.app (hH.1.kept (fun k q hk => oq _ ?_)) (fun k q hk => ?_)
    · rw [(zws_inv hk).2]
      exact Nat.add_lt_add_left (zws_inv hk).1 _
    · have hz : k < 1 := (List.getElem?_eq_some_iff.mp hk).1
      rw [show k = 0 by omega] at hk
      cases hk
      exact he
  · rw [oq q (by have := hH.2.2.1; omega)]
    exact hH.2.2.2.1 q h1 h2
theorem zW_make {ty len : Nat} {st' : List Value} {pc' : Nat} 
    (h : ∀ {p : Program} {e : Env} {R : Room} {s : State} {m : MethodId} {args : Array Value} {below : List Frame} {meth : Method} {c : Code} {H : Heap} {locs : List Loc} {cells slots : Nat} {Q : State → Prop} {L : Array Slot}, zC E mi d p R s m args meth c → zH E S M s.heap H locs → cells + 1 ≤ R.cells → slots + (if ty < 12 then znf ty else len) ≤ R.slots →
      (∀ H', zH E (zadd S ty len) (zM0 S M) s.heap H' locs → W p E.1 e R s m args below meth c H' locs (cells + 1) (slots + (if ty < 12 then znf ty else len)) Q (F0 m pc' L (st'.map (zsh E.2.2.2)))) → W p E.1 e R s m args below meth c H locs cells slots Q (F0 m pc L (st.map (zsh E.2.2.2))))
    (k : zW E mi d (zadd S ty len) (zM0 S M) pc' ls st' Φ) : zW E mi d S M pc ls st Φ := by
  obtain ⟨S', M', r, h1, h2, h3, h4⟩ := k
  have e1 : (zadd S ty len).1 = S.1 + 1 := rfl
  have e2 := zadd_sl S ty len
  rw [e1] at h2
  rw [e2] at h3
  refine ⟨S', M', r, h1, by omega, by omega, fun p e R s m args below meth c n0 s0 C a1 a2 a3 a4 a5 H locs L hH hL => h C hH (by omega) (by omega) (fun H' hH' => ?_)⟩
  have := h4 p e R s m args below meth c n0 s0 C (by rw [e1]; omega) (by rw [e2]; omega) a3 a4 a5 H' locs L hH' hL
  rw [e1, e2] at this
  rw [show S.1 - n0 + 1 = S.1 + 1 - n0 by omega, show zsl S - s0 + (if ty < 12 then znf ty else len) = zsl S + (if ty < 12 then znf ty else len) - s0 by omega]
  exact this
def zNL (own : String) (index ci : Nat) : Prop := ∃ (C : String) (T : u_T) (N : Nat), zCl[ci]? = some (C, T, N) ∧ Cond.classLink own index C ∈ ztbl ∧ Cond.instantiable C N ∈ ztbl ∧ Cond.initialized C ∈ ztbl
theorem z_new {index ci : Nat} (hl : zNL mi.1.cls index ci) (hd : decode mi.2.1 pc = .ok (.new index, 3)) (kk : zW E mi d (zadd S ci 0) (zM0 S M) (pc + 3) ls (.ref S.1 :: st) Φ) : zW E mi d S M pc ls st Φ := by
  obtain ⟨C0, T, N, hc, hw1, hw2, hw3⟩ := hl
  obtain ⟨hnf, h12⟩ := zg_nf hc
  refine zW_make (fun {p e R s m args below meth c H locs cells slots Q L} C hH hcl hsl k1 => ?_) kk
  rw [if_pos h12, hnf] at hsl k1
  have hts := C.2.2.2.2.2.1
  have hKn := C.2.2.2.2.2.2.1.1 ci _ hc
  obtain ⟨ty0, hty0, hdef⟩ := zg_def hc
  refine W.newcK C.1 C.2.1 C.2.2.2.2.1 (hts _ hw1) (hts _ hw2) (hts _ hw3) rfl hd hcl hsl hKn.2.1 hH.2.1 fun H1 kC hkC e1 z1 o1 => ?_
  refine k1 H1 (zH_push hH z1 o1 ?_)
  rw [zce_o (show (zadd S ci 0).2.1 S.1 = ci by simp [zadd, zup]) h12, hnf]
  refine ⟨_, hc, (u_born ty0 hts (zg_in hc) hKn hkC e1 hty0).to (fun k hk => ?_)⟩
  have hk' : k < N := hk
  rw [hdef k hk']
  simp only [vp_V, List.getD_eq_getElem?_getD, List.getElem?_map, List.getElem?_range hk', Option.map_some, Option.getD_some, zpv]
  simp [zadd, zM0, zup, zrv, va_rf]
theorem z_newI (N : Nat) (hw : Cond.arrayClass .int ∈ ztbl) (hd : decode mi.2.1 pc = .ok (.newarray .int, 2)) (hn : ¬ x < 0) (hN : x.toNatClampNeg = N) (hb : N * 4 ≤ 536870912) (kk : zW E mi d (zadd S 12 N) (zM0 S M) (pc + 2) ls (.ref S.1 :: st) Φ) : zW E mi d S M pc ls (.int x :: st) Φ := by
  refine zW_make (ty := 12) (len := N) (fun {p e R s m args below meth c H locs cells slots Q L} C hH hcl hsl k1 => ?_) kk
  have hts := C.2.2.2.2.2.1
  refine va_newaK (atype := .int) C.1 C.2.1 (hts _ hw) rfl hd rfl hn hN hb hcl hsl hH.2.1 fun H1 cA e1 z1 o1 hAr hNm => ?_
  have hcA : cA = E.2.2.1.1 := Option.some.inj (hNm.symm.trans (C.2.2.2.2.2.2.1.2 0 _ rfl).2)
  subst hcA
  refine k1 H1 (zH_push hH z1 o1 ?_)
  rw [zce_i (show (zadd S 12 N).2.1 S.1 = 12 by simp [zadd, zup])]
  show H1[E.2.2.2 + S.1]? = some (vp_cell _ _)
  rw [e1, vp_cell_i]
  simp only [zadd, zM0, zup, if_true]
  rfl
theorem z_newZ (N : Nat) (hw : Cond.arrayClass .boolean ∈ ztbl) (hd : decode mi.2.1 pc = .ok (.newarray .boolean, 2)) (hn : ¬ x < 0) (hN : x.toNatClampNeg = N) (hb : N * 1 ≤ 536870912) (kk : zW E mi d (zadd S 13 N) (zM0 S M) (pc + 2) ls (.ref S.1 :: st) Φ) : zW E mi d S M pc ls (.int x :: st) Φ := by
  refine zW_make (ty := 13) (len := N) (fun {p e R s m args below meth c H locs cells slots Q L} C hH hcl hsl k1 => ?_) kk
  have hts := C.2.2.2.2.2.1
  refine va_newaK (atype := .boolean) C.1 C.2.1 (hts _ hw) rfl hd rfl hn hN hb hcl hsl hH.2.1 fun H1 cA e1 z1 o1 hAr hNm => ?_
  have hcA : cA = E.2.2.1.2.1 := Option.some.inj (hNm.symm.trans (C.2.2.2.2.2.2.1.2 1 _ rfl).2)
  subst hcA
  refine k1 H1 (zH_push hH z1 o1 ?_)
  rw [zce_z (show (zadd S 13 N).2.1 S.1 = 13 by simp [zadd, zup])]
  show H1[E.2.2.2 + S.1]? = some (vp_cell _ _)
  rw [e1, vp_cell_i]
  simp only [zadd, zM0, zup, if_true]
  rfl
theorem z_newN (N : Nat) {index : Nat} (hw1 : Cond.classLink mi.1.cls index "HeadSplits$Node" ∈ ztbl) (hw2 : Cond.arrayOver (.object "HeadSplits$Node") ∈ ztbl) (hd : decode mi.2.1 pc = .ok (.anewarray index, 3)) (hn : ¬ x < 0) (hN : x.toNatClampNeg = N) (hb : N * 4 ≤ 536870912) (kk : zW E mi d (zadd S 14 N) (zM0 S M) (pc + 3) ls (.ref S.1 :: st) Φ) : zW E mi d S M pc ls (.int x :: st) Φ := by
  subst hN
  refine zW_make (ty := 14) (len := x.toNatClampNeg) (fun {p e R s m args below meth c H locs cells slots Q L} C hH hcl hsl k1 => ?_) kk
  have hts := C.2.2.2.2.2.1
  refine W.anew C.1 C.2.1 C.2.2.2.2.1 (hts _ hw1) (hts _ hw2) rfl hd rfl hn hb hcl hsl fun cA kA comp f1 f2 f3 f4 => ?_
  obtain ⟨kA', comp', g1, g2, g3, g4⟩ := (C.2.2.2.2.2.2.1.2 2 _ rfl).2
  have hcA : cA = E.2.2.1.2.2 := Option.some.inj (f1.symm.trans g4)
  subst hcA
  rw [hH.2.1]
  refine k1 _ (zH_push hH (by rw [Array.size_push, hH.2.1]) (fun q hq => ?_) ?_)
  · rw [Array.getElem?_push, if_neg (by rw [hH.2.1]; omega)]
  · rw [zce_r (show (zadd S 14 x.toNatClampNeg).2.1 S.1 = 14 by simp [zadd, zup])]
    show (H.push _)[E.2.2.2 + S.1]? = some (vp_cell _ _)
    rw [← hH.2.1, Array.getElem?_push_size, vp_cell_q, arrV_new]
    simp only [zadd, zup, if_true]
    rfl
/-! returns -/
theorem zQ_of {H : Heap} {locs : List Loc} {r : Option Value} {s t : State} {args : Array Value} (hH : zH E S M s.heap H locs) (ht : t.heap = H) : zQ E S M r args s (.returned (r.map (zsh E.2.2.2))) t :=
  ⟨rfl, by rw [ht]; exact hH.1, by rw [ht]; exact hH.2.1, hH.2.2.F ht⟩
theorem z_iret (hr : mi.2.2.2 = some .int) (hd : decode mi.2.1 pc = .ok (.ireturn, 1)) (h : Φ (some (.int x)) S M) : zW E mi d S M pc ls [.int x] Φ :=
  ⟨S, M, _, h, Nat.le_refl _, Nat.le_refl _, fun p e R s m args below meth c n0 s0 C a1 a2 a3 a4 a5 H locs L hH hL => W.iret C.1 C.2.1 (C.2.2.1.trans hr) (fun t ht hW => zQ_of (r := some (.int x)) hH ht) hH.2.2.2.2 hd C.2.2.2.2.2.2.2.1⟩
theorem z_zret (hr : mi.2.2.2 = some .boolean) (hd : decode mi.2.1 pc = .ok (.ireturn, 1)) (hx : narrow .boolean (.int x) = .int x) (h : Φ (some (.int x)) S M) : zW E mi d S M pc ls [.int x] Φ :=
  ⟨S, M, _, h, Nat.le_refl _, Nat.le_refl _, fun p e R s m args below meth c n0 s0 C a1 a2 a3 a4 a5 H locs L hH hL => W.zret C.1 C.2.1 (C.2.2.1.trans hr) hx (fun t ht hW => zQ_of (r := some (.int x)) hH ht) hH.2.2.2.2 hd C.2.2.2.2.2.2.2.1⟩
theorem z_lret {v : Int64} (hr : mi.2.2.2 = some .long) (hd : decode mi.2.1 pc = .ok (.lreturn, 1)) (h : Φ (some (.long v)) S M) : zW E mi d S M pc ls [.long v] Φ :=
  ⟨S, M, _, h, Nat.le_refl _, Nat.le_refl _, fun p e R s m args below meth c n0 s0 C a1 a2 a3 a4 a5 H locs L hH hL => W.lret C.1 C.2.1 (C.2.2.1.trans hr) (fun t ht hW => zQ_of (r := some (.long v)) hH ht) hH.2.2.2.2 hd C.2.2.2.2.2.2.2.1⟩
theorem z_aret {n : String} (o : Option Nat) (hr : mi.2.2.2 = some (.object n)) (hd : decode mi.2.1 pc = .ok (.areturn, 1)) (h : Φ (some (va_rf o)) S M) : zW E mi d S M pc ls [va_rf o] Φ :=
  ⟨S, M, _, h, Nat.le_refl _, Nat.le_refl _, fun p e R s m args below meth c n0 s0 C a1 a2 a3 a4 a5 H locs L hH hL => W.aret C.1 C.2.1 (C.2.2.1.trans hr) (Or.inl ⟨n, rfl⟩) (by cases o with | none => exact Or.inl rfl | some q => exact Or.inr ⟨_, rfl⟩) (fun t ht hW => zQ_of (r := some (va_rf o)) hH ht) hH.2.2.2.2 hd C.2.2.2.2.2.2.2.1⟩
theorem z_vret (hr : mi.2.2.2 = none) (hd : decode mi.2.1 pc = .ok (.return_, 1)) (h : Φ none S M) : zW E mi d S M pc ls [] Φ :=
  ⟨S, M, _, h, Nat.le_refl _, Nat.le_refl _, fun p e R s m args below meth c n0 s0 C a1 a2 a3 a4 a5 H locs L hH hL => W.vret C.1 C.2.1 (C.2.2.1.trans hr) (fun t ht hW => zQ_of (r := none) hH ht) hH.2.2.2.2 hd C.2.2.2.2.2.2.2.1⟩
/-! a method's contract out of its walk -/
def zPre (E : ZE) (S : ZS) (M : ZM) (U : State) : Prop := U.heap.size = E.2.2.2 + S.1 ∧ va_P E.2.1 zCl (zws E S M) U.heap ∧ va_K E.2.1 zCl (ztys E) U ∧ ∀ w ∈ ztbl, w.before #[] U = true
def zrm (d : Nat) (S S' : ZS) : Room := { frames := d, cells := S'.1 - S.1, slots := zsl S' - zsl S, locals := 36 * d }
theorem z_met {as : List Value} (hp : plainName mi.1.cls = true) (hlen : (as.flatMap zsl1).length ≤ mi.2.2.1) (k : zW E mi d S M 0 (zent as mi.2.2.1) [] Φ) :
    ∃ (S' : ZS) (M' : ZM) (r : Option Value), Φ r S' M' ∧ S.1 ≤ S'.1 ∧ zsl S ≤ zsl S' ∧ Met E.1 mi.1 [Cond.code mi.1 mi.2.1 mi.2.2.1 mi.2.2.2] (zrm d S S') (va_Pc (as.map (zsh E.2.2.2)) (zPre E S M)) (zQ E S' M' r) (S'.1 - S.1) (zsl S' - zsl S) (fun q => E.2.2.2 ≤ q) := by
  obtain ⟨S', M', r, h1, h2, h3, h4⟩ := k
  refine ⟨S', M', r, h1, h2, h3, ?_⟩
  refine Met.ofW (cc := mi.2.1) (maxL := mi.2.2.1) (ret := mi.2.2.2) hp rfl ?_
  intro p e s m args below meth c s₁ B hml hv
  obtain ⟨rfl, hsz, hP, hK, hws⟩ := hv
  have hown : s.vm.findClass mi.1.cls = some m.cls := findClass_of_methodNamed B.named
  have hC : zC E mi d p (zrm d S S') s m (as.map (zsh E.2.2.2)).toArray meth c :=
    ⟨B.exec, B.bytes, B.returns, hml, hown, zwarm (State.WarmedH.refl s) hws, hK, B.notSynchronized, Nat.le_refl _, Nat.le_refl _, (name_of_methodNamed B.named B.method).1⟩
  have := h4 p e (zrm d S S') s m (as.map (zsh E.2.2.2)).toArray below meth c S.1 (zsl S) hC (Nat.le_refl _) (Nat.le_refl _) (Nat.le_refl _) (Nat.le_refl _) (by omega) s.heap [] _ ⟨hP, hsz, va_S.rf⟩ (zL_entry E.2.2.2 as hlen)
  rw [Nat.sub_self, Nat.sub_self] at this
  rw [lg_entry_eq]
  exact this
theorem zPre_blind {as : List Value} : FrameBlind (va_Pc as (zPre E S M)) := by
  intro a U g mk q
  obtain ⟨q0, q1, qP, qK, qw⟩ := q
  exact ⟨q0, q1, qP, va_K.moved (u := U) (U := U.calling g mk a) (Vm.Alike.refl U.vm) qK, zwarm (s := U) (U := U.calling g mk a) (State.WarmedH.refl U) qw⟩
theorem zPre_at {p : Program} {R : Room} {s U : State} {m : MethodId} {args : Array Value} {meth : Method} {c : Code} {H : Heap} {locs : List Loc} (C : zC E mi d p R s m args meth c) (hH : zH E S M s.heap H locs) (hU : U.heap = H) (hW : s.WarmedH U.vm) : zPre E S M U :=
  ⟨by rw [hU]; exact hH.2.1, by rw [hU]; exact hH.1, va_K.moved hW.alike C.2.2.2.2.2.2.1, zwarm hW C.2.2.2.2.2.1⟩
/-- behind a call -/
theorem zrun_go {p : Program} {e : Env} {R : Room} {s : State} {m : MethodId} {args : Array Value} {below : List Frame} {meth : Method} {c : Code} {H : Heap} {locs : List Loc} {cells slots mc ms : Nat} {Q : State → Prop} {L : Array Slot} {st0 : List Value} {S1 : ZS} {M1 : ZM} {r : Option Value} {av : Array Value}
    (hr : va_Run p E.1 e R s m args below meth c H locs cells slots mc ms (F0 m pc L st0) (st.map (zsh E.2.2.2)) (zQ E S1 M1 r av) (fun q => E.2.2.2 ≤ q)) (hH : zH E S M s.heap H locs)
    (kk : ∀ H' locs', zH E S1 M1 s.heap H' locs' → W p E.1 e R s m args below meth c H' locs' (cells + mc) (slots + ms) Q (F0 m (pc + 3) L ((r.toList ++ st).map (zsh E.2.2.2)))) : W p E.1 e R s m args below meth c H locs cells slots Q (F0 m pc L st0) := by
  intro T hT X
  obtain ⟨v, st₀, t, T', L2, h0, X', hL, e1, e2, ⟨hv, hP, hz, hF⟩, g⟩ := hr T hT X
  have hv := Outcome.returned.inj hv
  subst hv
  have hH' : zH E S1 M1 s.heap T'.heap (locs ++ L2) := by
    refine ⟨by rw [e1]; exact hP, by rw [e1]; exact hz, ?_, fun q h1 h2 => ?_, fun q hq => ?_⟩
    · rw [e1]
      have := hF.1
      rw [h0] at this
      exact Nat.le_trans hH.2.2.1 this
    · rw [e1]
      have h3 := hF.2 q (by rw [h0]; exact Nat.lt_of_lt_of_le h1 hH.2.2.1) h2
      rw [h3, h0]
      exact hH.2.2.2.1 q h1 h2
    · rcases List.mem_append.mp hq with h | h
      · exact hH.2.2.2.2 q h
      · exact hL q h
  obtain ⟨t2, a1, b1⟩ := kk T'.heap (locs ++ L2) hH' T' rfl X'
  refine ⟨t2, g t2 ?_, b1⟩
  have h5 : ((r.toList ++ st).map (zsh E.2.2.2)) = (r.map (zsh E.2.2.2)).toList ++ st.map (zsh E.2.2.2) := by cases r <;> simp
  rw [h5] at a1
  exact a1
/-- what every callee's words give -/
def zMI (mi : ZI) (n : Nat) : Prop := Cond.code mi.1 mi.2.1 mi.2.2.1 mi.2.2.2 ∈ ztbl ∧ Cond.initialized mi.1.cls ∈ ztbl ∧ (mi.1.cls ≠ "java/lang/invoke/MethodHandle" ∧ mi.1.cls ≠ "java/lang/invoke/VarHandle") ∧ (parseMethodDescriptor mi.1.desc).map (fun q => q.parameters.length) = some n ∧ mi.2.2.1 ≤ 17 ∧ plainName mi.1.cls = true
def zML (own : String) (index : Nat) (y : MethodName) : Prop := Cond.methodLink own index y ∈ ztbl ∨ ∃ host, Cond.methodLinkNest own index y host ∈ ztbl
theorem zparams {y : MethodName} {n : Nat} (h2 : (parseMethodDescriptor y.desc).map (fun q => q.parameters.length) = some n) : ∀ sig, parseMethodDescriptor y.desc = some sig → n = sig.parameters.length := by
  intro sig h
  rw [h] at h2
  exact (Option.some.inj h2).symm
variable {mj : ZI} {d' : Nat} {as : List Value} {Ψ : Option Value → ZS → ZM → Prop} {st0 : List Value} {index : Nat}
theorem zroom {p : Program} {R : Room} {s : State} {m : MethodId} {args : Array Value} {meth : Method} {c : Code} {nL : Nat} (C : zC E mi d p R s m args meth c) (hdd : d' + 1 ≤ d) (h17 : nL ≤ 17) (S S1 : ZS) : (zrm d' S S1).frames + 1 ≤ R.frames ∧ 8 + (nL + 11) + (zrm d' S S1).locals ≤ R.locals := by
  have h1 := C.2.2.2.2.2.2.2.2.1
  have h2 := C.2.2.2.2.2.2.2.2.2.1
  refine ⟨?_, ?_⟩
  · show d' + 1 ≤ R.frames
    omega
  · show 8 + (nL + 11) + 36 * d' ≤ R.locals
    omega
theorem zcat (B : Nat) (st : List Value) : ((st.map (zsh B)).map fun v => v.category).sum = (st.map fun v => v.category).sum := by
  rw [List.map_map]
  congr 1
  exact List.map_congr_left (fun v _ => zsh_cat B v)
theorem z_call0 {st1 : List Value} (hmi : zMI mj as.length) (hlen : (as.flatMap zsl1).length ≤ mj.2.2.1)
    (run : ∀ {p : Program} {e : Env} {R : Room} {s : State} {m : MethodId} {args : Array Value} {below : List Frame} {meth : Method} {c : Code} {H : Heap} {locs : List Loc} {cells slots : Nat} {L : Array Slot} {S1 : ZS} {M1 : ZM} {r : Option Value}, zC E mi d p R s m args meth c → zH E S M s.heap H locs → zL E.2.2.2 mi.2.2.1 L ls → Met E.1 mj.1 [Cond.code mj.1 mj.2.1 mj.2.2.1 mj.2.2.2] (zrm d' S S1) (va_Pc (st1.map (zsh E.2.2.2)) (zPre E S M)) (zQ E S1 M1 r) (S1.1 - S.1) (zsl S1 - zsl S) (fun q => E.2.2.2 ≤ q) → cells + (S1.1 - S.1) ≤ R.cells ∧ slots + (zsl S1 - zsl S) ≤ R.slots →
      va_Run p E.1 e R s m args below meth c H locs cells slots (S1.1 - S.1) (zsl S1 - zsl S) (F0 m pc L (st0.map (zsh E.2.2.2))) (st.map (zsh E.2.2.2)) (zQ E S1 M1 r (st1.map (zsh E.2.2.2)).toArray) (fun q => E.2.2.2 ≤ q)) (hlen1 : (st1.flatMap zsl1).length ≤ mj.2.2.1)
    (hc : zW E mj d' S M 0 (zent st1 mj.2.2.1) [] Ψ) (kk : ∀ r S1 M1, Ψ r S1 M1 → zW E mi d S1 M1 (pc + 3) ls (r.toList ++ st) Φ) : zW E mi d S M pc ls st0 Φ := by
  obtain ⟨S1, M1, r, hΨ, hn1, hz1, hM⟩ := z_met hmi.2.2.2.2.2 hlen1 hc
  obtain ⟨S', M', r', h1, h2, h3, h4⟩ := kk r S1 M1 hΨ
  refine ⟨S', M', r', h1, Nat.le_trans hn1 h2, Nat.le_trans hz1 h3, fun p e R s m args below meth c n0 s0 C a1 a2 a3 a4 a5 H locs L hH hL => ?_⟩
  refine zrun_go (run C hH hL hM ⟨by omega, by omega⟩) hH (fun H' locs' hH' => ?_)
  have := h4 p e R s m args below meth c n0 s0 C (by omega) (by omega) a3 a4 a5 H' locs' L hH' hL
  rw [show S.1 - n0 + (S1.1 - S.1) = S1.1 - n0 by omega, show zsl S - s0 + (zsl S1 - zsl S) = zsl S1 - s0 by omega]
  exact this
/-- an instance method; the receiver's class is the method's own -/
theorem z_callV {ci : Nat} {C0 : String} {T : u_T} {N : Nat} (hmi : zMI mj as.length) (hcl : zCl[ci]? = some (C0, T, N) ∧ mj.1.cls = C0) (hw1 : Cond.instanceMethod mj.1 ∈ ztbl) (hw2 : Cond.selects mj.1.cls mj.1 mj.1 ∈ ztbl) (hl : zML mi.1.cls index mj.1) (hd : decode mi.2.1 pc = .ok (.invokevirtual index, 3)) (hdd : d' + 1 ≤ d) (ha : zA S a ci)
    (hst : st0 = as.reverse ++ .ref a :: st) (hrm : (st.map fun v => v.category).sum ≤ 8) (hlen1 : ((Value.ref a :: as).flatMap zsl1).length ≤ mj.2.2.1)
    (hc : zW E mj d' S M 0 (zent (.ref a :: as) mj.2.2.1) [] Ψ) (kk : ∀ r S1 M1, Ψ r S1 M1 → zW E mi d S1 M1 (pc + 3) ls (r.toList ++ st) Φ) : zW E mi d S M pc ls st0 Φ := by
  refine z_call0 (st1 := .ref a :: as) hmi (by simp only [List.flatMap_cons, List.length_append] at hlen1; omega) (fun {p e R s m args below meth c H locs cells slots L S1 M1 r} C hH hL hM hf => ?_) hlen1 hc kk
  have hts := C.2.2.2.2.2.1
  obtain ⟨hc1, hc2⟩ := hcl
  obtain ⟨hnf, h12⟩ := zg_nf hc1
  have he : (zws E S M)[a]? = some (E.2.2.2 + a, .inr (ci, (List.range N).map (zpv E.2.2.2 S M a))) := by rw [zws_get E S M ha.1, zce_o ha.2 h12, hnf]
  have hrecv := va_recv C.2.2.2.2.2.2.1 hH.1 hc1 he
  obtain ⟨m1, m2, m3, m4, m5, m6⟩ := hmi
  have hgood : ∀ w ∈ [Cond.code mj.1 mj.2.1 mj.2.2.1 mj.2.2.2], ∀ (a' : Array Value) (U : State), s.WarmedH U.vm → w.before a' U = true := by
    intro w hw a' U hW
    rw [List.mem_singleton.mp hw]
    exact zwarm hW hts _ m1
  have hstk : (F0 m pc L (st0.map (zsh E.2.2.2))).stack = (as.map (zsh E.2.2.2)).reverse ++ .ref (E.2.2.2 + a) :: st.map (zsh E.2.2.2) := by
    show st0.map (zsh E.2.2.2) = _
    rw [hst]
    simp [zsh]
  have hpre : PreV s H mj.1.cls (E.2.2.2 + a) (va_Pc ((Value.ref a :: as).map (zsh E.2.2.2)) (zPre E S M)) (as.map (zsh E.2.2.2)) :=
    ⟨zPre_blind, by rw [hc2]; exact hrecv, fun U hU hW => ⟨rfl, zPre_at C hH hU hW⟩⟩
  have hrm' : 2 * (F0 m pc L (st0.map (zsh E.2.2.2))).monitorRoom + ((st.map (zsh E.2.2.2)).map fun v => v.category).sum ≤ 8 := lv_room (by rw [zcat]; exact hrm)
  have hR := zroom C hdd m5 S S1
  rcases hl with hl | ⟨host, hl⟩
  · exact va_runV (Ts := ztbl) (own := mi.1.cls) (C := mj.1.cls) (b := E.2.2.2 + a) (As := as.map (zsh E.2.2.2)) (n := as.length) ⟨C.1, C.2.1, C.2.2.2.1, C.2.2.2.2.1, hts⟩ hM ⟨⟨rfl, rfl, hR.1, hR.2, hgood, List.mem_singleton.mpr rfl, hts _ m1, hts _ m2, m3, zparams m4, hts _ hl⟩, hts _ hw1, hts _ hw2⟩ hpre rfl (by simp) hL.1 hstk hrm' hd hf
  · exact va_runVN (Ts := ztbl) (own := mi.1.cls) (C := mj.1.cls) (host := host) (b := E.2.2.2 + a) (As := as.map (zsh E.2.2.2)) (n := as.length) ⟨C.1, C.2.1, C.2.2.2.1, C.2.2.2.2.1, hts⟩ hM ⟨⟨⟨rfl, rfl, hR.1, hR.2, hgood, List.mem_singleton.mpr rfl⟩, hts _ m1, hts _ m2, m3, zparams m4, hts _ hl⟩, hts _ hw1, hts _ hw2⟩ hpre rfl (by simp) hL.1 hstk hrm' hd hf
/-- a static method -/
theorem z_callS (hmi : zMI mj as.length) (hw1 : Cond.static mj.1 ∈ ztbl) (hl : zML mi.1.cls index mj.1) (hd : decode mi.2.1 pc = .ok (.invokestatic index, 3)) (hdd : d' + 1 ≤ d)
    (hst : st0 = as.reverse ++ st) (hrm : (st.map fun v => v.category).sum ≤ 8) (hlen1 : (as.flatMap zsl1).length ≤ mj.2.2.1)
    (hc : zW E mj d' S M 0 (zent as mj.2.2.1) [] Ψ) (kk : ∀ r S1 M1, Ψ r S1 M1 → zW E mi d S1 M1 (pc + 3) ls (r.toList ++ st) Φ) : zW E mi d S M pc ls st0 Φ := by
  refine z_call0 (st1 := as) hmi hlen1 (fun {p e R s m args below meth c H locs cells slots L S1 M1 r} C hH hL hM hf => ?_) hlen1 hc kk
  have hts := C.2.2.2.2.2.1
  obtain ⟨m1, m2, m3, m4, m5, m6⟩ := hmi
  have hgood : ∀ w ∈ [Cond.code mj.1 mj.2.1 mj.2.2.1 mj.2.2.2], ∀ (a' : Array Value) (U : State), s.WarmedH U.vm → w.before a' U = true := by
    intro w hw a' U hW
    rw [List.mem_singleton.mp hw]
    exact zwarm hW hts _ m1
  have hstk : (F0 m pc L (st0.map (zsh E.2.2.2))).stack = (as.map (zsh E.2.2.2)).reverse ++ st.map (zsh E.2.2.2) := by
    show st0.map (zsh E.2.2.2) = _
    rw [hst]
    simp
  have hpre : PreS s H (va_Pc (as.map (zsh E.2.2.2)) (zPre E S M)) (as.map (zsh E.2.2.2)) := ⟨zPre_blind, fun U hU hW => ⟨rfl, zPre_at C hH hU hW⟩⟩
  have hrm' : 2 * (F0 m pc L (st0.map (zsh E.2.2.2))).monitorRoom + ((st.map (zsh E.2.2.2)).map fun v => v.category).sum ≤ 8 := lv_room (by rw [zcat]; exact hrm)
  have hR := zroom C hdd m5 S S1
  rcases hl with hl | ⟨host, hl⟩
  · exact va_runS (Ts := ztbl) (own := mi.1.cls) (As := as.map (zsh E.2.2.2)) (n := as.length) ⟨C.1, C.2.1, C.2.2.2.1, C.2.2.2.2.1, hts⟩ hM ⟨⟨rfl, rfl, hR.1, hR.2, hgood, List.mem_singleton.mpr rfl, hts _ m1, hts _ m2, m3, zparams m4, hts _ hl⟩, hts _ hw1⟩ hpre rfl (by simp) hL.1 hstk hrm' hd hf
  · exact va_runSN (Ts := ztbl) (own := mi.1.cls) (host := host) (As := as.map (zsh E.2.2.2)) (n := as.length) ⟨C.1, C.2.1, C.2.2.2.1, C.2.2.2.2.1, hts⟩ hM ⟨⟨⟨rfl, rfl, hR.1, hR.2, hgood, List.mem_singleton.mpr rfl⟩, hts _ m1, hts _ m2, m3, zparams m4, hts _ hl⟩, hts _ hw1, trivial⟩ hpre rfl (by simp) hL.1 hstk hrm' hd hf
/-- a constructor -/
theorem z_callI (hmi : zMI mj as.length) (hret : mj.2.2.2 = none) (hin : mj.1.name = "<init>") (hw1 : Cond.instanceMethod mj.1 ∈ ztbl) (hl : zML mi.1.cls index mj.1) (hd : decode mi.2.1 pc = .ok (.invokespecial index, 3)) (hdd : d' + 1 ≤ d)
    (hst : st0 = as.reverse ++ .ref a :: st) (hrm : (st.map fun v => v.category).sum ≤ 8) (hlen1 : ((Value.ref a :: as).flatMap zsl1).length ≤ mj.2.2.1)
    (hc : zW E mj d' S M 0 (zent (.ref a :: as) mj.2.2.1) [] Ψ) (kk : ∀ r S1 M1, Ψ r S1 M1 → zW E mi d S1 M1 (pc + 3) ls (r.toList ++ st) Φ) : zW E mi d S M pc ls st0 Φ := by
  refine z_call0 (st1 := .ref a :: as) hmi (by simp only [List.flatMap_cons, List.length_append] at hlen1; omega) (fun {p e R s m args below meth c H locs cells slots L S1 M1 r} C hH hL hM hf => ?_) hlen1 hc kk
  have hts := C.2.2.2.2.2.1
  obtain ⟨m1, m2, m3, m4, m5, m6⟩ := hmi
  have hgood : ∀ w ∈ [Cond.code mj.1 mj.2.1 mj.2.2.1 mj.2.2.2], ∀ (a' : Array Value) (U : State), s.WarmedH U.vm → w.before a' U = true := by
    intro w hw a' U hW
    rw [List.mem_singleton.mp hw]
    exact zwarm hW hts _ m1
  have hstk : (F0 m pc L (st0.map (zsh E.2.2.2))).stack = (as.map (zsh E.2.2.2)).reverse ++ .ref (E.2.2.2 + a) :: st.map (zsh E.2.2.2) := by
    show st0.map (zsh E.2.2.2) = _
    rw [hst]
    simp [zsh]
  have hpre : PreS s H (va_Pc ((Value.ref a :: as).map (zsh E.2.2.2)) (zPre E S M)) (.ref (E.2.2.2 + a) :: as.map (zsh E.2.2.2)) :=
    ⟨zPre_blind, fun U hU hW => ⟨rfl, zPre_at C hH hU hW⟩⟩
  have hrm' : 2 * (F0 m pc L (st0.map (zsh E.2.2.2))).monitorRoom + ((st.map (zsh E.2.2.2)).map fun v => v.category).sum ≤ 8 := lv_room (by rw [zcat]; exact hrm)
  have hR := zroom C hdd m5 S S1
  rw [hret] at m1 hM hgood
  rcases hl with hl | ⟨host, hl⟩
  · exact va_runI (Ts := ztbl) (own := mi.1.cls) (b := E.2.2.2 + a) (As := as.map (zsh E.2.2.2)) (n := as.length) ⟨C.1, C.2.1, C.2.2.2.1, C.2.2.2.2.1, hts⟩ hM ⟨⟨rfl, rfl, hR.1, hR.2, hgood, List.mem_singleton.mpr rfl, hts _ m1, hts _ m2, m3, zparams m4, hts _ hl⟩, hin, hts _ hw1⟩ hpre rfl (by simp) hL.1 hstk hrm' hd hf
  · exact va_runIN (Ts := ztbl) (own := mi.1.cls) (host := host) (b := E.2.2.2 + a) (As := as.map (zsh E.2.2.2)) (n := as.length) ⟨C.1, C.2.1, C.2.2.2.1, C.2.2.2.2.1, hts⟩ hM ⟨⟨⟨rfl, rfl, hR.1, hR.2, hgood, List.mem_singleton.mpr rfl⟩, hts _ m1, hts _ m2, m3, zparams m4, hts _ hl⟩, hin, hts _ hw1⟩ hpre rfl (by simp) hL.1 hstk hrm' hd hf
theorem z_objInit (hw1 : Cond.methodLink mi.1.cls index objectInit ∈ ztbl) (hw2 : Cond.instanceMethod objectInit ∈ ztbl) (hw3 : Cond.code objectInit ⟨#[0xb1]⟩ 1 none ∈ ztbl) (hd : decode mi.2.1 pc = .ok (.invokespecial index, 3)) (hd1 : 1 ≤ d) (hrm : (st.map fun v => v.category).sum ≤ 8) (kk : zW E mi d S M (pc + 3) ls st Φ) : zW E mi d S M pc ls (.ref a :: st) Φ :=
  zW_step (fun {p e R s m args below meth c H locs cells slots Q L} C hL k1 => by
    have hts := C.2.2.2.2.2.1
    have h1 := C.2.2.2.2.2.2.2.2.1
    have h2 := C.2.2.2.2.2.2.2.2.2.1
    refine W.objInit C.1 C.2.1 C.2.2.2.2.1 (hts _ hw1) (hts _ hw2) (hts _ hw3) rfl (by rw [C.2.2.2.1]; exact hL.1) rfl hd (by omega) ?_ (k1 L hL)
    show 2 * 0 + ((st.map (zsh E.2.2.2)).map fun v => v.category).sum + 12 ≤ R.locals
    rw [zcat]
    omega) kk
end ZN
end
section
/-! Math.max -/
section ZX
variable {E : ZE} {mi : ZI} {d : Nat} {S : ZS} {M : ZM} {pc : Nat} {ls : List (Option Value)} {st : List Value} {Φ : Option Value → ZS → ZM → Prop} {x y : Int32} {index : Nat}
theorem z_mmax (hw1 : Cond.methodLink mi.1.cls index Lib.Math.max.name ∈ ztbl) (hw2 : Cond.static Lib.Math.max.name ∈ ztbl) (hw3 : Cond.initialized "java/lang/Math" ∈ ztbl) (hw4 : Cond.code Lib.Math.max.name Lib.Math.max.code 2 (some .int) ∈ ztbl) (hd : decode mi.2.1 pc = .ok (.invokestatic index, 3)) (hd1 : 1 ≤ d) (hrm : (st.map fun v => v.category).sum ≤ 8)
    (k : zW E mi d S M (pc + 3) ls (.int (if x < y then y else x) :: st) Φ) : zW E mi d S M pc ls (.int y :: .int x :: st) Φ := by
  obtain ⟨S', M', r, h1, h2, h3, h4⟩ := k
  refine ⟨S', M', r, h1, h2, h3, fun p e R s m args below meth c n0 s0 C a1 a2 a3 a4 a5 H locs L hH hL => ?_⟩
  have hts := C.2.2.2.2.2.1
  have g1 := C.2.2.2.2.2.2.2.2.1
  have g2 := C.2.2.2.2.2.2.2.2.2.1
  refine va_mmax C.1 C.2.1 (C.2.2.2.1.trans hL.1.symm) C.2.2.2.2.1 (hts _ hw1) (hts _ hw2) (hts _ hw3) (hts _ hw4) (by omega) ?_ (by omega) (by omega) hd (h4 p e R s m args below meth c n0 s0 C a1 a2 a3 a4 a5 H locs L hH hL)
  show ((st.map (zsh E.2.2.2)).map fun v => v.category).sum + 13 ≤ R.locals
  rw [zcat]
  omega
end ZX
end
section
/-! the words of the tables, by their places -/
set_option maxRecDepth 20000 in
theorem i_Answer_init : zMI m_Answer_init 2 := ⟨zq 266 (by decide +kernel) rfl, zq 76 (by decide +kernel) rfl, ⟨by decide, by decide⟩, by decide +kernel, by decide, by decide +kernel⟩
set_option maxRecDepth 20000 in
theorem v_Answer_init : Cond.instanceMethod m_Answer_init.1 ∈ ztbl := zq 265 (by decide +kernel) rfl
set_option maxRecDepth 20000 in
theorem i_Answer_trace : zMI m_Answer_trace 0 := ⟨zq 712 (by decide +kernel) rfl, zq 76 (by decide +kernel) rfl, ⟨by decide, by decide⟩, by decide +kernel, by decide, by decide +kernel⟩
set_option maxRecDepth 20000 in
theorem v_Answer_trace : Cond.instanceMethod m_Answer_trace.1 ∈ ztbl := zq 710 (by decide +kernel) rfl
set_option maxRecDepth 20000 in
theorem w_Answer_trace : Cond.selects m_Answer_trace.1.cls m_Answer_trace.1 m_Answer_trace.1 ∈ ztbl := zq 711 (by decide +kernel) rfl
set_option maxRecDepth 20000 in
theorem i_Answer_goBack : zMI m_Answer_goBack 2 := ⟨zq 724 (by decide +kernel) rfl, zq 76 (by decide +kernel) rfl, ⟨by decide, by decide⟩, by decide +kernel, by decide, by decide +kernel⟩
set_option maxRecDepth 20000 in
theorem v_Answer_goBack : Cond.instanceMethod m_Answer_goBack.1 ∈ ztbl := zq 723 (by decide +kernel) rfl
set_option maxRecDepth 20000 in
theorem w_Answer_goBack : Cond.selects m_Answer_goBack.1.cls m_Answer_goBack.1 m_Answer_goBack.1 ∈ ztbl := zq 17 (by decide +kernel) rfl
set_option maxRecDepth 20000 in
theorem i_Book_init : zMI m_Book_init 0 := ⟨zq 112 (by decide +kernel) rfl, zq 71 (by decide +kernel) rfl, ⟨by decide, by decide⟩, by decide +kernel, by decide, by decide +kernel⟩
set_option maxRecDepth 20000 in
theorem v_Book_init : Cond.instanceMethod m_Book_init.1 ∈ ztbl := zq 111 (by decide +kernel) rfl
set_option maxRecDepth 20000 in
theorem i_Book_copy : zMI m_Book_copy 1 := ⟨zq 887 (by decide +kernel) rfl, zq 71 (by decide +kernel) rfl, ⟨by decide, by decide⟩, by decide +kernel, by decide, by decide +kernel⟩
set_option maxRecDepth 20000 in
theorem v_Book_copy : Cond.instanceMethod m_Book_copy.1 ∈ ztbl := zq 885 (by decide +kernel) rfl
set_option maxRecDepth 20000 in
theorem w_Book_copy : Cond.selects m_Book_copy.1.cls m_Book_copy.1 m_Book_copy.1 ∈ ztbl := zq 886 (by decide +kernel) rfl
set_option maxRecDepth 20000 in
theorem i_Book_wordsMeetNeeds : zMI m_Book_wordsMeetNeeds 0 := ⟨zq 810 (by decide +kernel) rfl, zq 71 (by decide +kernel) rfl, ⟨by decide, by decide⟩, by decide +kernel, by decide, by decide +kernel⟩
set_option maxRecDepth 20000 in
theorem v_Book_wordsMeetNeeds : Cond.instanceMethod m_Book_wordsMeetNeeds.1 ∈ ztbl := zq 808 (by decide +kernel) rfl
set_option maxRecDepth 20000 in
theorem w_Book_wordsMeetNeeds : Cond.selects m_Book_wordsMeetNeeds.1.cls m_Book_wordsMeetNeeds.1 m_Book_wordsMeetNeeds.1 ∈ ztbl := zq 809 (by decide +kernel) rfl
set_option maxRecDepth 20000 in
theorem i_Book_mapOf : zMI m_Book_mapOf 1 := ⟨zq 816 (by decide +kernel) rfl, zq 71 (by decide +kernel) rfl, ⟨by decide, by decide⟩, by decide +kernel, by decide, by decide +kernel⟩
set_option maxRecDepth 20000 in
theorem v_Book_mapOf : Cond.instanceMethod m_Book_mapOf.1 ∈ ztbl := zq 815 (by decide +kernel) rfl
set_option maxRecDepth 20000 in
theorem w_Book_mapOf : Cond.selects m_Book_mapOf.1.cls m_Book_mapOf.1 m_Book_mapOf.1 ∈ ztbl := zq 19 (by decide +kernel) rfl
set_option maxRecDepth 20000 in
theorem i_Machine_init : zMI m_Machine_init 0 := ⟨zq 120 (by decide +kernel) rfl, zq 72 (by decide +kernel) rfl, ⟨by decide, by decide⟩, by decide +kernel, by decide, by decide +kernel⟩
set_option maxRecDepth 20000 in
theorem v_Machine_init : Cond.instanceMethod m_Machine_init.1 ∈ ztbl := zq 119 (by decide +kernel) rfl
set_option maxRecDepth 20000 in
theorem i_Machine_after : zMI m_Machine_after 2 := ⟨zq 424 (by decide +kernel) rfl, zq 72 (by decide +kernel) rfl, ⟨by decide, by decide⟩, by decide +kernel, by decide, by decide +kernel⟩
set_option maxRecDepth 20000 in
theorem v_Machine_after : Cond.instanceMethod m_Machine_after.1 ∈ ztbl := zq 422 (by decide +kernel) rfl
set_option maxRecDepth 20000 in
theorem w_Machine_after : Cond.selects m_Machine_after.1.cls m_Machine_after.1 m_Machine_after.1 ∈ ztbl := zq 423 (by decide +kernel) rfl
set_option maxRecDepth 20000 in
theorem i_Machine_turn : zMI m_Machine_turn 3 := ⟨zq 428 (by decide +kernel) rfl, zq 72 (by decide +kernel) rfl, ⟨by decide, by decide⟩, by decide +kernel, by decide, by decide +kernel⟩
set_option maxRecDepth 20000 in
theorem v_Machine_turn : Cond.instanceMethod m_Machine_turn.1 ∈ ztbl := zq 426 (by decide +kernel) rfl
set_option maxRecDepth 20000 in
theorem w_Machine_turn : Cond.selects m_Machine_turn.1.cls m_Machine_turn.1 m_Machine_turn.1 ∈ ztbl := zq 427 (by decide +kernel) rfl
set_option maxRecDepth 20000 in
theorem i_Machine_mapBehind : zMI m_Machine_mapBehind 2 := ⟨zq 471 (by decide +kernel) rfl, zq 72 (by decide +kernel) rfl, ⟨by decide, by decide⟩, by decide +kernel, by decide, by decide +kernel⟩
set_option maxRecDepth 20000 in
theorem v_Machine_mapBehind : Cond.instanceMethod m_Machine_mapBehind.1 ∈ ztbl := zq 469 (by decide +kernel) rfl
set_option maxRecDepth 20000 in
theorem w_Machine_mapBehind : Cond.selects m_Machine_mapBehind.1.cls m_Machine_mapBehind.1 m_Machine_mapBehind.1 ∈ ztbl := zq 470 (by decide +kernel) rfl
set_option maxRecDepth 20000 in
theorem i_Machine_copy : zMI m_Machine_copy 1 := ⟨zq 892 (by decide +kernel) rfl, zq 72 (by decide +kernel) rfl, ⟨by decide, by decide⟩, by decide +kernel, by decide, by decide +kernel⟩
set_option maxRecDepth 20000 in
theorem v_Machine_copy : Cond.instanceMethod m_Machine_copy.1 ∈ ztbl := zq 890 (by decide +kernel) rfl
set_option maxRecDepth 20000 in
theorem w_Machine_copy : Cond.selects m_Machine_copy.1.cls m_Machine_copy.1 m_Machine_copy.1 ∈ ztbl := zq 891 (by decide +kernel) rfl
set_option maxRecDepth 20000 in
theorem i_Need_ofVariable : zMI m_Need_ofVariable 2 := ⟨zq 446 (by decide +kernel) rfl, zq 80 (by decide +kernel) rfl, ⟨by decide, by decide⟩, by decide +kernel, by decide, by decide +kernel⟩
set_option maxRecDepth 20000 in
theorem s_Need_ofVariable : Cond.static m_Need_ofVariable.1 ∈ ztbl := zq 445 (by decide +kernel) rfl
set_option maxRecDepth 20000 in
theorem i_Need_ofState : zMI m_Need_ofState 2 := ⟨zq 449 (by decide +kernel) rfl, zq 80 (by decide +kernel) rfl, ⟨by decide, by decide⟩, by decide +kernel, by decide, by decide +kernel⟩
set_option maxRecDepth 20000 in
theorem s_Need_ofState : Cond.static m_Need_ofState.1 ∈ ztbl := zq 448 (by decide +kernel) rfl
set_option maxRecDepth 20000 in
theorem i_Need_withVariable : zMI m_Need_withVariable 3 := ⟨zq 652 (by decide +kernel) rfl, zq 80 (by decide +kernel) rfl, ⟨by decide, by decide⟩, by decide +kernel, by decide, by decide +kernel⟩
set_option maxRecDepth 20000 in
theorem s_Need_withVariable : Cond.static m_Need_withVariable.1 ∈ ztbl := zq 651 (by decide +kernel) rfl
set_option maxRecDepth 20000 in
theorem i_Need_withState : zMI m_Need_withState 4 := ⟨zq 452 (by decide +kernel) rfl, zq 80 (by decide +kernel) rfl, ⟨by decide, by decide⟩, by decide +kernel, by decide, by decide +kernel⟩
set_option maxRecDepth 20000 in
theorem s_Need_withState : Cond.static m_Need_withState.1 ∈ ztbl := zq 451 (by decide +kernel) rfl
set_option maxRecDepth 20000 in
theorem i_Need_allows : zMI m_Need_allows 2 := ⟨zq 479 (by decide +kernel) rfl, zq 80 (by decide +kernel) rfl, ⟨by decide, by decide⟩, by decide +kernel, by decide, by decide +kernel⟩
set_option maxRecDepth 20000 in
theorem s_Need_allows : Cond.static m_Need_allows.1 ∈ ztbl := zq 478 (by decide +kernel) rfl
set_option maxRecDepth 20000 in
theorem i_Need_narrowed : zMI m_Need_narrowed 3 := ⟨zq 701 (by decide +kernel) rfl, zq 80 (by decide +kernel) rfl, ⟨by decide, by decide⟩, by decide +kernel, by decide, by decide +kernel⟩
set_option maxRecDepth 20000 in
theorem s_Need_narrowed : Cond.static m_Need_narrowed.1 ∈ ztbl := zq 700 (by decide +kernel) rfl
set_option maxRecDepth 20000 in
theorem i_Need_behindLetter : zMI m_Need_behindLetter 3 := ⟨zq 707 (by decide +kernel) rfl, zq 80 (by decide +kernel) rfl, ⟨by decide, by decide⟩, by decide +kernel, by decide, by decide +kernel⟩
set_option maxRecDepth 20000 in
theorem s_Need_behindLetter : Cond.static m_Need_behindLetter.1 ∈ ztbl := zq 706 (by decide +kernel) rfl
set_option maxRecDepth 20000 in
theorem i_Need_stateOfTurn : zMI m_Need_stateOfTurn 2 := ⟨zq 695 (by decide +kernel) rfl, zq 80 (by decide +kernel) rfl, ⟨by decide, by decide⟩, by decide +kernel, by decide, by decide +kernel⟩
set_option maxRecDepth 20000 in
theorem s_Need_stateOfTurn : Cond.static m_Need_stateOfTurn.1 ∈ ztbl := zq 694 (by decide +kernel) rfl
set_option maxRecDepth 20000 in
theorem i_Need_isTurn : zMI m_Need_isTurn 2 := ⟨zq 691 (by decide +kernel) rfl, zq 80 (by decide +kernel) rfl, ⟨by decide, by decide⟩, by decide +kernel, by decide, by decide +kernel⟩
set_option maxRecDepth 20000 in
theorem s_Need_isTurn : Cond.static m_Need_isTurn.1 ∈ ztbl := zq 690 (by decide +kernel) rfl
set_option maxRecDepth 20000 in
theorem i_Need_behindTurn : zMI m_Need_behindTurn 2 := ⟨zq 698 (by decide +kernel) rfl, zq 80 (by decide +kernel) rfl, ⟨by decide, by decide⟩, by decide +kernel, by decide, by decide +kernel⟩
set_option maxRecDepth 20000 in
theorem s_Need_behindTurn : Cond.static m_Need_behindTurn.1 ∈ ztbl := zq 697 (by decide +kernel) rfl
set_option maxRecDepth 20000 in
theorem i_Need_aheadOfTurn : zMI m_Need_aheadOfTurn 3 := ⟨zq 704 (by decide +kernel) rfl, zq 80 (by decide +kernel) rfl, ⟨by decide, by decide⟩, by decide +kernel, by decide, by decide +kernel⟩
set_option maxRecDepth 20000 in
theorem s_Need_aheadOfTurn : Cond.static m_Need_aheadOfTurn.1 ∈ ztbl := zq 703 (by decide +kernel) rfl
set_option maxRecDepth 20000 in
theorem i_Net_init : zMI m_Net_init 2 := ⟨zq 211 (by decide +kernel) rfl, zq 75 (by decide +kernel) rfl, ⟨by decide, by decide⟩, by decide +kernel, by decide, by decide +kernel⟩
set_option maxRecDepth 20000 in
theorem v_Net_init : Cond.instanceMethod m_Net_init.1 ∈ ztbl := zq 210 (by decide +kernel) rfl
set_option maxRecDepth 20000 in
theorem i_Net_at : zMI m_Net_at 1 := ⟨zq 629 (by decide +kernel) rfl, zq 75 (by decide +kernel) rfl, ⟨by decide, by decide⟩, by decide +kernel, by decide, by decide +kernel⟩
set_option maxRecDepth 20000 in
theorem v_Net_at : Cond.instanceMethod m_Net_at.1 ∈ ztbl := zq 627 (by decide +kernel) rfl
set_option maxRecDepth 20000 in
theorem w_Net_at : Cond.selects m_Net_at.1.cls m_Net_at.1 m_Net_at.1 ∈ ztbl := zq 628 (by decide +kernel) rfl
set_option maxRecDepth 20000 in
theorem i_Net_verdict : zMI m_Net_verdict 0 := ⟨zq 736 (by decide +kernel) rfl, zq 75 (by decide +kernel) rfl, ⟨by decide, by decide⟩, by decide +kernel, by decide, by decide +kernel⟩
set_option maxRecDepth 20000 in
theorem v_Net_verdict : Cond.instanceMethod m_Net_verdict.1 ∈ ztbl := zq 734 (by decide +kernel) rfl
set_option maxRecDepth 20000 in
theorem w_Net_verdict : Cond.selects m_Net_verdict.1.cls m_Net_verdict.1 m_Net_verdict.1 ∈ ztbl := zq 735 (by decide +kernel) rfl
set_option maxRecDepth 20000 in
theorem i_Net_begin : zMI m_Net_begin 0 := ⟨zq 523 (by decide +kernel) rfl, zq 75 (by decide +kernel) rfl, ⟨by decide, by decide⟩, by decide +kernel, by decide, by decide +kernel⟩
set_option maxRecDepth 20000 in
theorem v_Net_begin : Cond.instanceMethod m_Net_begin.1 ∈ ztbl := zq 521 (by decide +kernel) rfl
set_option maxRecDepth 20000 in
theorem w_Net_begin : Cond.selects m_Net_begin.1.cls m_Net_begin.1 m_Net_begin.1 ∈ ztbl := zq 522 (by decide +kernel) rfl
set_option maxRecDepth 20000 in
theorem i_Net_unfold : zMI m_Net_unfold 1 := ⟨zq 625 (by decide +kernel) rfl, zq 75 (by decide +kernel) rfl, ⟨by decide, by decide⟩, by decide +kernel, by decide, by decide +kernel⟩
set_option maxRecDepth 20000 in
theorem v_Net_unfold : Cond.instanceMethod m_Net_unfold.1 ∈ ztbl := zq 623 (by decide +kernel) rfl
set_option maxRecDepth 20000 in
theorem w_Net_unfold : Cond.selects m_Net_unfold.1.cls m_Net_unfold.1 m_Net_unfold.1 ∈ ztbl := zq 624 (by decide +kernel) rfl
set_option maxRecDepth 20000 in
theorem i_Net_draftNothing : zMI m_Net_draftNothing 2 := ⟨zq 641 (by decide +kernel) rfl, zq 75 (by decide +kernel) rfl, ⟨by decide, by decide⟩, by decide +kernel, by decide, by decide +kernel⟩
set_option maxRecDepth 20000 in
theorem v_Net_draftNothing : Cond.instanceMethod m_Net_draftNothing.1 ∈ ztbl := zq 640 (by decide +kernel) rfl
set_option maxRecDepth 20000 in
theorem w_Net_draftNothing : Cond.selects m_Net_draftNothing.1.cls m_Net_draftNothing.1 m_Net_draftNothing.1 ∈ ztbl := zq 11 (by decide +kernel) rfl
set_option maxRecDepth 20000 in
theorem i_Net_draftBegins : zMI m_Net_draftBegins 3 := ⟨zq 680 (by decide +kernel) rfl, zq 75 (by decide +kernel) rfl, ⟨by decide, by decide⟩, by decide +kernel, by decide, by decide +kernel⟩
set_option maxRecDepth 20000 in
theorem v_Net_draftBegins : Cond.instanceMethod m_Net_draftBegins.1 ∈ ztbl := zq 679 (by decide +kernel) rfl
set_option maxRecDepth 20000 in
theorem w_Net_draftBegins : Cond.selects m_Net_draftBegins.1.cls m_Net_draftBegins.1 m_Net_draftBegins.1 ∈ ztbl := zq 15 (by decide +kernel) rfl
set_option maxRecDepth 20000 in
theorem i_Net_draftTurns : zMI m_Net_draftTurns 4 := ⟨zq 688 (by decide +kernel) rfl, zq 75 (by decide +kernel) rfl, ⟨by decide, by decide⟩, by decide +kernel, by decide, by decide +kernel⟩
set_option maxRecDepth 20000 in
theorem v_Net_draftTurns : Cond.instanceMethod m_Net_draftTurns.1 ∈ ztbl := zq 687 (by decide +kernel) rfl
set_option maxRecDepth 20000 in
theorem w_Net_draftTurns : Cond.selects m_Net_draftTurns.1.cls m_Net_draftTurns.1 m_Net_draftTurns.1 ∈ ztbl := zq 16 (by decide +kernel) rfl
set_option maxRecDepth 20000 in
theorem i_Net_addDraft : zMI m_Net_addDraft 2 := ⟨zq 656 (by decide +kernel) rfl, zq 75 (by decide +kernel) rfl, ⟨by decide, by decide⟩, by decide +kernel, by decide, by decide +kernel⟩
set_option maxRecDepth 20000 in
theorem v_Net_addDraft : Cond.instanceMethod m_Net_addDraft.1 ∈ ztbl := zq 655 (by decide +kernel) rfl
set_option maxRecDepth 20000 in
theorem w_Net_addDraft : Cond.selects m_Net_addDraft.1.cls m_Net_addDraft.1 m_Net_addDraft.1 ∈ ztbl := zq 12 (by decide +kernel) rfl
set_option maxRecDepth 20000 in
theorem i_Net_makeLean : zMI m_Net_makeLean 0 := ⟨zq 532 (by decide +kernel) rfl, zq 75 (by decide +kernel) rfl, ⟨by decide, by decide⟩, by decide +kernel, by decide, by decide +kernel⟩
set_option maxRecDepth 20000 in
theorem v_Net_makeLean : Cond.instanceMethod m_Net_makeLean.1 ∈ ztbl := zq 531 (by decide +kernel) rfl
set_option maxRecDepth 20000 in
theorem w_Net_makeLean : Cond.selects m_Net_makeLean.1.cls m_Net_makeLean.1 m_Net_makeLean.1 ∈ ztbl := zq 8 (by decide +kernel) rfl
set_option maxRecDepth 20000 in
theorem i_Net_settleDrafts : zMI m_Net_settleDrafts 1 := ⟨zq 661 (by decide +kernel) rfl, zq 75 (by decide +kernel) rfl, ⟨by decide, by decide⟩, by decide +kernel, by decide, by decide +kernel⟩
set_option maxRecDepth 20000 in
theorem v_Net_settleDrafts : Cond.instanceMethod m_Net_settleDrafts.1 ∈ ztbl := zq 660 (by decide +kernel) rfl
set_option maxRecDepth 20000 in
theorem w_Net_settleDrafts : Cond.selects m_Net_settleDrafts.1.cls m_Net_settleDrafts.1 m_Net_settleDrafts.1 ∈ ztbl := zq 13 (by decide +kernel) rfl
set_option maxRecDepth 20000 in
theorem i_Net_bucketOf : zMI m_Net_bucketOf 1 := ⟨zq 620 (by decide +kernel) rfl, zq 75 (by decide +kernel) rfl, ⟨by decide, by decide⟩, by decide +kernel, by decide, by decide +kernel⟩
set_option maxRecDepth 20000 in
theorem v_Net_bucketOf : Cond.instanceMethod m_Net_bucketOf.1 ∈ ztbl := zq 619 (by decide +kernel) rfl
set_option maxRecDepth 20000 in
theorem w_Net_bucketOf : Cond.selects m_Net_bucketOf.1.cls m_Net_bucketOf.1 m_Net_bucketOf.1 ∈ ztbl := zq 10 (by decide +kernel) rfl
set_option maxRecDepth 20000 in
theorem i_Net_metBefore : zMI m_Net_metBefore 1 := ⟨zq 666 (by decide +kernel) rfl, zq 75 (by decide +kernel) rfl, ⟨by decide, by decide⟩, by decide +kernel, by decide, by decide +kernel⟩
set_option maxRecDepth 20000 in
theorem v_Net_metBefore : Cond.instanceMethod m_Net_metBefore.1 ∈ ztbl := zq 665 (by decide +kernel) rfl
set_option maxRecDepth 20000 in
theorem w_Net_metBefore : Cond.selects m_Net_metBefore.1.cls m_Net_metBefore.1 m_Net_metBefore.1 ∈ ztbl := zq 14 (by decide +kernel) rfl
set_option maxRecDepth 20000 in
theorem i_Net_meet : zMI m_Net_meet 1 := ⟨zq 549 (by decide +kernel) rfl, zq 75 (by decide +kernel) rfl, ⟨by decide, by decide⟩, by decide +kernel, by decide, by decide +kernel⟩
set_option maxRecDepth 20000 in
theorem v_Net_meet : Cond.instanceMethod m_Net_meet.1 ∈ ztbl := zq 548 (by decide +kernel) rfl
set_option maxRecDepth 20000 in
theorem w_Net_meet : Cond.selects m_Net_meet.1.cls m_Net_meet.1 m_Net_meet.1 ∈ ztbl := zq 9 (by decide +kernel) rfl
set_option maxRecDepth 20000 in
theorem i_Node_init : zMI m_Node_init 1 := ⟨zq 553 (by decide +kernel) rfl, zq 82 (by decide +kernel) rfl, ⟨by decide, by decide⟩, by decide +kernel, by decide, by decide +kernel⟩
set_option maxRecDepth 20000 in
theorem v_Node_init : Cond.instanceMethod m_Node_init.1 ∈ ztbl := zq 552 (by decide +kernel) rfl
set_option maxRecDepth 20000 in
theorem i_Node_start : zMI m_Node_start 3 := ⟨zq 614 (by decide +kernel) rfl, zq 82 (by decide +kernel) rfl, ⟨by decide, by decide⟩, by decide +kernel, by decide, by decide +kernel⟩
set_option maxRecDepth 20000 in
theorem v_Node_start : Cond.instanceMethod m_Node_start.1 ∈ ztbl := zq 612 (by decide +kernel) rfl
set_option maxRecDepth 20000 in
theorem w_Node_start : Cond.selects m_Node_start.1.cls m_Node_start.1 m_Node_start.1 ∈ ztbl := zq 613 (by decide +kernel) rfl
set_option maxRecDepth 20000 in
theorem i_Node_addMove : zMI m_Node_addMove 2 := ⟨zq 674 (by decide +kernel) rfl, zq 82 (by decide +kernel) rfl, ⟨by decide, by decide⟩, by decide +kernel, by decide, by decide +kernel⟩
set_option maxRecDepth 20000 in
theorem v_Node_addMove : Cond.instanceMethod m_Node_addMove.1 ∈ ztbl := zq 672 (by decide +kernel) rfl
set_option maxRecDepth 20000 in
theorem w_Node_addMove : Cond.selects m_Node_addMove.1.cls m_Node_addMove.1 m_Node_addMove.1 ∈ ztbl := zq 673 (by decide +kernel) rfl
set_option maxRecDepth 20000 in
theorem i_Row_init : zMI m_Row_init 1 := ⟨zq 95 (by decide +kernel) rfl, zq 69 (by decide +kernel) rfl, ⟨by decide, by decide⟩, by decide +kernel, by decide, by decide +kernel⟩
set_option maxRecDepth 20000 in
theorem v_Row_init : Cond.instanceMethod m_Row_init.1 ∈ ztbl := zq 94 (by decide +kernel) rfl
set_option maxRecDepth 20000 in
theorem i_Row_size : zMI m_Row_size 0 := ⟨zq 375 (by decide +kernel) rfl, zq 69 (by decide +kernel) rfl, ⟨by decide, by decide⟩, by decide +kernel, by decide, by decide +kernel⟩
set_option maxRecDepth 20000 in
theorem v_Row_size : Cond.instanceMethod m_Row_size.1 ∈ ztbl := zq 373 (by decide +kernel) rfl
set_option maxRecDepth 20000 in
theorem w_Row_size : Cond.selects m_Row_size.1.cls m_Row_size.1 m_Row_size.1 ∈ ztbl := zq 374 (by decide +kernel) rfl
set_option maxRecDepth 20000 in
theorem i_Row_at : zMI m_Row_at 1 := ⟨zq 395 (by decide +kernel) rfl, zq 69 (by decide +kernel) rfl, ⟨by decide, by decide⟩, by decide +kernel, by decide, by decide +kernel⟩
set_option maxRecDepth 20000 in
theorem v_Row_at : Cond.instanceMethod m_Row_at.1 ∈ ztbl := zq 393 (by decide +kernel) rfl
set_option maxRecDepth 20000 in
theorem w_Row_at : Cond.selects m_Row_at.1.cls m_Row_at.1 m_Row_at.1 ∈ ztbl := zq 394 (by decide +kernel) rfl
set_option maxRecDepth 20000 in
theorem i_Row_makeEmpty : zMI m_Row_makeEmpty 0 := ⟨zq 383 (by decide +kernel) rfl, zq 69 (by decide +kernel) rfl, ⟨by decide, by decide⟩, by decide +kernel, by decide, by decide +kernel⟩
set_option maxRecDepth 20000 in
theorem v_Row_makeEmpty : Cond.instanceMethod m_Row_makeEmpty.1 ∈ ztbl := zq 381 (by decide +kernel) rfl
set_option maxRecDepth 20000 in
theorem w_Row_makeEmpty : Cond.selects m_Row_makeEmpty.1.cls m_Row_makeEmpty.1 m_Row_makeEmpty.1 ∈ ztbl := zq 382 (by decide +kernel) rfl
set_option maxRecDepth 20000 in
theorem i_Row_push : zMI m_Row_push 1 := ⟨zq 371 (by decide +kernel) rfl, zq 69 (by decide +kernel) rfl, ⟨by decide, by decide⟩, by decide +kernel, by decide, by decide +kernel⟩
set_option maxRecDepth 20000 in
theorem v_Row_push : Cond.instanceMethod m_Row_push.1 ∈ ztbl := zq 369 (by decide +kernel) rfl
set_option maxRecDepth 20000 in
theorem w_Row_push : Cond.selects m_Row_push.1.cls m_Row_push.1 m_Row_push.1 ∈ ztbl := zq 370 (by decide +kernel) rfl
set_option maxRecDepth 20000 in
theorem i_Row_pushAhead : zMI m_Row_pushAhead 1 := ⟨zq 488 (by decide +kernel) rfl, zq 69 (by decide +kernel) rfl, ⟨by decide, by decide⟩, by decide +kernel, by decide, by decide +kernel⟩
set_option maxRecDepth 20000 in
theorem v_Row_pushAhead : Cond.instanceMethod m_Row_pushAhead.1 ∈ ztbl := zq 486 (by decide +kernel) rfl
set_option maxRecDepth 20000 in
theorem w_Row_pushAhead : Cond.selects m_Row_pushAhead.1.cls m_Row_pushAhead.1 m_Row_pushAhead.1 ∈ ztbl := zq 487 (by decide +kernel) rfl
set_option maxRecDepth 20000 in
theorem i_Row_putAhead : zMI m_Row_putAhead 1 := ⟨zq 731 (by decide +kernel) rfl, zq 69 (by decide +kernel) rfl, ⟨by decide, by decide⟩, by decide +kernel, by decide, by decide +kernel⟩
set_option maxRecDepth 20000 in
theorem v_Row_putAhead : Cond.instanceMethod m_Row_putAhead.1 ∈ ztbl := zq 729 (by decide +kernel) rfl
set_option maxRecDepth 20000 in
theorem w_Row_putAhead : Cond.selects m_Row_putAhead.1.cls m_Row_putAhead.1 m_Row_putAhead.1 ∈ ztbl := zq 730 (by decide +kernel) rfl
set_option maxRecDepth 20000 in
theorem i_Row_makeRoom : zMI m_Row_makeRoom 1 := ⟨zq 492 (by decide +kernel) rfl, zq 69 (by decide +kernel) rfl, ⟨by decide, by decide⟩, by decide +kernel, by decide, by decide +kernel⟩
set_option maxRecDepth 20000 in
theorem v_Row_makeRoom : Cond.instanceMethod m_Row_makeRoom.1 ∈ ztbl := zq 491 (by decide +kernel) rfl
set_option maxRecDepth 20000 in
theorem w_Row_makeRoom : Cond.selects m_Row_makeRoom.1.cls m_Row_makeRoom.1 m_Row_makeRoom.1 ∈ ztbl := zq 5 (by decide +kernel) rfl
set_option maxRecDepth 20000 in
theorem i_Row_dropFirst : zMI m_Row_dropFirst 1 := ⟨zq 541 (by decide +kernel) rfl, zq 69 (by decide +kernel) rfl, ⟨by decide, by decide⟩, by decide +kernel, by decide, by decide +kernel⟩
set_option maxRecDepth 20000 in
theorem v_Row_dropFirst : Cond.instanceMethod m_Row_dropFirst.1 ∈ ztbl := zq 539 (by decide +kernel) rfl
set_option maxRecDepth 20000 in
theorem w_Row_dropFirst : Cond.selects m_Row_dropFirst.1.cls m_Row_dropFirst.1 m_Row_dropFirst.1 ∈ ztbl := zq 540 (by decide +kernel) rfl
set_option maxRecDepth 20000 in
theorem i_Row_copy : zMI m_Row_copy 1 := ⟨zq 528 (by decide +kernel) rfl, zq 69 (by decide +kernel) rfl, ⟨by decide, by decide⟩, by decide +kernel, by decide, by decide +kernel⟩
set_option maxRecDepth 20000 in
theorem v_Row_copy : Cond.instanceMethod m_Row_copy.1 ∈ ztbl := zq 526 (by decide +kernel) rfl
set_option maxRecDepth 20000 in
theorem w_Row_copy : Cond.selects m_Row_copy.1.cls m_Row_copy.1 m_Row_copy.1 ∈ ztbl := zq 527 (by decide +kernel) rfl
set_option maxRecDepth 20000 in
theorem i_Row_add : zMI m_Row_add 1 := ⟨zq 805 (by decide +kernel) rfl, zq 69 (by decide +kernel) rfl, ⟨by decide, by decide⟩, by decide +kernel, by decide, by decide +kernel⟩
set_option maxRecDepth 20000 in
theorem v_Row_add : Cond.instanceMethod m_Row_add.1 ∈ ztbl := zq 803 (by decide +kernel) rfl
set_option maxRecDepth 20000 in
theorem w_Row_add : Cond.selects m_Row_add.1.cls m_Row_add.1 m_Row_add.1 ∈ ztbl := zq 804 (by decide +kernel) rfl
set_option maxRecDepth 20000 in
theorem i_Row_copyWithout : zMI m_Row_copyWithout 2 := ⟨zq 648 (by decide +kernel) rfl, zq 69 (by decide +kernel) rfl, ⟨by decide, by decide⟩, by decide +kernel, by decide, by decide +kernel⟩
set_option maxRecDepth 20000 in
theorem v_Row_copyWithout : Cond.instanceMethod m_Row_copyWithout.1 ∈ ztbl := zq 646 (by decide +kernel) rfl
set_option maxRecDepth 20000 in
theorem w_Row_copyWithout : Cond.selects m_Row_copyWithout.1.cls m_Row_copyWithout.1 m_Row_copyWithout.1 ∈ ztbl := zq 647 (by decide +kernel) rfl
set_option maxRecDepth 20000 in
theorem i_Row_copyWithAhead : zMI m_Row_copyWithAhead 3 := ⟨zq 684 (by decide +kernel) rfl, zq 69 (by decide +kernel) rfl, ⟨by decide, by decide⟩, by decide +kernel, by decide, by decide +kernel⟩
set_option maxRecDepth 20000 in
theorem v_Row_copyWithAhead : Cond.instanceMethod m_Row_copyWithAhead.1 ∈ ztbl := zq 682 (by decide +kernel) rfl
set_option maxRecDepth 20000 in
theorem w_Row_copyWithAhead : Cond.selects m_Row_copyWithAhead.1.cls m_Row_copyWithAhead.1 m_Row_copyWithAhead.1 ∈ ztbl := zq 683 (by decide +kernel) rfl
set_option maxRecDepth 20000 in
theorem i_Row_sameAs : zMI m_Row_sameAs 1 := ⟨zq 670 (by decide +kernel) rfl, zq 69 (by decide +kernel) rfl, ⟨by decide, by decide⟩, by decide +kernel, by decide, by decide +kernel⟩
set_option maxRecDepth 20000 in
theorem v_Row_sameAs : Cond.instanceMethod m_Row_sameAs.1 ∈ ztbl := zq 668 (by decide +kernel) rfl
set_option maxRecDepth 20000 in
theorem w_Row_sameAs : Cond.selects m_Row_sameAs.1.cls m_Row_sameAs.1 m_Row_sameAs.1 ∈ ztbl := zq 669 (by decide +kernel) rfl
set_option maxRecDepth 20000 in
theorem i_Row_sameAtFront : zMI m_Row_sameAtFront 1 := ⟨zq 536 (by decide +kernel) rfl, zq 69 (by decide +kernel) rfl, ⟨by decide, by decide⟩, by decide +kernel, by decide, by decide +kernel⟩
set_option maxRecDepth 20000 in
theorem v_Row_sameAtFront : Cond.instanceMethod m_Row_sameAtFront.1 ∈ ztbl := zq 534 (by decide +kernel) rfl
set_option maxRecDepth 20000 in
theorem w_Row_sameAtFront : Cond.selects m_Row_sameAtFront.1.cls m_Row_sameAtFront.1 m_Row_sameAtFront.1 ∈ ztbl := zq 535 (by decide +kernel) rfl
set_option maxRecDepth 20000 in
theorem i_Row_mark : zMI m_Row_mark 0 := ⟨zq 545 (by decide +kernel) rfl, zq 69 (by decide +kernel) rfl, ⟨by decide, by decide⟩, by decide +kernel, by decide, by decide +kernel⟩
set_option maxRecDepth 20000 in
theorem v_Row_mark : Cond.instanceMethod m_Row_mark.1 ∈ ztbl := zq 543 (by decide +kernel) rfl
set_option maxRecDepth 20000 in
theorem w_Row_mark : Cond.selects m_Row_mark.1.cls m_Row_mark.1 m_Row_mark.1 ∈ ztbl := zq 544 (by decide +kernel) rfl
set_option maxRecDepth 20000 in
theorem i_Shorts_init : zMI m_Shorts_init 1 := ⟨zq 183 (by decide +kernel) rfl, zq 74 (by decide +kernel) rfl, ⟨by decide, by decide⟩, by decide +kernel, by decide, by decide +kernel⟩
set_option maxRecDepth 20000 in
theorem v_Shorts_init : Cond.instanceMethod m_Shorts_init.1 ∈ ztbl := zq 182 (by decide +kernel) rfl
set_option maxRecDepth 20000 in
theorem i_Shorts_forget : zMI m_Shorts_forget 0 := ⟨zq 436 (by decide +kernel) rfl, zq 74 (by decide +kernel) rfl, ⟨by decide, by decide⟩, by decide +kernel, by decide, by decide +kernel⟩
set_option maxRecDepth 20000 in
theorem v_Shorts_forget : Cond.instanceMethod m_Shorts_forget.1 ∈ ztbl := zq 434 (by decide +kernel) rfl
set_option maxRecDepth 20000 in
theorem w_Shorts_forget : Cond.selects m_Shorts_forget.1.cls m_Shorts_forget.1 m_Shorts_forget.1 ∈ ztbl := zq 435 (by decide +kernel) rfl
set_option maxRecDepth 20000 in
theorem i_Shorts_refresh : zMI m_Shorts_refresh 0 := ⟨zq 460 (by decide +kernel) rfl, zq 74 (by decide +kernel) rfl, ⟨by decide, by decide⟩, by decide +kernel, by decide, by decide +kernel⟩
set_option maxRecDepth 20000 in
theorem v_Shorts_refresh : Cond.instanceMethod m_Shorts_refresh.1 ∈ ztbl := zq 458 (by decide +kernel) rfl
set_option maxRecDepth 20000 in
theorem w_Shorts_refresh : Cond.selects m_Shorts_refresh.1.cls m_Shorts_refresh.1 m_Shorts_refresh.1 ∈ ztbl := zq 459 (by decide +kernel) rfl
set_option maxRecDepth 20000 in
theorem i_Shorts_meet : zMI m_Shorts_meet 3 := ⟨zq 467 (by decide +kernel) rfl, zq 74 (by decide +kernel) rfl, ⟨by decide, by decide⟩, by decide +kernel, by decide, by decide +kernel⟩
set_option maxRecDepth 20000 in
theorem v_Shorts_meet : Cond.instanceMethod m_Shorts_meet.1 ∈ ztbl := zq 466 (by decide +kernel) rfl
set_option maxRecDepth 20000 in
theorem w_Shorts_meet : Cond.selects m_Shorts_meet.1.cls m_Shorts_meet.1 m_Shorts_meet.1 ∈ ztbl := zq 4 (by decide +kernel) rfl
set_option maxRecDepth 20000 in
theorem i_Shorts_firstFit : zMI m_Shorts_firstFit 1 := ⟨zq 476 (by decide +kernel) rfl, zq 74 (by decide +kernel) rfl, ⟨by decide, by decide⟩, by decide +kernel, by decide, by decide +kernel⟩
set_option maxRecDepth 20000 in
theorem v_Shorts_firstFit : Cond.instanceMethod m_Shorts_firstFit.1 ∈ ztbl := zq 474 (by decide +kernel) rfl
set_option maxRecDepth 20000 in
theorem w_Shorts_firstFit : Cond.selects m_Shorts_firstFit.1.cls m_Shorts_firstFit.1 m_Shorts_firstFit.1 ∈ ztbl := zq 475 (by decide +kernel) rfl
set_option maxRecDepth 20000 in
theorem i_Shorts_anyHopeless : zMI m_Shorts_anyHopeless 1 := ⟨zq 635 (by decide +kernel) rfl, zq 74 (by decide +kernel) rfl, ⟨by decide, by decide⟩, by decide +kernel, by decide, by decide +kernel⟩
set_option maxRecDepth 20000 in
theorem v_Shorts_anyHopeless : Cond.instanceMethod m_Shorts_anyHopeless.1 ∈ ztbl := zq 633 (by decide +kernel) rfl
set_option maxRecDepth 20000 in
theorem w_Shorts_anyHopeless : Cond.selects m_Shorts_anyHopeless.1.cls m_Shorts_anyHopeless.1 m_Shorts_anyHopeless.1 ∈ ztbl := zq 634 (by decide +kernel) rfl
set_option maxRecDepth 20000 in
theorem i_Shorts_write : zMI m_Shorts_write 2 := ⟨zq 483 (by decide +kernel) rfl, zq 74 (by decide +kernel) rfl, ⟨by decide, by decide⟩, by decide +kernel, by decide, by decide +kernel⟩
set_option maxRecDepth 20000 in
theorem v_Shorts_write : Cond.instanceMethod m_Shorts_write.1 ∈ ztbl := zq 481 (by decide +kernel) rfl
set_option maxRecDepth 20000 in
theorem w_Shorts_write : Cond.selects m_Shorts_write.1.cls m_Shorts_write.1 m_Shorts_write.1 ∈ ztbl := zq 482 (by decide +kernel) rfl
set_option maxRecDepth 20000 in
theorem i_Tally_init : zMI m_Tally_init 0 := ⟨zq 312 (by decide +kernel) rfl, zq 78 (by decide +kernel) rfl, ⟨by decide, by decide⟩, by decide +kernel, by decide, by decide +kernel⟩
set_option maxRecDepth 20000 in
theorem v_Tally_init : Cond.instanceMethod m_Tally_init.1 ∈ ztbl := zq 311 (by decide +kernel) rfl
set_option maxRecDepth 20000 in
theorem i_Tally_count : zMI m_Tally_count 1 := ⟨zq 503 (by decide +kernel) rfl, zq 78 (by decide +kernel) rfl, ⟨by decide, by decide⟩, by decide +kernel, by decide, by decide +kernel⟩
set_option maxRecDepth 20000 in
theorem v_Tally_count : Cond.instanceMethod m_Tally_count.1 ∈ ztbl := zq 501 (by decide +kernel) rfl
set_option maxRecDepth 20000 in
theorem w_Tally_count : Cond.selects m_Tally_count.1.cls m_Tally_count.1 m_Tally_count.1 ∈ ztbl := zq 502 (by decide +kernel) rfl
set_option maxRecDepth 20000 in
theorem i_Tally_countRow : zMI m_Tally_countRow 2 := ⟨zq 508 (by decide +kernel) rfl, zq 78 (by decide +kernel) rfl, ⟨by decide, by decide⟩, by decide +kernel, by decide, by decide +kernel⟩
set_option maxRecDepth 20000 in
theorem v_Tally_countRow : Cond.instanceMethod m_Tally_countRow.1 ∈ ztbl := zq 507 (by decide +kernel) rfl
set_option maxRecDepth 20000 in
theorem w_Tally_countRow : Cond.selects m_Tally_countRow.1.cls m_Tally_countRow.1 m_Tally_countRow.1 ∈ ztbl := zq 6 (by decide +kernel) rfl
set_option maxRecDepth 20000 in
theorem i_Tally_mostOfAVariable : zMI m_Tally_mostOfAVariable 0 := ⟨zq 514 (by decide +kernel) rfl, zq 78 (by decide +kernel) rfl, ⟨by decide, by decide⟩, by decide +kernel, by decide, by decide +kernel⟩
set_option maxRecDepth 20000 in
theorem v_Tally_mostOfAVariable : Cond.instanceMethod m_Tally_mostOfAVariable.1 ∈ ztbl := zq 512 (by decide +kernel) rfl
set_option maxRecDepth 20000 in
theorem w_Tally_mostOfAVariable : Cond.selects m_Tally_mostOfAVariable.1.cls m_Tally_mostOfAVariable.1 m_Tally_mostOfAVariable.1 ∈ ztbl := zq 513 (by decide +kernel) rfl
set_option maxRecDepth 20000 in
theorem i_Tally_wordsGive : zMI m_Tally_wordsGive 3 := ⟨zq 832 (by decide +kernel) rfl, zq 78 (by decide +kernel) rfl, ⟨by decide, by decide⟩, by decide +kernel, by decide, by decide +kernel⟩
set_option maxRecDepth 20000 in
theorem v_Tally_wordsGive : Cond.instanceMethod m_Tally_wordsGive.1 ∈ ztbl := zq 830 (by decide +kernel) rfl
set_option maxRecDepth 20000 in
theorem w_Tally_wordsGive : Cond.selects m_Tally_wordsGive.1.cls m_Tally_wordsGive.1 m_Tally_wordsGive.1 ∈ ztbl := zq 831 (by decide +kernel) rfl
set_option maxRecDepth 20000 in
theorem i_Tally_lacking : zMI m_Tally_lacking 1 := ⟨zq 828 (by decide +kernel) rfl, zq 78 (by decide +kernel) rfl, ⟨by decide, by decide⟩, by decide +kernel, by decide, by decide +kernel⟩
set_option maxRecDepth 20000 in
theorem v_Tally_lacking : Cond.instanceMethod m_Tally_lacking.1 ∈ ztbl := zq 826 (by decide +kernel) rfl
set_option maxRecDepth 20000 in
theorem w_Tally_lacking : Cond.selects m_Tally_lacking.1.cls m_Tally_lacking.1 m_Tally_lacking.1 ∈ ztbl := zq 827 (by decide +kernel) rfl
set_option maxRecDepth 20000 in
theorem i_Trial_init : zMI m_Trial_init 0 := ⟨zq 289 (by decide +kernel) rfl, zq 77 (by decide +kernel) rfl, ⟨by decide, by decide⟩, by decide +kernel, by decide, by decide +kernel⟩
set_option maxRecDepth 20000 in
theorem v_Trial_init : Cond.instanceMethod m_Trial_init.1 ∈ ztbl := zq 288 (by decide +kernel) rfl
set_option maxRecDepth 20000 in
theorem i_Trial_seek : zMI m_Trial_seek 2 := ⟨zq 840 (by decide +kernel) rfl, zq 77 (by decide +kernel) rfl, ⟨by decide, by decide⟩, by decide +kernel, by decide, by decide +kernel⟩
set_option maxRecDepth 20000 in
theorem v_Trial_seek : Cond.instanceMethod m_Trial_seek.1 ∈ ztbl := zq 838 (by decide +kernel) rfl
set_option maxRecDepth 20000 in
theorem w_Trial_seek : Cond.selects m_Trial_seek.1.cls m_Trial_seek.1 m_Trial_seek.1 ∈ ztbl := zq 839 (by decide +kernel) rfl
set_option maxRecDepth 20000 in
theorem i_Trial_seekOfSize : zMI m_Trial_seekOfSize 3 := ⟨zq 855 (by decide +kernel) rfl, zq 77 (by decide +kernel) rfl, ⟨by decide, by decide⟩, by decide +kernel, by decide, by decide +kernel⟩
set_option maxRecDepth 20000 in
theorem v_Trial_seekOfSize : Cond.instanceMethod m_Trial_seekOfSize.1 ∈ ztbl := zq 854 (by decide +kernel) rfl
set_option maxRecDepth 20000 in
theorem w_Trial_seekOfSize : Cond.selects m_Trial_seekOfSize.1.cls m_Trial_seekOfSize.1 m_Trial_seekOfSize.1 ∈ ztbl := zq 22 (by decide +kernel) rfl
set_option maxRecDepth 20000 in
theorem i_Trial_seekLast : zMI m_Trial_seekLast 2 := ⟨zq 869 (by decide +kernel) rfl, zq 77 (by decide +kernel) rfl, ⟨by decide, by decide⟩, by decide +kernel, by decide, by decide +kernel⟩
set_option maxRecDepth 20000 in
theorem v_Trial_seekLast : Cond.instanceMethod m_Trial_seekLast.1 ∈ ztbl := zq 868 (by decide +kernel) rfl
set_option maxRecDepth 20000 in
theorem w_Trial_seekLast : Cond.selects m_Trial_seekLast.1.cls m_Trial_seekLast.1 m_Trial_seekLast.1 ∈ ztbl := zq 24 (by decide +kernel) rfl
set_option maxRecDepth 20000 in
theorem i_Trial_choose : zMI m_Trial_choose 2 := ⟨zq 859 (by decide +kernel) rfl, zq 77 (by decide +kernel) rfl, ⟨by decide, by decide⟩, by decide +kernel, by decide, by decide +kernel⟩
set_option maxRecDepth 20000 in
theorem v_Trial_choose : Cond.instanceMethod m_Trial_choose.1 ∈ ztbl := zq 858 (by decide +kernel) rfl
set_option maxRecDepth 20000 in
theorem w_Trial_choose : Cond.selects m_Trial_choose.1.cls m_Trial_choose.1 m_Trial_choose.1 ∈ ztbl := zq 23 (by decide +kernel) rfl
set_option maxRecDepth 20000 in
theorem i_Trial_spelled : zMI m_Trial_spelled 1 := ⟨zq 873 (by decide +kernel) rfl, zq 77 (by decide +kernel) rfl, ⟨by decide, by decide⟩, by decide +kernel, by decide, by decide +kernel⟩
set_option maxRecDepth 20000 in
theorem v_Trial_spelled : Cond.instanceMethod m_Trial_spelled.1 ∈ ztbl := zq 872 (by decide +kernel) rfl
set_option maxRecDepth 20000 in
theorem w_Trial_spelled : Cond.selects m_Trial_spelled.1.cls m_Trial_spelled.1 m_Trial_spelled.1 ∈ ztbl := zq 25 (by decide +kernel) rfl
set_option maxRecDepth 20000 in
theorem i_Trial_sizeOf : zMI m_Trial_sizeOf 1 := ⟨zq 863 (by decide +kernel) rfl, zq 77 (by decide +kernel) rfl, ⟨by decide, by decide⟩, by decide +kernel, by decide, by decide +kernel⟩
set_option maxRecDepth 20000 in
theorem s_Trial_sizeOf : Cond.static m_Trial_sizeOf.1 ∈ ztbl := zq 862 (by decide +kernel) rfl
set_option maxRecDepth 20000 in
theorem i_Trial_findMaps : zMI m_Trial_findMaps 1 := ⟨zq 844 (by decide +kernel) rfl, zq 77 (by decide +kernel) rfl, ⟨by decide, by decide⟩, by decide +kernel, by decide, by decide +kernel⟩
set_option maxRecDepth 20000 in
theorem v_Trial_findMaps : Cond.instanceMethod m_Trial_findMaps.1 ∈ ztbl := zq 843 (by decide +kernel) rfl
set_option maxRecDepth 20000 in
theorem w_Trial_findMaps : Cond.selects m_Trial_findMaps.1.cls m_Trial_findMaps.1 m_Trial_findMaps.1 ∈ ztbl := zq 20 (by decide +kernel) rfl
set_option maxRecDepth 20000 in
theorem i_Trial_allowedWords : zMI m_Trial_allowedWords 1 := ⟨zq 850 (by decide +kernel) rfl, zq 77 (by decide +kernel) rfl, ⟨by decide, by decide⟩, by decide +kernel, by decide, by decide +kernel⟩
set_option maxRecDepth 20000 in
theorem v_Trial_allowedWords : Cond.instanceMethod m_Trial_allowedWords.1 ∈ ztbl := zq 849 (by decide +kernel) rfl
set_option maxRecDepth 20000 in
theorem w_Trial_allowedWords : Cond.selects m_Trial_allowedWords.1.cls m_Trial_allowedWords.1 m_Trial_allowedWords.1 ∈ ztbl := zq 21 (by decide +kernel) rfl
set_option maxRecDepth 20000 in
theorem i_Trial_codeOf : zMI m_Trial_codeOf 1 := ⟨zq 879 (by decide +kernel) rfl, zq 77 (by decide +kernel) rfl, ⟨by decide, by decide⟩, by decide +kernel, by decide, by decide +kernel⟩
set_option maxRecDepth 20000 in
theorem v_Trial_codeOf : Cond.instanceMethod m_Trial_codeOf.1 ∈ ztbl := zq 877 (by decide +kernel) rfl
set_option maxRecDepth 20000 in
theorem w_Trial_codeOf : Cond.selects m_Trial_codeOf.1.cls m_Trial_codeOf.1 m_Trial_codeOf.1 ∈ ztbl := zq 878 (by decide +kernel) rfl
set_option maxRecDepth 20000 in
theorem i_Words_init : zMI m_Words_init 1 := ⟨zq 130 (by decide +kernel) rfl, zq 73 (by decide +kernel) rfl, ⟨by decide, by decide⟩, by decide +kernel, by decide, by decide +kernel⟩
set_option maxRecDepth 20000 in
theorem v_Words_init : Cond.instanceMethod m_Words_init.1 ∈ ztbl := zq 129 (by decide +kernel) rfl
set_option maxRecDepth 20000 in
theorem i_Words_of : zMI m_Words_of 1 := ⟨zq 719 (by decide +kernel) rfl, zq 73 (by decide +kernel) rfl, ⟨by decide, by decide⟩, by decide +kernel, by decide, by decide +kernel⟩
set_option maxRecDepth 20000 in
theorem v_Words_of : Cond.instanceMethod m_Words_of.1 ∈ ztbl := zq 717 (by decide +kernel) rfl
set_option maxRecDepth 20000 in
theorem w_Words_of : Cond.selects m_Words_of.1.cls m_Words_of.1 m_Words_of.1 ∈ ztbl := zq 718 (by decide +kernel) rfl
set_option maxRecDepth 20000 in
theorem i_Words_copy : zMI m_Words_copy 1 := ⟨zq 780 (by decide +kernel) rfl, zq 73 (by decide +kernel) rfl, ⟨by decide, by decide⟩, by decide +kernel, by decide, by decide +kernel⟩
set_option maxRecDepth 20000 in
theorem v_Words_copy : Cond.instanceMethod m_Words_copy.1 ∈ ztbl := zq 778 (by decide +kernel) rfl
set_option maxRecDepth 20000 in
theorem w_Words_copy : Cond.selects m_Words_copy.1.cls m_Words_copy.1 m_Words_copy.1 ∈ ztbl := zq 779 (by decide +kernel) rfl
set_option maxRecDepth 20000 in
theorem i_Words_together : zMI m_Words_together 0 := ⟨zq 785 (by decide +kernel) rfl, zq 73 (by decide +kernel) rfl, ⟨by decide, by decide⟩, by decide +kernel, by decide, by decide +kernel⟩
set_option maxRecDepth 20000 in
theorem v_Words_together : Cond.instanceMethod m_Words_together.1 ∈ ztbl := zq 783 (by decide +kernel) rfl
set_option maxRecDepth 20000 in
theorem w_Words_together : Cond.selects m_Words_together.1.cls m_Words_together.1 m_Words_together.1 ∈ ztbl := zq 784 (by decide +kernel) rfl
set_option maxRecDepth 20000 in
theorem i_Words_longest : zMI m_Words_longest 0 := ⟨zq 774 (by decide +kernel) rfl, zq 73 (by decide +kernel) rfl, ⟨by decide, by decide⟩, by decide +kernel, by decide, by decide +kernel⟩
set_option maxRecDepth 20000 in
theorem v_Words_longest : Cond.instanceMethod m_Words_longest.1 ∈ ztbl := zq 772 (by decide +kernel) rfl
set_option maxRecDepth 20000 in
theorem w_Words_longest : Cond.selects m_Words_longest.1.cls m_Words_longest.1 m_Words_longest.1 ∈ ztbl := zq 773 (by decide +kernel) rfl
set_option maxRecDepth 20000 in
theorem i_Words_spellOut : zMI m_Words_spellOut 2 := ⟨zq 797 (by decide +kernel) rfl, zq 73 (by decide +kernel) rfl, ⟨by decide, by decide⟩, by decide +kernel, by decide, by decide +kernel⟩
set_option maxRecDepth 20000 in
theorem v_Words_spellOut : Cond.instanceMethod m_Words_spellOut.1 ∈ ztbl := zq 795 (by decide +kernel) rfl
set_option maxRecDepth 20000 in
theorem w_Words_spellOut : Cond.selects m_Words_spellOut.1.cls m_Words_spellOut.1 m_Words_spellOut.1 ∈ ztbl := zq 796 (by decide +kernel) rfl
set_option maxRecDepth 20000 in
theorem i_H_init : zMI m_H_init 0 := ⟨zq 87 (by decide +kernel) rfl, zq 68 (by decide +kernel) rfl, ⟨by decide, by decide⟩, by decide +kernel, by decide, by decide +kernel⟩
set_option maxRecDepth 20000 in
theorem v_H_init : Cond.instanceMethod m_H_init.1 ∈ ztbl := zq 86 (by decide +kernel) rfl
set_option maxRecDepth 20000 in
theorem i_H_say : zMI m_H_say 1 := ⟨zq 367 (by decide +kernel) rfl, zq 68 (by decide +kernel) rfl, ⟨by decide, by decide⟩, by decide +kernel, by decide, by decide +kernel⟩
set_option maxRecDepth 20000 in
theorem v_H_say : Cond.instanceMethod m_H_say.1 ∈ ztbl := zq 365 (by decide +kernel) rfl
set_option maxRecDepth 20000 in
theorem w_H_say : Cond.selects m_H_say.1.cls m_H_say.1 m_H_say.1 ∈ ztbl := zq 366 (by decide +kernel) rfl
set_option maxRecDepth 20000 in
theorem i_H_wipe : zMI m_H_wipe 0 := ⟨zq 379 (by decide +kernel) rfl, zq 68 (by decide +kernel) rfl, ⟨by decide, by decide⟩, by decide +kernel, by decide, by decide +kernel⟩
set_option maxRecDepth 20000 in
theorem v_H_wipe : Cond.instanceMethod m_H_wipe.1 ∈ ztbl := zq 377 (by decide +kernel) rfl
set_option maxRecDepth 20000 in
theorem w_H_wipe : Cond.selects m_H_wipe.1.cls m_H_wipe.1 m_H_wipe.1 ∈ ztbl := zq 378 (by decide +kernel) rfl
set_option maxRecDepth 20000 in
theorem i_H_fault : zMI m_H_fault 0 := ⟨zq 387 (by decide +kernel) rfl, zq 68 (by decide +kernel) rfl, ⟨by decide, by decide⟩, by decide +kernel, by decide, by decide +kernel⟩
set_option maxRecDepth 20000 in
theorem v_H_fault : Cond.instanceMethod m_H_fault.1 ∈ ztbl := zq 385 (by decide +kernel) rfl
set_option maxRecDepth 20000 in
theorem w_H_fault : Cond.selects m_H_fault.1.cls m_H_fault.1 m_H_fault.1 ∈ ztbl := zq 386 (by decide +kernel) rfl
set_option maxRecDepth 20000 in
theorem i_H_load : zMI m_H_load 0 := ⟨zq 402 (by decide +kernel) rfl, zq 68 (by decide +kernel) rfl, ⟨by decide, by decide⟩, by decide +kernel, by decide, by decide +kernel⟩
set_option maxRecDepth 20000 in
theorem v_H_load : Cond.instanceMethod m_H_load.1 ∈ ztbl := zq 400 (by decide +kernel) rfl
set_option maxRecDepth 20000 in
theorem w_H_load : Cond.selects m_H_load.1.cls m_H_load.1 m_H_load.1 ∈ ztbl := zq 401 (by decide +kernel) rfl
set_option maxRecDepth 20000 in
theorem i_H_leads : zMI m_H_leads 3 := ⟨zq 414 (by decide +kernel) rfl, zq 68 (by decide +kernel) rfl, ⟨by decide, by decide⟩, by decide +kernel, by decide, by decide +kernel⟩
set_option maxRecDepth 20000 in
theorem v_H_leads : Cond.instanceMethod m_H_leads.1 ∈ ztbl := zq 412 (by decide +kernel) rfl
set_option maxRecDepth 20000 in
theorem w_H_leads : Cond.selects m_H_leads.1.cls m_H_leads.1 m_H_leads.1 ∈ ztbl := zq 413 (by decide +kernel) rfl
set_option maxRecDepth 20000 in
theorem i_H_need : zMI m_H_need 3 := ⟨zq 440 (by decide +kernel) rfl, zq 68 (by decide +kernel) rfl, ⟨by decide, by decide⟩, by decide +kernel, by decide, by decide +kernel⟩
set_option maxRecDepth 20000 in
theorem v_H_need : Cond.instanceMethod m_H_need.1 ∈ ztbl := zq 438 (by decide +kernel) rfl
set_option maxRecDepth 20000 in
theorem w_H_need : Cond.selects m_H_need.1.cls m_H_need.1 m_H_need.1 ∈ ztbl := zq 439 (by decide +kernel) rfl
set_option maxRecDepth 20000 in
theorem i_H_brief : zMI m_H_brief 2 := ⟨zq 456 (by decide +kernel) rfl, zq 68 (by decide +kernel) rfl, ⟨by decide, by decide⟩, by decide +kernel, by decide, by decide +kernel⟩
set_option maxRecDepth 20000 in
theorem v_H_brief : Cond.instanceMethod m_H_brief.1 ∈ ztbl := zq 454 (by decide +kernel) rfl
set_option maxRecDepth 20000 in
theorem w_H_brief : Cond.selects m_H_brief.1.cls m_H_brief.1 m_H_brief.1 ∈ ztbl := zq 455 (by decide +kernel) rfl
set_option maxRecDepth 20000 in
theorem i_H_net : zMI m_H_net 1 := ⟨zq 499 (by decide +kernel) rfl, zq 68 (by decide +kernel) rfl, ⟨by decide, by decide⟩, by decide +kernel, by decide, by decide +kernel⟩
set_option maxRecDepth 20000 in
theorem v_H_net : Cond.instanceMethod m_H_net.1 ∈ ztbl := zq 497 (by decide +kernel) rfl
set_option maxRecDepth 20000 in
theorem w_H_net : Cond.selects m_H_net.1.cls m_H_net.1 m_H_net.1 ∈ ztbl := zq 498 (by decide +kernel) rfl
set_option maxRecDepth 20000 in
theorem i_H_node : zMI m_H_node 2 := ⟨zq 740 (by decide +kernel) rfl, zq 68 (by decide +kernel) rfl, ⟨by decide, by decide⟩, by decide +kernel, by decide, by decide +kernel⟩
set_option maxRecDepth 20000 in
theorem v_H_node : Cond.instanceMethod m_H_node.1 ∈ ztbl := zq 738 (by decide +kernel) rfl
set_option maxRecDepth 20000 in
theorem w_H_node : Cond.selects m_H_node.1.cls m_H_node.1 m_H_node.1 ∈ ztbl := zq 739 (by decide +kernel) rfl
set_option maxRecDepth 20000 in
theorem i_H_symbol : zMI m_H_symbol 3 := ⟨zq 745 (by decide +kernel) rfl, zq 68 (by decide +kernel) rfl, ⟨by decide, by decide⟩, by decide +kernel, by decide, by decide +kernel⟩
set_option maxRecDepth 20000 in
theorem v_H_symbol : Cond.instanceMethod m_H_symbol.1 ∈ ztbl := zq 743 (by decide +kernel) rfl
set_option maxRecDepth 20000 in
theorem w_H_symbol : Cond.selects m_H_symbol.1.cls m_H_symbol.1 m_H_symbol.1 ∈ ztbl := zq 744 (by decide +kernel) rfl
set_option maxRecDepth 20000 in
theorem i_H_needs : zMI m_H_needs 3 := ⟨zq 749 (by decide +kernel) rfl, zq 68 (by decide +kernel) rfl, ⟨by decide, by decide⟩, by decide +kernel, by decide, by decide +kernel⟩
set_option maxRecDepth 20000 in
theorem v_H_needs : Cond.instanceMethod m_H_needs.1 ∈ ztbl := zq 747 (by decide +kernel) rfl
set_option maxRecDepth 20000 in
theorem w_H_needs : Cond.selects m_H_needs.1.cls m_H_needs.1 m_H_needs.1 ∈ ztbl := zq 748 (by decide +kernel) rfl
set_option maxRecDepth 20000 in
theorem i_H_move : zMI m_H_move 3 := ⟨zq 753 (by decide +kernel) rfl, zq 68 (by decide +kernel) rfl, ⟨by decide, by decide⟩, by decide +kernel, by decide, by decide +kernel⟩
set_option maxRecDepth 20000 in
theorem v_H_move : Cond.instanceMethod m_H_move.1 ∈ ztbl := zq 751 (by decide +kernel) rfl
set_option maxRecDepth 20000 in
theorem w_H_move : Cond.selects m_H_move.1.cls m_H_move.1 m_H_move.1 ∈ ztbl := zq 752 (by decide +kernel) rfl
set_option maxRecDepth 20000 in
theorem i_H_answer : zMI m_H_answer 2 := ⟨zq 757 (by decide +kernel) rfl, zq 68 (by decide +kernel) rfl, ⟨by decide, by decide⟩, by decide +kernel, by decide, by decide +kernel⟩
set_option maxRecDepth 20000 in
theorem v_H_answer : Cond.instanceMethod m_H_answer.1 ∈ ztbl := zq 755 (by decide +kernel) rfl
set_option maxRecDepth 20000 in
theorem w_H_answer : Cond.selects m_H_answer.1.cls m_H_answer.1 m_H_answer.1 ∈ ztbl := zq 756 (by decide +kernel) rfl
set_option maxRecDepth 20000 in
theorem i_H_spell : zMI m_H_spell 2 := ⟨zq 762 (by decide +kernel) rfl, zq 68 (by decide +kernel) rfl, ⟨by decide, by decide⟩, by decide +kernel, by decide, by decide +kernel⟩
set_option maxRecDepth 20000 in
theorem v_H_spell : Cond.instanceMethod m_H_spell.1 ∈ ztbl := zq 760 (by decide +kernel) rfl
set_option maxRecDepth 20000 in
theorem w_H_spell : Cond.selects m_H_spell.1.cls m_H_spell.1 m_H_spell.1 ∈ ztbl := zq 761 (by decide +kernel) rfl
set_option maxRecDepth 20000 in
theorem i_H_clear : zMI m_H_clear 1 := ⟨zq 766 (by decide +kernel) rfl, zq 68 (by decide +kernel) rfl, ⟨by decide, by decide⟩, by decide +kernel, by decide, by decide +kernel⟩
set_option maxRecDepth 20000 in
theorem v_H_clear : Cond.instanceMethod m_H_clear.1 ∈ ztbl := zq 764 (by decide +kernel) rfl
set_option maxRecDepth 20000 in
theorem w_H_clear : Cond.selects m_H_clear.1.cls m_H_clear.1 m_H_clear.1 ∈ ztbl := zq 765 (by decide +kernel) rfl
set_option maxRecDepth 20000 in
theorem i_H_take : zMI m_H_take 0 := ⟨zq 770 (by decide +kernel) rfl, zq 68 (by decide +kernel) rfl, ⟨by decide, by decide⟩, by decide +kernel, by decide, by decide +kernel⟩
set_option maxRecDepth 20000 in
theorem v_H_take : Cond.instanceMethod m_H_take.1 ∈ ztbl := zq 768 (by decide +kernel) rfl
set_option maxRecDepth 20000 in
theorem w_H_take : Cond.selects m_H_take.1.cls m_H_take.1 m_H_take.1 ∈ ztbl := zq 769 (by decide +kernel) rfl
set_option maxRecDepth 20000 in
theorem i_H_fits : zMI m_H_fits 0 := ⟨zq 789 (by decide +kernel) rfl, zq 68 (by decide +kernel) rfl, ⟨by decide, by decide⟩, by decide +kernel, by decide, by decide +kernel⟩
set_option maxRecDepth 20000 in
theorem v_H_fits : Cond.instanceMethod m_H_fits.1 ∈ ztbl := zq 787 (by decide +kernel) rfl
set_option maxRecDepth 20000 in
theorem w_H_fits : Cond.selects m_H_fits.1.cls m_H_fits.1 m_H_fits.1 ∈ ztbl := zq 788 (by decide +kernel) rfl
set_option maxRecDepth 20000 in
theorem i_H_lengths : zMI m_H_lengths 2 := ⟨zq 824 (by decide +kernel) rfl, zq 68 (by decide +kernel) rfl, ⟨by decide, by decide⟩, by decide +kernel, by decide, by decide +kernel⟩
set_option maxRecDepth 20000 in
theorem v_H_lengths : Cond.instanceMethod m_H_lengths.1 ∈ ztbl := zq 822 (by decide +kernel) rfl
set_option maxRecDepth 20000 in
theorem w_H_lengths : Cond.selects m_H_lengths.1.cls m_H_lengths.1 m_H_lengths.1 ∈ ztbl := zq 823 (by decide +kernel) rfl
set_option maxRecDepth 20000 in
theorem i_H_shortest : zMI m_H_shortest 1 := ⟨zq 836 (by decide +kernel) rfl, zq 68 (by decide +kernel) rfl, ⟨by decide, by decide⟩, by decide +kernel, by decide, by decide +kernel⟩
set_option maxRecDepth 20000 in
theorem v_H_shortest : Cond.instanceMethod m_H_shortest.1 ∈ ztbl := zq 834 (by decide +kernel) rfl
set_option maxRecDepth 20000 in
theorem w_H_shortest : Cond.selects m_H_shortest.1.cls m_H_shortest.1 m_H_shortest.1 ∈ ztbl := zq 835 (by decide +kernel) rfl
set_option maxRecDepth 20000 in
theorem i_H_image : zMI m_H_image 1 := ⟨zq 883 (by decide +kernel) rfl, zq 68 (by decide +kernel) rfl, ⟨by decide, by decide⟩, by decide +kernel, by decide, by decide +kernel⟩
set_option maxRecDepth 20000 in
theorem v_H_image : Cond.instanceMethod m_H_image.1 ∈ ztbl := zq 881 (by decide +kernel) rfl
set_option maxRecDepth 20000 in
theorem w_H_image : Cond.selects m_H_image.1.cls m_H_image.1 m_H_image.1 ∈ ztbl := zq 882 (by decide +kernel) rfl
set_option maxRecDepth 20000 in
theorem i_H_restore : zMI m_H_restore 1 := ⟨zq 897 (by decide +kernel) rfl, zq 68 (by decide +kernel) rfl, ⟨by decide, by decide⟩, by decide +kernel, by decide, by decide +kernel⟩
set_option maxRecDepth 20000 in
theorem v_H_restore : Cond.instanceMethod m_H_restore.1 ∈ ztbl := zq 895 (by decide +kernel) rfl
set_option maxRecDepth 20000 in
theorem w_H_restore : Cond.selects m_H_restore.1.cls m_H_restore.1 m_H_restore.1 ∈ ztbl := zq 896 (by decide +kernel) rfl
set_option maxRecDepth 20000 in
theorem i_H_told : zMI m_H_told 1 := ⟨zq 901 (by decide +kernel) rfl, zq 68 (by decide +kernel) rfl, ⟨by decide, by decide⟩, by decide +kernel, by decide, by decide +kernel⟩
set_option maxRecDepth 20000 in
theorem v_H_told : Cond.instanceMethod m_H_told.1 ∈ ztbl := zq 899 (by decide +kernel) rfl
set_option maxRecDepth 20000 in
theorem w_H_told : Cond.selects m_H_told.1.cls m_H_told.1 m_H_told.1 ∈ ztbl := zq 900 (by decide +kernel) rfl
set_option maxRecDepth 20000 in
theorem i_H_isLetter : zMI m_H_isLetter 1 := ⟨zq 420 (by decide +kernel) rfl, zq 68 (by decide +kernel) rfl, ⟨by decide, by decide⟩, by decide +kernel, by decide, by decide +kernel⟩
set_option maxRecDepth 20000 in
theorem s_H_isLetter : Cond.static m_H_isLetter.1 ∈ ztbl := zq 419 (by decide +kernel) rfl
set_option maxRecDepth 20000 in
theorem i_H_isVariable : zMI m_H_isVariable 1 := ⟨zq 443 (by decide +kernel) rfl, zq 68 (by decide +kernel) rfl, ⟨by decide, by decide⟩, by decide +kernel, by decide, by decide +kernel⟩
set_option maxRecDepth 20000 in
theorem s_H_isVariable : Cond.static m_H_isVariable.1 ∈ ztbl := zq 442 (by decide +kernel) rfl
set_option maxRecDepth 20000 in
theorem i_H_isState : zMI m_H_isState 1 := ⟨zq 417 (by decide +kernel) rfl, zq 68 (by decide +kernel) rfl, ⟨by decide, by decide⟩, by decide +kernel, by decide, by decide +kernel⟩
set_option maxRecDepth 20000 in
theorem s_H_isState : Cond.static m_H_isState.1 ∈ ztbl := zq 416 (by decide +kernel) rfl
set_option maxRecDepth 20000 in
theorem i_H_sizeOrItem : zMI m_H_sizeOrItem 2 := ⟨zq 495 (by decide +kernel) rfl, zq 68 (by decide +kernel) rfl, ⟨by decide, by decide⟩, by decide +kernel, by decide, by decide +kernel⟩
set_option maxRecDepth 20000 in
theorem s_H_sizeOrItem : Cond.static m_H_sizeOrItem.1 ∈ ztbl := zq 494 (by decide +kernel) rfl
set_option maxRecDepth 20000 in
theorem i_H_symbolOf : zMI m_H_symbolOf 1 := ⟨zq 398 (by decide +kernel) rfl, zq 68 (by decide +kernel) rfl, ⟨by decide, by decide⟩, by decide +kernel, by decide, by decide +kernel⟩
set_option maxRecDepth 20000 in
theorem s_H_symbolOf : Cond.static m_H_symbolOf.1 ∈ ztbl := zq 397 (by decide +kernel) rfl
set_option maxRecDepth 20000 in
theorem i_H_firstFault : zMI m_H_firstFault 0 := ⟨zq 391 (by decide +kernel) rfl, zq 68 (by decide +kernel) rfl, ⟨by decide, by decide⟩, by decide +kernel, by decide, by decide +kernel⟩
set_option maxRecDepth 20000 in
theorem v_H_firstFault : Cond.instanceMethod m_H_firstFault.1 ∈ ztbl := zq 390 (by decide +kernel) rfl
set_option maxRecDepth 20000 in
theorem w_H_firstFault : Cond.selects m_H_firstFault.1.cls m_H_firstFault.1 m_H_firstFault.1 ∈ ztbl := zq 0 (by decide +kernel) rfl
set_option maxRecDepth 20000 in
theorem i_H_pourPad : zMI m_H_pourPad 0 := ⟨zq 406 (by decide +kernel) rfl, zq 68 (by decide +kernel) rfl, ⟨by decide, by decide⟩, by decide +kernel, by decide, by decide +kernel⟩
set_option maxRecDepth 20000 in
theorem v_H_pourPad : Cond.instanceMethod m_H_pourPad.1 ∈ ztbl := zq 405 (by decide +kernel) rfl
set_option maxRecDepth 20000 in
theorem w_H_pourPad : Cond.selects m_H_pourPad.1.cls m_H_pourPad.1 m_H_pourPad.1 ∈ ztbl := zq 1 (by decide +kernel) rfl
set_option maxRecDepth 20000 in
theorem i_H_needsOrRowsChanged : zMI m_H_needsOrRowsChanged 0 := ⟨zq 410 (by decide +kernel) rfl, zq 68 (by decide +kernel) rfl, ⟨by decide, by decide⟩, by decide +kernel, by decide, by decide +kernel⟩
set_option maxRecDepth 20000 in
theorem v_H_needsOrRowsChanged : Cond.instanceMethod m_H_needsOrRowsChanged.1 ∈ ztbl := zq 409 (by decide +kernel) rfl
set_option maxRecDepth 20000 in
theorem w_H_needsOrRowsChanged : Cond.selects m_H_needsOrRowsChanged.1.cls m_H_needsOrRowsChanged.1 m_H_needsOrRowsChanged.1 ∈ ztbl := zq 2 (by decide +kernel) rfl
set_option maxRecDepth 20000 in
theorem i_H_machineChanged : zMI m_H_machineChanged 0 := ⟨zq 432 (by decide +kernel) rfl, zq 68 (by decide +kernel) rfl, ⟨by decide, by decide⟩, by decide +kernel, by decide, by decide +kernel⟩
set_option maxRecDepth 20000 in
theorem v_H_machineChanged : Cond.instanceMethod m_H_machineChanged.1 ∈ ztbl := zq 431 (by decide +kernel) rfl
set_option maxRecDepth 20000 in
theorem w_H_machineChanged : Cond.selects m_H_machineChanged.1.cls m_H_machineChanged.1 m_H_machineChanged.1 ∈ ztbl := zq 3 (by decide +kernel) rfl
set_option maxRecDepth 20000 in
theorem i_H_refreshNet : zMI m_H_refreshNet 0 := ⟨zq 519 (by decide +kernel) rfl, zq 68 (by decide +kernel) rfl, ⟨by decide, by decide⟩, by decide +kernel, by decide, by decide +kernel⟩
set_option maxRecDepth 20000 in
theorem v_H_refreshNet : Cond.instanceMethod m_H_refreshNet.1 ∈ ztbl := zq 518 (by decide +kernel) rfl
set_option maxRecDepth 20000 in
theorem w_H_refreshNet : Cond.selects m_H_refreshNet.1.cls m_H_refreshNet.1 m_H_refreshNet.1 ∈ ztbl := zq 7 (by decide +kernel) rfl
set_option maxRecDepth 20000 in
theorem i_H_wordsMakeRowsOne : zMI m_H_wordsMakeRowsOne 0 := ⟨zq 793 (by decide +kernel) rfl, zq 68 (by decide +kernel) rfl, ⟨by decide, by decide⟩, by decide +kernel, by decide, by decide +kernel⟩
set_option maxRecDepth 20000 in
theorem v_H_wordsMakeRowsOne : Cond.instanceMethod m_H_wordsMakeRowsOne.1 ∈ ztbl := zq 792 (by decide +kernel) rfl
set_option maxRecDepth 20000 in
theorem w_H_wordsMakeRowsOne : Cond.selects m_H_wordsMakeRowsOne.1.cls m_H_wordsMakeRowsOne.1 m_H_wordsMakeRowsOne.1 ∈ ztbl := zq 18 (by decide +kernel) rfl
set_option maxRecDepth 20000 in
theorem i_Mo_init : zMI m_Mo_init 0 := ⟨zq 906 (by decide +kernel) rfl, zq 79 (by decide +kernel) rfl, ⟨by decide, by decide⟩, by decide +kernel, by decide, by decide +kernel⟩
set_option maxRecDepth 20000 in
theorem v_Mo_init : Cond.instanceMethod m_Mo_init.1 ∈ ztbl := zq 905 (by decide +kernel) rfl
set_option maxRecDepth 20000 in
theorem i_Mo_in : zMI m_Mo_in 3 := ⟨zq 1047 (by decide +kernel) rfl, zq 79 (by decide +kernel) rfl, ⟨by decide, by decide⟩, by decide +kernel, by decide, by decide +kernel⟩
set_option maxRecDepth 20000 in
theorem s_Mo_in : Cond.static m_Mo_in.1 ∈ ztbl := zq 1046 (by decide +kernel) rfl
set_option maxRecDepth 20000 in
theorem i_Mo_isThird : zMI m_Mo_isThird 1 := ⟨zq 1074 (by decide +kernel) rfl, zq 79 (by decide +kernel) rfl, ⟨by decide, by decide⟩, by decide +kernel, by decide, by decide +kernel⟩
set_option maxRecDepth 20000 in
theorem s_Mo_isThird : Cond.static m_Mo_isThird.1 ∈ ztbl := zq 1073 (by decide +kernel) rfl
set_option maxRecDepth 20000 in
theorem i_Mo_has : zMI m_Mo_has 2 := ⟨zq 1103 (by decide +kernel) rfl, zq 79 (by decide +kernel) rfl, ⟨by decide, by decide⟩, by decide +kernel, by decide, by decide +kernel⟩
set_option maxRecDepth 20000 in
theorem s_Mo_has : Cond.static m_Mo_has.1 ∈ ztbl := zq 1102 (by decide +kernel) rfl
set_option maxRecDepth 20000 in
theorem i_Mo_say : zMI m_Mo_say 1 := ⟨zq 1042 (by decide +kernel) rfl, zq 79 (by decide +kernel) rfl, ⟨by decide, by decide⟩, by decide +kernel, by decide, by decide +kernel⟩
set_option maxRecDepth 20000 in
theorem v_Mo_say : Cond.instanceMethod m_Mo_say.1 ∈ ztbl := zq 1040 (by decide +kernel) rfl
set_option maxRecDepth 20000 in
theorem w_Mo_say : Cond.selects m_Mo_say.1.cls m_Mo_say.1 m_Mo_say.1 ∈ ztbl := zq 1041 (by decide +kernel) rfl
set_option maxRecDepth 20000 in
theorem i_Mo_wipe : zMI m_Mo_wipe 0 := ⟨zq 1051 (by decide +kernel) rfl, zq 79 (by decide +kernel) rfl, ⟨by decide, by decide⟩, by decide +kernel, by decide, by decide +kernel⟩
set_option maxRecDepth 20000 in
theorem v_Mo_wipe : Cond.instanceMethod m_Mo_wipe.1 ∈ ztbl := zq 1049 (by decide +kernel) rfl
set_option maxRecDepth 20000 in
theorem w_Mo_wipe : Cond.selects m_Mo_wipe.1.cls m_Mo_wipe.1 m_Mo_wipe.1 ∈ ztbl := zq 1050 (by decide +kernel) rfl
set_option maxRecDepth 20000 in
theorem i_Mo_symbolOf : zMI m_Mo_symbolOf 1 := ⟨zq 1058 (by decide +kernel) rfl, zq 79 (by decide +kernel) rfl, ⟨by decide, by decide⟩, by decide +kernel, by decide, by decide +kernel⟩
set_option maxRecDepth 20000 in
theorem s_Mo_symbolOf : Cond.static m_Mo_symbolOf.1 ∈ ztbl := zq 1057 (by decide +kernel) rfl
set_option maxRecDepth 20000 in
theorem i_Mo_fault : zMI m_Mo_fault 0 := ⟨zq 1055 (by decide +kernel) rfl, zq 79 (by decide +kernel) rfl, ⟨by decide, by decide⟩, by decide +kernel, by decide, by decide +kernel⟩
set_option maxRecDepth 20000 in
theorem v_Mo_fault : Cond.instanceMethod m_Mo_fault.1 ∈ ztbl := zq 1053 (by decide +kernel) rfl
set_option maxRecDepth 20000 in
theorem w_Mo_fault : Cond.selects m_Mo_fault.1.cls m_Mo_fault.1 m_Mo_fault.1 ∈ ztbl := zq 1054 (by decide +kernel) rfl
set_option maxRecDepth 20000 in
theorem i_Mo_load : zMI m_Mo_load 0 := ⟨zq 1066 (by decide +kernel) rfl, zq 79 (by decide +kernel) rfl, ⟨by decide, by decide⟩, by decide +kernel, by decide, by decide +kernel⟩
set_option maxRecDepth 20000 in
theorem v_Mo_load : Cond.instanceMethod m_Mo_load.1 ∈ ztbl := zq 1064 (by decide +kernel) rfl
set_option maxRecDepth 20000 in
theorem w_Mo_load : Cond.selects m_Mo_load.1.cls m_Mo_load.1 m_Mo_load.1 ∈ ztbl := zq 1065 (by decide +kernel) rfl
set_option maxRecDepth 20000 in
theorem i_Mo_leads : zMI m_Mo_leads 3 := ⟨zq 1071 (by decide +kernel) rfl, zq 79 (by decide +kernel) rfl, ⟨by decide, by decide⟩, by decide +kernel, by decide, by decide +kernel⟩
set_option maxRecDepth 20000 in
theorem v_Mo_leads : Cond.instanceMethod m_Mo_leads.1 ∈ ztbl := zq 1069 (by decide +kernel) rfl
set_option maxRecDepth 20000 in
theorem w_Mo_leads : Cond.selects m_Mo_leads.1.cls m_Mo_leads.1 m_Mo_leads.1 ∈ ztbl := zq 1070 (by decide +kernel) rfl
set_option maxRecDepth 20000 in
theorem i_Mo_need : zMI m_Mo_need 3 := ⟨zq 1079 (by decide +kernel) rfl, zq 79 (by decide +kernel) rfl, ⟨by decide, by decide⟩, by decide +kernel, by decide, by decide +kernel⟩
set_option maxRecDepth 20000 in
theorem v_Mo_need : Cond.instanceMethod m_Mo_need.1 ∈ ztbl := zq 1077 (by decide +kernel) rfl
set_option maxRecDepth 20000 in
theorem w_Mo_need : Cond.selects m_Mo_need.1.cls m_Mo_need.1 m_Mo_need.1 ∈ ztbl := zq 1078 (by decide +kernel) rfl
set_option maxRecDepth 20000 in
theorem i_Mo_isDone : zMI m_Mo_isDone 3 := ⟨zq 1096 (by decide +kernel) rfl, zq 79 (by decide +kernel) rfl, ⟨by decide, by decide⟩, by decide +kernel, by decide, by decide +kernel⟩
set_option maxRecDepth 20000 in
theorem v_Mo_isDone : Cond.instanceMethod m_Mo_isDone.1 ∈ ztbl := zq 1095 (by decide +kernel) rfl
set_option maxRecDepth 20000 in
theorem w_Mo_isDone : Cond.selects m_Mo_isDone.1.cls m_Mo_isDone.1 m_Mo_isDone.1 ∈ ztbl := zq 28 (by decide +kernel) rfl
set_option maxRecDepth 20000 in
theorem i_Mo_addDone : zMI m_Mo_addDone 5 := ⟨zq 1092 (by decide +kernel) rfl, zq 79 (by decide +kernel) rfl, ⟨by decide, by decide⟩, by decide +kernel, by decide, by decide +kernel⟩
set_option maxRecDepth 20000 in
theorem v_Mo_addDone : Cond.instanceMethod m_Mo_addDone.1 ∈ ztbl := zq 1091 (by decide +kernel) rfl
set_option maxRecDepth 20000 in
theorem w_Mo_addDone : Cond.selects m_Mo_addDone.1.cls m_Mo_addDone.1 m_Mo_addDone.1 ∈ ztbl := zq 27 (by decide +kernel) rfl
set_option maxRecDepth 20000 in
theorem i_Mo_findDone : zMI m_Mo_findDone 0 := ⟨zq 1088 (by decide +kernel) rfl, zq 79 (by decide +kernel) rfl, ⟨by decide, by decide⟩, by decide +kernel, by decide, by decide +kernel⟩
set_option maxRecDepth 20000 in
theorem v_Mo_findDone : Cond.instanceMethod m_Mo_findDone.1 ∈ ztbl := zq 1087 (by decide +kernel) rfl
set_option maxRecDepth 20000 in
theorem w_Mo_findDone : Cond.selects m_Mo_findDone.1.cls m_Mo_findDone.1 m_Mo_findDone.1 ∈ ztbl := zq 26 (by decide +kernel) rfl
set_option maxRecDepth 20000 in
theorem i_Mo_firstFor : zMI m_Mo_firstFor 2 := ⟨zq 1100 (by decide +kernel) rfl, zq 79 (by decide +kernel) rfl, ⟨by decide, by decide⟩, by decide +kernel, by decide, by decide +kernel⟩
set_option maxRecDepth 20000 in
theorem v_Mo_firstFor : Cond.instanceMethod m_Mo_firstFor.1 ∈ ztbl := zq 1099 (by decide +kernel) rfl
set_option maxRecDepth 20000 in
theorem w_Mo_firstFor : Cond.selects m_Mo_firstFor.1.cls m_Mo_firstFor.1 m_Mo_firstFor.1 ∈ ztbl := zq 29 (by decide +kernel) rfl
set_option maxRecDepth 20000 in
theorem i_Mo_brief : zMI m_Mo_brief 2 := ⟨zq 1084 (by decide +kernel) rfl, zq 79 (by decide +kernel) rfl, ⟨by decide, by decide⟩, by decide +kernel, by decide, by decide +kernel⟩
set_option maxRecDepth 20000 in
theorem v_Mo_brief : Cond.instanceMethod m_Mo_brief.1 ∈ ztbl := zq 1082 (by decide +kernel) rfl
set_option maxRecDepth 20000 in
theorem w_Mo_brief : Cond.selects m_Mo_brief.1.cls m_Mo_brief.1 m_Mo_brief.1 ∈ ztbl := zq 1083 (by decide +kernel) rfl
set_option maxRecDepth 20000 in
theorem i_Mo_dropFirst : zMI m_Mo_dropFirst 0 := ⟨zq 1120 (by decide +kernel) rfl, zq 79 (by decide +kernel) rfl, ⟨by decide, by decide⟩, by decide +kernel, by decide, by decide +kernel⟩
set_option maxRecDepth 20000 in
theorem v_Mo_dropFirst : Cond.instanceMethod m_Mo_dropFirst.1 ∈ ztbl := zq 1119 (by decide +kernel) rfl
set_option maxRecDepth 20000 in
theorem w_Mo_dropFirst : Cond.selects m_Mo_dropFirst.1.cls m_Mo_dropFirst.1 m_Mo_dropFirst.1 ∈ ztbl := zq 32 (by decide +kernel) rfl
set_option maxRecDepth 20000 in
theorem i_Mo_lean : zMI m_Mo_lean 0 := ⟨zq 1116 (by decide +kernel) rfl, zq 79 (by decide +kernel) rfl, ⟨by decide, by decide⟩, by decide +kernel, by decide, by decide +kernel⟩
set_option maxRecDepth 20000 in
theorem v_Mo_lean : Cond.instanceMethod m_Mo_lean.1 ∈ ztbl := zq 1115 (by decide +kernel) rfl
set_option maxRecDepth 20000 in
theorem w_Mo_lean : Cond.selects m_Mo_lean.1.cls m_Mo_lean.1 m_Mo_lean.1 ∈ ztbl := zq 31 (by decide +kernel) rfl
set_option maxRecDepth 20000 in
theorem i_Mo_isHopeless : zMI m_Mo_isHopeless 0 := ⟨zq 1179 (by decide +kernel) rfl, zq 79 (by decide +kernel) rfl, ⟨by decide, by decide⟩, by decide +kernel, by decide, by decide +kernel⟩
set_option maxRecDepth 20000 in
theorem v_Mo_isHopeless : Cond.instanceMethod m_Mo_isHopeless.1 ∈ ztbl := zq 1178 (by decide +kernel) rfl
set_option maxRecDepth 20000 in
theorem w_Mo_isHopeless : Cond.selects m_Mo_isHopeless.1.cls m_Mo_isHopeless.1 m_Mo_isHopeless.1 ∈ ztbl := zq 46 (by decide +kernel) rfl
set_option maxRecDepth 20000 in
theorem i_Mo_isSame : zMI m_Mo_isSame 1 := ⟨zq 1187 (by decide +kernel) rfl, zq 79 (by decide +kernel) rfl, ⟨by decide, by decide⟩, by decide +kernel, by decide, by decide +kernel⟩
set_option maxRecDepth 20000 in
theorem v_Mo_isSame : Cond.instanceMethod m_Mo_isSame.1 ∈ ztbl := zq 1186 (by decide +kernel) rfl
set_option maxRecDepth 20000 in
theorem w_Mo_isSame : Cond.selects m_Mo_isSame.1.cls m_Mo_isSame.1 m_Mo_isSame.1 ∈ ztbl := zq 48 (by decide +kernel) rfl
set_option maxRecDepth 20000 in
theorem i_Mo_lookFor : zMI m_Mo_lookFor 0 := ⟨zq 1183 (by decide +kernel) rfl, zq 79 (by decide +kernel) rfl, ⟨by decide, by decide⟩, by decide +kernel, by decide, by decide +kernel⟩
set_option maxRecDepth 20000 in
theorem v_Mo_lookFor : Cond.instanceMethod m_Mo_lookFor.1 ∈ ztbl := zq 1182 (by decide +kernel) rfl
set_option maxRecDepth 20000 in
theorem w_Mo_lookFor : Cond.selects m_Mo_lookFor.1.cls m_Mo_lookFor.1 m_Mo_lookFor.1 ∈ ztbl := zq 47 (by decide +kernel) rfl
set_option maxRecDepth 20000 in
theorem i_Mo_addNode : zMI m_Mo_addNode 3 := ⟨zq 1124 (by decide +kernel) rfl, zq 79 (by decide +kernel) rfl, ⟨by decide, by decide⟩, by decide +kernel, by decide, by decide +kernel⟩
set_option maxRecDepth 20000 in
theorem v_Mo_addNode : Cond.instanceMethod m_Mo_addNode.1 ∈ ztbl := zq 1123 (by decide +kernel) rfl
set_option maxRecDepth 20000 in
theorem w_Mo_addNode : Cond.selects m_Mo_addNode.1.cls m_Mo_addNode.1 m_Mo_addNode.1 ∈ ztbl := zq 33 (by decide +kernel) rfl
set_option maxRecDepth 20000 in
theorem i_Mo_firstOf : zMI m_Mo_firstOf 2 := ⟨zq 1140 (by decide +kernel) rfl, zq 79 (by decide +kernel) rfl, ⟨by decide, by decide⟩, by decide +kernel, by decide, by decide +kernel⟩
set_option maxRecDepth 20000 in
theorem v_Mo_firstOf : Cond.instanceMethod m_Mo_firstOf.1 ∈ ztbl := zq 1139 (by decide +kernel) rfl
set_option maxRecDepth 20000 in
theorem w_Mo_firstOf : Cond.selects m_Mo_firstOf.1.cls m_Mo_firstOf.1 m_Mo_firstOf.1 ∈ ztbl := zq 37 (by decide +kernel) rfl
set_option maxRecDepth 20000 in
theorem i_Mo_isEnd : zMI m_Mo_isEnd 1 := ⟨zq 1128 (by decide +kernel) rfl, zq 79 (by decide +kernel) rfl, ⟨by decide, by decide⟩, by decide +kernel, by decide, by decide +kernel⟩
set_option maxRecDepth 20000 in
theorem v_Mo_isEnd : Cond.instanceMethod m_Mo_isEnd.1 ∈ ztbl := zq 1127 (by decide +kernel) rfl
set_option maxRecDepth 20000 in
theorem w_Mo_isEnd : Cond.selects m_Mo_isEnd.1.cls m_Mo_isEnd.1 m_Mo_isEnd.1 ∈ ztbl := zq 34 (by decide +kernel) rfl
set_option maxRecDepth 20000 in
theorem i_Mo_addMove : zMI m_Mo_addMove 3 := ⟨zq 1144 (by decide +kernel) rfl, zq 79 (by decide +kernel) rfl, ⟨by decide, by decide⟩, by decide +kernel, by decide, by decide +kernel⟩
set_option maxRecDepth 20000 in
theorem v_Mo_addMove : Cond.instanceMethod m_Mo_addMove.1 ∈ ztbl := zq 1143 (by decide +kernel) rfl
set_option maxRecDepth 20000 in
theorem w_Mo_addMove : Cond.selects m_Mo_addMove.1.cls m_Mo_addMove.1 m_Mo_addMove.1 ∈ ztbl := zq 38 (by decide +kernel) rfl
set_option maxRecDepth 20000 in
theorem i_Mo_third : zMI m_Mo_third 1 := ⟨zq 1155 (by decide +kernel) rfl, zq 79 (by decide +kernel) rfl, ⟨by decide, by decide⟩, by decide +kernel, by decide, by decide +kernel⟩
set_option maxRecDepth 20000 in
theorem s_Mo_third : Cond.static m_Mo_third.1 ∈ ztbl := zq 1154 (by decide +kernel) rfl
set_option maxRecDepth 20000 in
theorem i_Mo_isTurn : zMI m_Mo_isTurn 3 := ⟨zq 1152 (by decide +kernel) rfl, zq 79 (by decide +kernel) rfl, ⟨by decide, by decide⟩, by decide +kernel, by decide, by decide +kernel⟩
set_option maxRecDepth 20000 in
theorem v_Mo_isTurn : Cond.instanceMethod m_Mo_isTurn.1 ∈ ztbl := zq 1151 (by decide +kernel) rfl
set_option maxRecDepth 20000 in
theorem w_Mo_isTurn : Cond.selects m_Mo_isTurn.1.cls m_Mo_isTurn.1 m_Mo_isTurn.1 ∈ ztbl := zq 40 (by decide +kernel) rfl
set_option maxRecDepth 20000 in
theorem i_Mo_addBegins : zMI m_Mo_addBegins 3 := ⟨zq 1148 (by decide +kernel) rfl, zq 79 (by decide +kernel) rfl, ⟨by decide, by decide⟩, by decide +kernel, by decide, by decide +kernel⟩
set_option maxRecDepth 20000 in
theorem v_Mo_addBegins : Cond.instanceMethod m_Mo_addBegins.1 ∈ ztbl := zq 1147 (by decide +kernel) rfl
set_option maxRecDepth 20000 in
theorem w_Mo_addBegins : Cond.selects m_Mo_addBegins.1.cls m_Mo_addBegins.1 m_Mo_addBegins.1 ∈ ztbl := zq 39 (by decide +kernel) rfl
set_option maxRecDepth 20000 in
theorem i_Mo_findMoves : zMI m_Mo_findMoves 1 := ⟨zq 1136 (by decide +kernel) rfl, zq 79 (by decide +kernel) rfl, ⟨by decide, by decide⟩, by decide +kernel, by decide, by decide +kernel⟩
set_option maxRecDepth 20000 in
theorem v_Mo_findMoves : Cond.instanceMethod m_Mo_findMoves.1 ∈ ztbl := zq 1135 (by decide +kernel) rfl
set_option maxRecDepth 20000 in
theorem w_Mo_findMoves : Cond.selects m_Mo_findMoves.1.cls m_Mo_findMoves.1 m_Mo_findMoves.1 ∈ ztbl := zq 36 (by decide +kernel) rfl
set_option maxRecDepth 20000 in
theorem i_Mo_layRows : zMI m_Mo_layRows 3 := ⟨zq 1163 (by decide +kernel) rfl, zq 79 (by decide +kernel) rfl, ⟨by decide, by decide⟩, by decide +kernel, by decide, by decide +kernel⟩
set_option maxRecDepth 20000 in
theorem v_Mo_layRows : Cond.instanceMethod m_Mo_layRows.1 ∈ ztbl := zq 1162 (by decide +kernel) rfl
set_option maxRecDepth 20000 in
theorem w_Mo_layRows : Cond.selects m_Mo_layRows.1.cls m_Mo_layRows.1 m_Mo_layRows.1 ∈ ztbl := zq 42 (by decide +kernel) rfl
set_option maxRecDepth 20000 in
theorem i_Mo_letterAhead : zMI m_Mo_letterAhead 3 := ⟨zq 1167 (by decide +kernel) rfl, zq 79 (by decide +kernel) rfl, ⟨by decide, by decide⟩, by decide +kernel, by decide, by decide +kernel⟩
set_option maxRecDepth 20000 in
theorem v_Mo_letterAhead : Cond.instanceMethod m_Mo_letterAhead.1 ∈ ztbl := zq 1166 (by decide +kernel) rfl
set_option maxRecDepth 20000 in
theorem w_Mo_letterAhead : Cond.selects m_Mo_letterAhead.1.cls m_Mo_letterAhead.1 m_Mo_letterAhead.1 ∈ ztbl := zq 43 (by decide +kernel) rfl
set_option maxRecDepth 20000 in
theorem i_Mo_variableAhead : zMI m_Mo_variableAhead 4 := ⟨zq 1171 (by decide +kernel) rfl, zq 79 (by decide +kernel) rfl, ⟨by decide, by decide⟩, by decide +kernel, by decide, by decide +kernel⟩
set_option maxRecDepth 20000 in
theorem v_Mo_variableAhead : Cond.instanceMethod m_Mo_variableAhead.1 ∈ ztbl := zq 1170 (by decide +kernel) rfl
set_option maxRecDepth 20000 in
theorem w_Mo_variableAhead : Cond.selects m_Mo_variableAhead.1.cls m_Mo_variableAhead.1 m_Mo_variableAhead.1 ∈ ztbl := zq 44 (by decide +kernel) rfl
set_option maxRecDepth 20000 in
theorem i_Mo_isNothing : zMI m_Mo_isNothing 2 := ⟨zq 1175 (by decide +kernel) rfl, zq 79 (by decide +kernel) rfl, ⟨by decide, by decide⟩, by decide +kernel, by decide, by decide +kernel⟩
set_option maxRecDepth 20000 in
theorem v_Mo_isNothing : Cond.instanceMethod m_Mo_isNothing.1 ∈ ztbl := zq 1174 (by decide +kernel) rfl
set_option maxRecDepth 20000 in
theorem w_Mo_isNothing : Cond.selects m_Mo_isNothing.1.cls m_Mo_isNothing.1 m_Mo_isNothing.1 ∈ ztbl := zq 45 (by decide +kernel) rfl
set_option maxRecDepth 20000 in
theorem i_Mo_makeMove : zMI m_Mo_makeMove 2 := ⟨zq 1159 (by decide +kernel) rfl, zq 79 (by decide +kernel) rfl, ⟨by decide, by decide⟩, by decide +kernel, by decide, by decide +kernel⟩
set_option maxRecDepth 20000 in
theorem v_Mo_makeMove : Cond.instanceMethod m_Mo_makeMove.1 ∈ ztbl := zq 1158 (by decide +kernel) rfl
set_option maxRecDepth 20000 in
theorem w_Mo_makeMove : Cond.selects m_Mo_makeMove.1.cls m_Mo_makeMove.1 m_Mo_makeMove.1 ∈ ztbl := zq 41 (by decide +kernel) rfl
set_option maxRecDepth 20000 in
theorem i_Mo_goOn : zMI m_Mo_goOn 1 := ⟨zq 1132 (by decide +kernel) rfl, zq 79 (by decide +kernel) rfl, ⟨by decide, by decide⟩, by decide +kernel, by decide, by decide +kernel⟩
set_option maxRecDepth 20000 in
theorem v_Mo_goOn : Cond.instanceMethod m_Mo_goOn.1 ∈ ztbl := zq 1131 (by decide +kernel) rfl
set_option maxRecDepth 20000 in
theorem w_Mo_goOn : Cond.selects m_Mo_goOn.1.cls m_Mo_goOn.1 m_Mo_goOn.1 ∈ ztbl := zq 35 (by decide +kernel) rfl
set_option maxRecDepth 20000 in
theorem i_Mo_findNet : zMI m_Mo_findNet 0 := ⟨zq 1112 (by decide +kernel) rfl, zq 79 (by decide +kernel) rfl, ⟨by decide, by decide⟩, by decide +kernel, by decide, by decide +kernel⟩
set_option maxRecDepth 20000 in
theorem v_Mo_findNet : Cond.instanceMethod m_Mo_findNet.1 ∈ ztbl := zq 1111 (by decide +kernel) rfl
set_option maxRecDepth 20000 in
theorem w_Mo_findNet : Cond.selects m_Mo_findNet.1.cls m_Mo_findNet.1 m_Mo_findNet.1 ∈ ztbl := zq 30 (by decide +kernel) rfl
set_option maxRecDepth 20000 in
theorem i_Mo_firstEnd : zMI m_Mo_firstEnd 0 := ⟨zq 1191 (by decide +kernel) rfl, zq 79 (by decide +kernel) rfl, ⟨by decide, by decide⟩, by decide +kernel, by decide, by decide +kernel⟩
set_option maxRecDepth 20000 in
theorem v_Mo_firstEnd : Cond.instanceMethod m_Mo_firstEnd.1 ∈ ztbl := zq 1190 (by decide +kernel) rfl
set_option maxRecDepth 20000 in
theorem w_Mo_firstEnd : Cond.selects m_Mo_firstEnd.1.cls m_Mo_firstEnd.1 m_Mo_firstEnd.1 ∈ ztbl := zq 49 (by decide +kernel) rfl
set_option maxRecDepth 20000 in
theorem i_Mo_cuts : zMI m_Mo_cuts 0 := ⟨zq 1195 (by decide +kernel) rfl, zq 79 (by decide +kernel) rfl, ⟨by decide, by decide⟩, by decide +kernel, by decide, by decide +kernel⟩
set_option maxRecDepth 20000 in
theorem v_Mo_cuts : Cond.instanceMethod m_Mo_cuts.1 ∈ ztbl := zq 1194 (by decide +kernel) rfl
set_option maxRecDepth 20000 in
theorem w_Mo_cuts : Cond.selects m_Mo_cuts.1.cls m_Mo_cuts.1 m_Mo_cuts.1 ∈ ztbl := zq 50 (by decide +kernel) rfl
set_option maxRecDepth 20000 in
theorem i_Mo_mostOfOne : zMI m_Mo_mostOfOne 0 := ⟨zq 1199 (by decide +kernel) rfl, zq 79 (by decide +kernel) rfl, ⟨by decide, by decide⟩, by decide +kernel, by decide, by decide +kernel⟩
set_option maxRecDepth 20000 in
theorem v_Mo_mostOfOne : Cond.instanceMethod m_Mo_mostOfOne.1 ∈ ztbl := zq 1198 (by decide +kernel) rfl
set_option maxRecDepth 20000 in
theorem w_Mo_mostOfOne : Cond.selects m_Mo_mostOfOne.1.cls m_Mo_mostOfOne.1 m_Mo_mostOfOne.1 ∈ ztbl := zq 51 (by decide +kernel) rfl
set_option maxRecDepth 20000 in
theorem i_Mo_net : zMI m_Mo_net 1 := ⟨zq 1107 (by decide +kernel) rfl, zq 79 (by decide +kernel) rfl, ⟨by decide, by decide⟩, by decide +kernel, by decide, by decide +kernel⟩
set_option maxRecDepth 20000 in
theorem v_Mo_net : Cond.instanceMethod m_Mo_net.1 ∈ ztbl := zq 1105 (by decide +kernel) rfl
set_option maxRecDepth 20000 in
theorem w_Mo_net : Cond.selects m_Mo_net.1.cls m_Mo_net.1 m_Mo_net.1 ∈ ztbl := zq 1106 (by decide +kernel) rfl
set_option maxRecDepth 20000 in
theorem i_Mo_isNode : zMI m_Mo_isNode 1 := ⟨zq 1207 (by decide +kernel) rfl, zq 79 (by decide +kernel) rfl, ⟨by decide, by decide⟩, by decide +kernel, by decide, by decide +kernel⟩
set_option maxRecDepth 20000 in
theorem v_Mo_isNode : Cond.instanceMethod m_Mo_isNode.1 ∈ ztbl := zq 1206 (by decide +kernel) rfl
set_option maxRecDepth 20000 in
theorem w_Mo_isNode : Cond.selects m_Mo_isNode.1.cls m_Mo_isNode.1 m_Mo_isNode.1 ∈ ztbl := zq 52 (by decide +kernel) rfl
set_option maxRecDepth 20000 in
theorem i_Mo_findLeading : zMI m_Mo_findLeading 2 := ⟨zq 1211 (by decide +kernel) rfl, zq 79 (by decide +kernel) rfl, ⟨by decide, by decide⟩, by decide +kernel, by decide, by decide +kernel⟩
set_option maxRecDepth 20000 in
theorem v_Mo_findLeading : Cond.instanceMethod m_Mo_findLeading.1 ∈ ztbl := zq 1210 (by decide +kernel) rfl
set_option maxRecDepth 20000 in
theorem w_Mo_findLeading : Cond.selects m_Mo_findLeading.1.cls m_Mo_findLeading.1 m_Mo_findLeading.1 ∈ ztbl := zq 53 (by decide +kernel) rfl
set_option maxRecDepth 20000 in
theorem i_Mo_node : zMI m_Mo_node 2 := ⟨zq 1203 (by decide +kernel) rfl, zq 79 (by decide +kernel) rfl, ⟨by decide, by decide⟩, by decide +kernel, by decide, by decide +kernel⟩
set_option maxRecDepth 20000 in
theorem v_Mo_node : Cond.instanceMethod m_Mo_node.1 ∈ ztbl := zq 1201 (by decide +kernel) rfl
set_option maxRecDepth 20000 in
theorem w_Mo_node : Cond.selects m_Mo_node.1.cls m_Mo_node.1 m_Mo_node.1 ∈ ztbl := zq 1202 (by decide +kernel) rfl
set_option maxRecDepth 20000 in
theorem i_Mo_symbol : zMI m_Mo_symbol 3 := ⟨zq 1215 (by decide +kernel) rfl, zq 79 (by decide +kernel) rfl, ⟨by decide, by decide⟩, by decide +kernel, by decide, by decide +kernel⟩
set_option maxRecDepth 20000 in
theorem v_Mo_symbol : Cond.instanceMethod m_Mo_symbol.1 ∈ ztbl := zq 1213 (by decide +kernel) rfl
set_option maxRecDepth 20000 in
theorem w_Mo_symbol : Cond.selects m_Mo_symbol.1.cls m_Mo_symbol.1 m_Mo_symbol.1 ∈ ztbl := zq 1214 (by decide +kernel) rfl
set_option maxRecDepth 20000 in
theorem i_Mo_needs : zMI m_Mo_needs 3 := ⟨zq 1219 (by decide +kernel) rfl, zq 79 (by decide +kernel) rfl, ⟨by decide, by decide⟩, by decide +kernel, by decide, by decide +kernel⟩
set_option maxRecDepth 20000 in
theorem v_Mo_needs : Cond.instanceMethod m_Mo_needs.1 ∈ ztbl := zq 1217 (by decide +kernel) rfl
set_option maxRecDepth 20000 in
theorem w_Mo_needs : Cond.selects m_Mo_needs.1.cls m_Mo_needs.1 m_Mo_needs.1 ∈ ztbl := zq 1218 (by decide +kernel) rfl
set_option maxRecDepth 20000 in
theorem i_Mo_move : zMI m_Mo_move 3 := ⟨zq 1223 (by decide +kernel) rfl, zq 79 (by decide +kernel) rfl, ⟨by decide, by decide⟩, by decide +kernel, by decide, by decide +kernel⟩
set_option maxRecDepth 20000 in
theorem v_Mo_move : Cond.instanceMethod m_Mo_move.1 ∈ ztbl := zq 1221 (by decide +kernel) rfl
set_option maxRecDepth 20000 in
theorem w_Mo_move : Cond.selects m_Mo_move.1.cls m_Mo_move.1 m_Mo_move.1 ∈ ztbl := zq 1222 (by decide +kernel) rfl
set_option maxRecDepth 20000 in
theorem i_Mo_ahead : zMI m_Mo_ahead 2 := ⟨zq 1239 (by decide +kernel) rfl, zq 79 (by decide +kernel) rfl, ⟨by decide, by decide⟩, by decide +kernel, by decide, by decide +kernel⟩
set_option maxRecDepth 20000 in
theorem v_Mo_ahead : Cond.instanceMethod m_Mo_ahead.1 ∈ ztbl := zq 1238 (by decide +kernel) rfl
set_option maxRecDepth 20000 in
theorem w_Mo_ahead : Cond.selects m_Mo_ahead.1.cls m_Mo_ahead.1 m_Mo_ahead.1 ∈ ztbl := zq 56 (by decide +kernel) rfl
set_option maxRecDepth 20000 in
theorem i_Mo_undoMove : zMI m_Mo_undoMove 1 := ⟨zq 1235 (by decide +kernel) rfl, zq 79 (by decide +kernel) rfl, ⟨by decide, by decide⟩, by decide +kernel, by decide, by decide +kernel⟩
set_option maxRecDepth 20000 in
theorem v_Mo_undoMove : Cond.instanceMethod m_Mo_undoMove.1 ∈ ztbl := zq 1234 (by decide +kernel) rfl
set_option maxRecDepth 20000 in
theorem w_Mo_undoMove : Cond.selects m_Mo_undoMove.1.cls m_Mo_undoMove.1 m_Mo_undoMove.1 ∈ ztbl := zq 55 (by decide +kernel) rfl
set_option maxRecDepth 20000 in
theorem i_Mo_isAnswered : zMI m_Mo_isAnswered 0 := ⟨zq 1231 (by decide +kernel) rfl, zq 79 (by decide +kernel) rfl, ⟨by decide, by decide⟩, by decide +kernel, by decide, by decide +kernel⟩
set_option maxRecDepth 20000 in
theorem v_Mo_isAnswered : Cond.instanceMethod m_Mo_isAnswered.1 ∈ ztbl := zq 1230 (by decide +kernel) rfl
set_option maxRecDepth 20000 in
theorem w_Mo_isAnswered : Cond.selects m_Mo_isAnswered.1.cls m_Mo_isAnswered.1 m_Mo_isAnswered.1 ∈ ztbl := zq 54 (by decide +kernel) rfl
set_option maxRecDepth 20000 in
theorem i_Mo_answer : zMI m_Mo_answer 2 := ⟨zq 1227 (by decide +kernel) rfl, zq 79 (by decide +kernel) rfl, ⟨by decide, by decide⟩, by decide +kernel, by decide, by decide +kernel⟩
set_option maxRecDepth 20000 in
theorem v_Mo_answer : Cond.instanceMethod m_Mo_answer.1 ∈ ztbl := zq 1225 (by decide +kernel) rfl
set_option maxRecDepth 20000 in
theorem w_Mo_answer : Cond.selects m_Mo_answer.1.cls m_Mo_answer.1 m_Mo_answer.1 ∈ ztbl := zq 1226 (by decide +kernel) rfl
set_option maxRecDepth 20000 in
theorem i_Mo_spell : zMI m_Mo_spell 2 := ⟨zq 1243 (by decide +kernel) rfl, zq 79 (by decide +kernel) rfl, ⟨by decide, by decide⟩, by decide +kernel, by decide, by decide +kernel⟩
set_option maxRecDepth 20000 in
theorem v_Mo_spell : Cond.instanceMethod m_Mo_spell.1 ∈ ztbl := zq 1241 (by decide +kernel) rfl
set_option maxRecDepth 20000 in
theorem w_Mo_spell : Cond.selects m_Mo_spell.1.cls m_Mo_spell.1 m_Mo_spell.1 ∈ ztbl := zq 1242 (by decide +kernel) rfl
set_option maxRecDepth 20000 in
theorem i_Mo_clear : zMI m_Mo_clear 1 := ⟨zq 1247 (by decide +kernel) rfl, zq 79 (by decide +kernel) rfl, ⟨by decide, by decide⟩, by decide +kernel, by decide, by decide +kernel⟩
set_option maxRecDepth 20000 in
theorem v_Mo_clear : Cond.instanceMethod m_Mo_clear.1 ∈ ztbl := zq 1245 (by decide +kernel) rfl
set_option maxRecDepth 20000 in
theorem w_Mo_clear : Cond.selects m_Mo_clear.1.cls m_Mo_clear.1 m_Mo_clear.1 ∈ ztbl := zq 1246 (by decide +kernel) rfl
set_option maxRecDepth 20000 in
theorem i_Mo_take : zMI m_Mo_take 0 := ⟨zq 1251 (by decide +kernel) rfl, zq 79 (by decide +kernel) rfl, ⟨by decide, by decide⟩, by decide +kernel, by decide, by decide +kernel⟩
set_option maxRecDepth 20000 in
theorem v_Mo_take : Cond.instanceMethod m_Mo_take.1 ∈ ztbl := zq 1249 (by decide +kernel) rfl
set_option maxRecDepth 20000 in
theorem w_Mo_take : Cond.selects m_Mo_take.1.cls m_Mo_take.1 m_Mo_take.1 ∈ ztbl := zq 1250 (by decide +kernel) rfl
set_option maxRecDepth 20000 in
theorem i_Mo_addWhole : zMI m_Mo_addWhole 2 := ⟨zq 1271 (by decide +kernel) rfl, zq 79 (by decide +kernel) rfl, ⟨by decide, by decide⟩, by decide +kernel, by decide, by decide +kernel⟩
set_option maxRecDepth 20000 in
theorem v_Mo_addWhole : Cond.instanceMethod m_Mo_addWhole.1 ∈ ztbl := zq 1270 (by decide +kernel) rfl
set_option maxRecDepth 20000 in
theorem w_Mo_addWhole : Cond.selects m_Mo_addWhole.1.cls m_Mo_addWhole.1 m_Mo_addWhole.1 ∈ ztbl := zq 60 (by decide +kernel) rfl
set_option maxRecDepth 20000 in
theorem i_Mo_layWhole : zMI m_Mo_layWhole 1 := ⟨zq 1267 (by decide +kernel) rfl, zq 79 (by decide +kernel) rfl, ⟨by decide, by decide⟩, by decide +kernel, by decide, by decide +kernel⟩
set_option maxRecDepth 20000 in
theorem v_Mo_layWhole : Cond.instanceMethod m_Mo_layWhole.1 ∈ ztbl := zq 1266 (by decide +kernel) rfl
set_option maxRecDepth 20000 in
theorem w_Mo_layWhole : Cond.selects m_Mo_layWhole.1.cls m_Mo_layWhole.1 m_Mo_layWhole.1 ∈ ztbl := zq 59 (by decide +kernel) rfl
set_option maxRecDepth 20000 in
theorem i_Mo_isOne : zMI m_Mo_isOne 0 := ⟨zq 1263 (by decide +kernel) rfl, zq 79 (by decide +kernel) rfl, ⟨by decide, by decide⟩, by decide +kernel, by decide, by decide +kernel⟩
set_option maxRecDepth 20000 in
theorem v_Mo_isOne : Cond.instanceMethod m_Mo_isOne.1 ∈ ztbl := zq 1262 (by decide +kernel) rfl
set_option maxRecDepth 20000 in
theorem w_Mo_isOne : Cond.selects m_Mo_isOne.1.cls m_Mo_isOne.1 m_Mo_isOne.1 ∈ ztbl := zq 58 (by decide +kernel) rfl
set_option maxRecDepth 20000 in
theorem i_Mo_isNeeded : zMI m_Mo_isNeeded 1 := ⟨zq 1259 (by decide +kernel) rfl, zq 79 (by decide +kernel) rfl, ⟨by decide, by decide⟩, by decide +kernel, by decide, by decide +kernel⟩
set_option maxRecDepth 20000 in
theorem v_Mo_isNeeded : Cond.instanceMethod m_Mo_isNeeded.1 ∈ ztbl := zq 1258 (by decide +kernel) rfl
set_option maxRecDepth 20000 in
theorem w_Mo_isNeeded : Cond.selects m_Mo_isNeeded.1.cls m_Mo_isNeeded.1 m_Mo_isNeeded.1 ∈ ztbl := zq 57 (by decide +kernel) rfl
set_option maxRecDepth 20000 in
theorem i_Mo_fits : zMI m_Mo_fits 0 := ⟨zq 1255 (by decide +kernel) rfl, zq 79 (by decide +kernel) rfl, ⟨by decide, by decide⟩, by decide +kernel, by decide, by decide +kernel⟩
set_option maxRecDepth 20000 in
theorem v_Mo_fits : Cond.instanceMethod m_Mo_fits.1 ∈ ztbl := zq 1253 (by decide +kernel) rfl
set_option maxRecDepth 20000 in
theorem w_Mo_fits : Cond.selects m_Mo_fits.1.cls m_Mo_fits.1 m_Mo_fits.1 ∈ ztbl := zq 1254 (by decide +kernel) rfl
set_option maxRecDepth 20000 in
theorem i_Mo_timesIn : zMI m_Mo_timesIn 2 := ⟨zq 1283 (by decide +kernel) rfl, zq 79 (by decide +kernel) rfl, ⟨by decide, by decide⟩, by decide +kernel, by decide, by decide +kernel⟩
set_option maxRecDepth 20000 in
theorem v_Mo_timesIn : Cond.instanceMethod m_Mo_timesIn.1 ∈ ztbl := zq 1282 (by decide +kernel) rfl
set_option maxRecDepth 20000 in
theorem w_Mo_timesIn : Cond.selects m_Mo_timesIn.1.cls m_Mo_timesIn.1 m_Mo_timesIn.1 ∈ ztbl := zq 62 (by decide +kernel) rfl
set_option maxRecDepth 20000 in
theorem i_Mo_isLengths : zMI m_Mo_isLengths 2 := ⟨zq 1279 (by decide +kernel) rfl, zq 79 (by decide +kernel) rfl, ⟨by decide, by decide⟩, by decide +kernel, by decide, by decide +kernel⟩
set_option maxRecDepth 20000 in
theorem v_Mo_isLengths : Cond.instanceMethod m_Mo_isLengths.1 ∈ ztbl := zq 1278 (by decide +kernel) rfl
set_option maxRecDepth 20000 in
theorem w_Mo_isLengths : Cond.selects m_Mo_isLengths.1.cls m_Mo_isLengths.1 m_Mo_isLengths.1 ∈ ztbl := zq 61 (by decide +kernel) rfl
set_option maxRecDepth 20000 in
theorem i_Mo_lengths : zMI m_Mo_lengths 2 := ⟨zq 1275 (by decide +kernel) rfl, zq 79 (by decide +kernel) rfl, ⟨by decide, by decide⟩, by decide +kernel, by decide, by decide +kernel⟩
set_option maxRecDepth 20000 in
theorem v_Mo_lengths : Cond.instanceMethod m_Mo_lengths.1 ∈ ztbl := zq 1273 (by decide +kernel) rfl
set_option maxRecDepth 20000 in
theorem w_Mo_lengths : Cond.selects m_Mo_lengths.1.cls m_Mo_lengths.1 m_Mo_lengths.1 ∈ ztbl := zq 1274 (by decide +kernel) rfl
set_option maxRecDepth 20000 in
theorem i_Mo_tryWord : zMI m_Mo_tryWord 2 := ⟨zq 1296 (by decide +kernel) rfl, zq 79 (by decide +kernel) rfl, ⟨by decide, by decide⟩, by decide +kernel, by decide, by decide +kernel⟩
set_option maxRecDepth 20000 in
theorem v_Mo_tryWord : Cond.instanceMethod m_Mo_tryWord.1 ∈ ztbl := zq 1295 (by decide +kernel) rfl
set_option maxRecDepth 20000 in
theorem w_Mo_tryWord : Cond.selects m_Mo_tryWord.1.cls m_Mo_tryWord.1 m_Mo_tryWord.1 ∈ ztbl := zq 64 (by decide +kernel) rfl
set_option maxRecDepth 20000 in
theorem i_Mo_findShortest : zMI m_Mo_findShortest 0 := ⟨zq 1292 (by decide +kernel) rfl, zq 79 (by decide +kernel) rfl, ⟨by decide, by decide⟩, by decide +kernel, by decide, by decide +kernel⟩
set_option maxRecDepth 20000 in
theorem v_Mo_findShortest : Cond.instanceMethod m_Mo_findShortest.1 ∈ ztbl := zq 1291 (by decide +kernel) rfl
set_option maxRecDepth 20000 in
theorem w_Mo_findShortest : Cond.selects m_Mo_findShortest.1.cls m_Mo_findShortest.1 m_Mo_findShortest.1 ∈ ztbl := zq 63 (by decide +kernel) rfl
set_option maxRecDepth 20000 in
theorem i_Mo_shortest : zMI m_Mo_shortest 1 := ⟨zq 1287 (by decide +kernel) rfl, zq 79 (by decide +kernel) rfl, ⟨by decide, by decide⟩, by decide +kernel, by decide, by decide +kernel⟩
set_option maxRecDepth 20000 in
theorem v_Mo_shortest : Cond.instanceMethod m_Mo_shortest.1 ∈ ztbl := zq 1285 (by decide +kernel) rfl
set_option maxRecDepth 20000 in
theorem w_Mo_shortest : Cond.selects m_Mo_shortest.1.cls m_Mo_shortest.1 m_Mo_shortest.1 ∈ ztbl := zq 1286 (by decide +kernel) rfl
set_option maxRecDepth 20000 in
theorem i_Mo_passRow : zMI m_Mo_passRow 2 := ⟨zq 1308 (by decide +kernel) rfl, zq 79 (by decide +kernel) rfl, ⟨by decide, by decide⟩, by decide +kernel, by decide, by decide +kernel⟩
set_option maxRecDepth 20000 in
theorem v_Mo_passRow : Cond.instanceMethod m_Mo_passRow.1 ∈ ztbl := zq 1307 (by decide +kernel) rfl
set_option maxRecDepth 20000 in
theorem w_Mo_passRow : Cond.selects m_Mo_passRow.1.cls m_Mo_passRow.1 m_Mo_passRow.1 ∈ ztbl := zq 66 (by decide +kernel) rfl
set_option maxRecDepth 20000 in
theorem i_Mo_passAll : zMI m_Mo_passAll 0 := ⟨zq 1304 (by decide +kernel) rfl, zq 79 (by decide +kernel) rfl, ⟨by decide, by decide⟩, by decide +kernel, by decide, by decide +kernel⟩
set_option maxRecDepth 20000 in
theorem v_Mo_passAll : Cond.instanceMethod m_Mo_passAll.1 ∈ ztbl := zq 1303 (by decide +kernel) rfl
set_option maxRecDepth 20000 in
theorem w_Mo_passAll : Cond.selects m_Mo_passAll.1.cls m_Mo_passAll.1 m_Mo_passAll.1 ∈ ztbl := zq 65 (by decide +kernel) rfl
set_option maxRecDepth 20000 in
theorem i_Mo_image : zMI m_Mo_image 1 := ⟨zq 1300 (by decide +kernel) rfl, zq 79 (by decide +kernel) rfl, ⟨by decide, by decide⟩, by decide +kernel, by decide, by decide +kernel⟩
set_option maxRecDepth 20000 in
theorem v_Mo_image : Cond.instanceMethod m_Mo_image.1 ∈ ztbl := zq 1298 (by decide +kernel) rfl
set_option maxRecDepth 20000 in
theorem w_Mo_image : Cond.selects m_Mo_image.1.cls m_Mo_image.1 m_Mo_image.1 ∈ ztbl := zq 1299 (by decide +kernel) rfl
set_option maxRecDepth 20000 in
theorem i_Mo_restore : zMI m_Mo_restore 1 := ⟨zq 1312 (by decide +kernel) rfl, zq 79 (by decide +kernel) rfl, ⟨by decide, by decide⟩, by decide +kernel, by decide, by decide +kernel⟩
set_option maxRecDepth 20000 in
theorem v_Mo_restore : Cond.instanceMethod m_Mo_restore.1 ∈ ztbl := zq 1310 (by decide +kernel) rfl
set_option maxRecDepth 20000 in
theorem w_Mo_restore : Cond.selects m_Mo_restore.1.cls m_Mo_restore.1 m_Mo_restore.1 ∈ ztbl := zq 1311 (by decide +kernel) rfl
set_option maxRecDepth 20000 in
theorem i_Mo_told : zMI m_Mo_told 1 := ⟨zq 1316 (by decide +kernel) rfl, zq 79 (by decide +kernel) rfl, ⟨by decide, by decide⟩, by decide +kernel, by decide, by decide +kernel⟩
set_option maxRecDepth 20000 in
theorem v_Mo_told : Cond.instanceMethod m_Mo_told.1 ∈ ztbl := zq 1314 (by decide +kernel) rfl
set_option maxRecDepth 20000 in
theorem w_Mo_told : Cond.selects m_Mo_told.1.cls m_Mo_told.1 m_Mo_told.1 ∈ ztbl := zq 1315 (by decide +kernel) rfl
set_option maxRecDepth 20000 in
theorem i_Arr_fill : zMI m_Arr_fill 2 := ⟨zq 463 (by decide +kernel) rfl, zq 81 (by decide +kernel) rfl, ⟨by decide, by decide⟩, by decide +kernel, by decide, by decide +kernel⟩
set_option maxRecDepth 20000 in
theorem s_Arr_fill : Cond.static m_Arr_fill.1 ∈ ztbl := zq 462 (by decide +kernel) rfl
set_option maxRecDepth 20000 in
theorem f_H_14 : zFL "HeadSplits" 14 10 0 := ⟨zR_H, zT_H, 14, rfl, by decide, Or.inl (zq 321 (by decide +kernel) rfl)⟩
set_option maxRecDepth 20000 in
theorem p_H_14 : zPL m_H_init 14 10 0 (.object "HeadSplits$Row") := ⟨zR_H, zT_H, 14, rfl, by decide, by decide +kernel, Or.inl ⟨zq 321 (by decide +kernel) rfl, Or.inr ⟨rfl, rfl, rfl⟩⟩⟩
set_option maxRecDepth 20000 in
theorem f_H_21 : zFL "HeadSplits" 21 10 1 := ⟨zR_H, zT_H, 14, rfl, by decide, Or.inl (zq 322 (by decide +kernel) rfl)⟩
set_option maxRecDepth 20000 in
theorem p_H_21 : zPL m_H_init 21 10 1 (.object "HeadSplits$Book") := ⟨zR_H, zT_H, 14, rfl, by decide, by decide +kernel, Or.inl ⟨zq 322 (by decide +kernel) rfl, Or.inr ⟨rfl, rfl, rfl⟩⟩⟩
set_option maxRecDepth 20000 in
theorem f_H_25 : zFL "HeadSplits" 25 10 2 := ⟨zR_H, zT_H, 14, rfl, by decide, Or.inl (zq 323 (by decide +kernel) rfl)⟩
set_option maxRecDepth 20000 in
theorem p_H_25 : zPL m_H_init 25 10 2 (.object "HeadSplits$Book") := ⟨zR_H, zT_H, 14, rfl, by decide, by decide +kernel, Or.inl ⟨zq 323 (by decide +kernel) rfl, Or.inr ⟨rfl, rfl, rfl⟩⟩⟩
set_option maxRecDepth 20000 in
theorem f_H_28 : zFL "HeadSplits" 28 10 3 := ⟨zR_H, zT_H, 14, rfl, by decide, Or.inl (zq 324 (by decide +kernel) rfl)⟩
set_option maxRecDepth 20000 in
theorem p_H_28 : zPL m_H_init 28 10 3 (.object "HeadSplits$Book") := ⟨zR_H, zT_H, 14, rfl, by decide, by decide +kernel, Or.inl ⟨zq 324 (by decide +kernel) rfl, Or.inr ⟨rfl, rfl, rfl⟩⟩⟩
set_option maxRecDepth 20000 in
theorem f_H_33 : zFL "HeadSplits" 33 1 2 := ⟨zR_Book, zT_Book, 6, rfl, by decide, Or.inr ⟨"HeadSplits", zq 156 (by decide +kernel) rfl⟩⟩
set_option maxRecDepth 20000 in
theorem f_H_40 : zFL "HeadSplits" 40 10 4 := ⟨zR_H, zT_H, 14, rfl, by decide, Or.inl (zq 325 (by decide +kernel) rfl)⟩
set_option maxRecDepth 20000 in
theorem p_H_40 : zPL m_H_init 40 10 4 (.object "HeadSplits$Shorts") := ⟨zR_H, zT_H, 14, rfl, by decide, by decide +kernel, Or.inl ⟨zq 325 (by decide +kernel) rfl, Or.inr ⟨rfl, rfl, rfl⟩⟩⟩
set_option maxRecDepth 20000 in
theorem f_H_49 : zFL "HeadSplits" 49 10 5 := ⟨zR_H, zT_H, 14, rfl, by decide, Or.inl (zq 326 (by decide +kernel) rfl)⟩
set_option maxRecDepth 20000 in
theorem p_H_49 : zPL m_H_init 49 10 5 (.object "HeadSplits$Net") := ⟨zR_H, zT_H, 14, rfl, by decide, by decide +kernel, Or.inl ⟨zq 326 (by decide +kernel) rfl, Or.inr ⟨rfl, rfl, rfl⟩⟩⟩
set_option maxRecDepth 20000 in
theorem f_H_58 : zFL "HeadSplits" 58 10 6 := ⟨zR_H, zT_H, 14, rfl, by decide, Or.inl (zq 327 (by decide +kernel) rfl)⟩
set_option maxRecDepth 20000 in
theorem p_H_58 : zPL m_H_init 58 10 6 (.object "HeadSplits$Answer") := ⟨zR_H, zT_H, 14, rfl, by decide, by decide +kernel, Or.inl ⟨zq 327 (by decide +kernel) rfl, Or.inr ⟨rfl, rfl, rfl⟩⟩⟩
set_option maxRecDepth 20000 in
theorem f_H_65 : zFL "HeadSplits" 65 10 7 := ⟨zR_H, zT_H, 14, rfl, by decide, Or.inl (zq 328 (by decide +kernel) rfl)⟩
set_option maxRecDepth 20000 in
theorem p_H_65 : zPL m_H_init 65 10 7 (.object "HeadSplits$Trial") := ⟨zR_H, zT_H, 14, rfl, by decide, by decide +kernel, Or.inl ⟨zq 328 (by decide +kernel) rfl, Or.inr ⟨rfl, rfl, rfl⟩⟩⟩
set_option maxRecDepth 20000 in
theorem f_H_72 : zFL "HeadSplits" 72 10 8 := ⟨zR_H, zT_H, 14, rfl, by decide, Or.inl (zq 329 (by decide +kernel) rfl)⟩
set_option maxRecDepth 20000 in
theorem p_H_72 : zPL m_H_init 72 10 8 (.object "HeadSplits$Tally") := ⟨zR_H, zT_H, 14, rfl, by decide, by decide +kernel, Or.inl ⟨zq 329 (by decide +kernel) rfl, Or.inr ⟨rfl, rfl, rfl⟩⟩⟩
set_option maxRecDepth 20000 in
theorem f_H_76 : zFL "HeadSplits" 76 10 9 := ⟨zR_H, zT_H, 14, rfl, by decide, Or.inl (zq 330 (by decide +kernel) rfl)⟩
set_option maxRecDepth 20000 in
theorem p_H_76 : zPL m_H_init 76 10 9 (.object "HeadSplits$Row") := ⟨zR_H, zT_H, 14, rfl, by decide, by decide +kernel, Or.inl ⟨zq 330 (by decide +kernel) rfl, Or.inr ⟨rfl, rfl, rfl⟩⟩⟩
set_option maxRecDepth 20000 in
theorem f_H_79 : zFL "HeadSplits" 79 10 10 := ⟨zR_H, zT_H, 14, rfl, by decide, Or.inl (zq 331 (by decide +kernel) rfl)⟩
set_option maxRecDepth 20000 in
theorem p_H_79 : zPL m_H_init 79 10 10 (.object "HeadSplits$Row") := ⟨zR_H, zT_H, 14, rfl, by decide, by decide +kernel, Or.inl ⟨zq 331 (by decide +kernel) rfl, Or.inr ⟨rfl, rfl, rfl⟩⟩⟩
set_option maxRecDepth 20000 in
theorem f_H_82 : zFL "HeadSplits" 82 10 11 := ⟨zR_H, zT_H, 14, rfl, by decide, Or.inl (zq 332 (by decide +kernel) rfl)⟩
set_option maxRecDepth 20000 in
theorem p_H_82 : zPL m_H_init 82 10 11 (.object "HeadSplits$Row") := ⟨zR_H, zT_H, 14, rfl, by decide, by decide +kernel, Or.inl ⟨zq 332 (by decide +kernel) rfl, Or.inr ⟨rfl, rfl, rfl⟩⟩⟩
set_option maxRecDepth 20000 in
theorem f_H_105 : zFL "HeadSplits" 105 1 0 := ⟨zR_Book, zT_Book, 6, rfl, by decide, Or.inr ⟨"HeadSplits", zq 149 (by decide +kernel) rfl⟩⟩
set_option maxRecDepth 20000 in
theorem f_H_108 : zFL "HeadSplits" 108 1 1 := ⟨zR_Book, zT_Book, 6, rfl, by decide, Or.inr ⟨"HeadSplits", zq 154 (by decide +kernel) rfl⟩⟩
set_option maxRecDepth 20000 in
theorem f_H_135 : zFL "HeadSplits" 135 1 4 := ⟨zR_Book, zT_Book, 6, rfl, by decide, Or.inr ⟨"HeadSplits", zq 164 (by decide +kernel) rfl⟩⟩
set_option maxRecDepth 20000 in
theorem p_H_135 {mi : ZI} (h : "HeadSplits" = mi.1.cls) : zPL mi 135 1 4 (.int) := by
  have f1 : Cond.fieldLinkNest "HeadSplits" 135 zR_Book (zT_Book 4).2.1 (zT_Book 4).2.2.1 "HeadSplits" ∈ ztbl := zq 164 (by decide +kernel) rfl
  exact ⟨zR_Book, zT_Book, 6, rfl, by decide, by decide +kernel, Or.inr ⟨"HeadSplits", h ▸ f1, rfl⟩⟩
set_option maxRecDepth 20000 in
theorem f_H_174 : zFL "HeadSplits" 174 3 9 := ⟨zR_Net, zT_Net, 13, rfl, by decide, Or.inr ⟨"HeadSplits", zq 227 (by decide +kernel) rfl⟩⟩
set_option maxRecDepth 20000 in
theorem p_H_174 {mi : ZI} (h : "HeadSplits" = mi.1.cls) : zPL mi 174 3 9 (.int) := by
  have f1 : Cond.fieldLinkNest "HeadSplits" 174 zR_Net (zT_Net 9).2.1 (zT_Net 9).2.2.1 "HeadSplits" ∈ ztbl := zq 227 (by decide +kernel) rfl
  exact ⟨zR_Net, zT_Net, 13, rfl, by decide, by decide +kernel, Or.inr ⟨"HeadSplits", h ▸ f1, rfl⟩⟩
set_option maxRecDepth 20000 in
theorem f_H_179 : zFL "HeadSplits" 179 3 10 := ⟨zR_Net, zT_Net, 13, rfl, by decide, Or.inr ⟨"HeadSplits", zq 230 (by decide +kernel) rfl⟩⟩
set_option maxRecDepth 20000 in
theorem p_H_179 {mi : ZI} (h : "HeadSplits" = mi.1.cls) : zPL mi 179 3 10 (.int) := by
  have f1 : Cond.fieldLinkNest "HeadSplits" 179 zR_Net (zT_Net 10).2.1 (zT_Net 10).2.2.1 "HeadSplits" ∈ ztbl := zq 230 (by decide +kernel) rfl
  exact ⟨zR_Net, zT_Net, 13, rfl, by decide, by decide +kernel, Or.inr ⟨"HeadSplits", h ▸ f1, rfl⟩⟩
set_option maxRecDepth 20000 in
theorem f_H_182 : zFL "HeadSplits" 182 3 11 := ⟨zR_Net, zT_Net, 13, rfl, by decide, Or.inr ⟨"HeadSplits", zq 232 (by decide +kernel) rfl⟩⟩
set_option maxRecDepth 20000 in
theorem p_H_182 {mi : ZI} (h : "HeadSplits" = mi.1.cls) : zPL mi 182 3 11 (.int) := by
  have f1 : Cond.fieldLinkNest "HeadSplits" 182 zR_Net (zT_Net 11).2.1 (zT_Net 11).2.2.1 "HeadSplits" ∈ ztbl := zq 232 (by decide +kernel) rfl
  exact ⟨zR_Net, zT_Net, 13, rfl, by decide, by decide +kernel, Or.inr ⟨"HeadSplits", h ▸ f1, rfl⟩⟩
set_option maxRecDepth 20000 in
theorem f_H_185 : zFL "HeadSplits" 185 3 12 := ⟨zR_Net, zT_Net, 13, rfl, by decide, Or.inr ⟨"HeadSplits", zq 234 (by decide +kernel) rfl⟩⟩
set_option maxRecDepth 20000 in
theorem p_H_185 {mi : ZI} (h : "HeadSplits" = mi.1.cls) : zPL mi 185 3 12 (.int) := by
  have f1 : Cond.fieldLinkNest "HeadSplits" 185 zR_Net (zT_Net 12).2.1 (zT_Net 12).2.2.1 "HeadSplits" ∈ ztbl := zq 234 (by decide +kernel) rfl
  exact ⟨zR_Net, zT_Net, 13, rfl, by decide, by decide +kernel, Or.inr ⟨"HeadSplits", h ▸ f1, rfl⟩⟩
set_option maxRecDepth 20000 in
theorem f_H_192 : zFL "HeadSplits" 192 4 1 := ⟨zR_Node, zT_Node, 11, rfl, by decide, Or.inr ⟨"HeadSplits", zq 562 (by decide +kernel) rfl⟩⟩
set_option maxRecDepth 20000 in
theorem f_H_195 : zFL "HeadSplits" 195 4 2 := ⟨zR_Node, zT_Node, 11, rfl, by decide, Or.inr ⟨"HeadSplits", zq 566 (by decide +kernel) rfl⟩⟩
set_option maxRecDepth 20000 in
theorem f_H_196 : zFL "HeadSplits" 196 4 6 := ⟨zR_Node, zT_Node, 11, rfl, by decide, Or.inr ⟨"HeadSplits", zq 577 (by decide +kernel) rfl⟩⟩
set_option maxRecDepth 20000 in
theorem p_H_196 {mi : ZI} (h : "HeadSplits" = mi.1.cls) : zPL mi 196 4 6 (.int) := by
  have f1 : Cond.fieldLinkNest "HeadSplits" 196 zR_Node (zT_Node 6).2.1 (zT_Node 6).2.2.1 "HeadSplits" ∈ ztbl := zq 577 (by decide +kernel) rfl
  exact ⟨zR_Node, zT_Node, 11, rfl, by decide, by decide +kernel, Or.inr ⟨"HeadSplits", h ▸ f1, rfl⟩⟩
set_option maxRecDepth 20000 in
theorem f_H_199 : zFL "HeadSplits" 199 4 7 := ⟨zR_Node, zT_Node, 11, rfl, by decide, Or.inr ⟨"HeadSplits", zq 580 (by decide +kernel) rfl⟩⟩
set_option maxRecDepth 20000 in
theorem p_H_199 {mi : ZI} (h : "HeadSplits" = mi.1.cls) : zPL mi 199 4 7 (.int) := by
  have f1 : Cond.fieldLinkNest "HeadSplits" 199 zR_Node (zT_Node 7).2.1 (zT_Node 7).2.2.1 "HeadSplits" ∈ ztbl := zq 580 (by decide +kernel) rfl
  exact ⟨zR_Node, zT_Node, 11, rfl, by decide, by decide +kernel, Or.inr ⟨"HeadSplits", h ▸ f1, rfl⟩⟩
set_option maxRecDepth 20000 in
theorem f_H_202 : zFL "HeadSplits" 202 4 8 := ⟨zR_Node, zT_Node, 11, rfl, by decide, Or.inr ⟨"HeadSplits", zq 583 (by decide +kernel) rfl⟩⟩
set_option maxRecDepth 20000 in
theorem p_H_202 {mi : ZI} (h : "HeadSplits" = mi.1.cls) : zPL mi 202 4 8 (.int) := by
  have f1 : Cond.fieldLinkNest "HeadSplits" 202 zR_Node (zT_Node 8).2.1 (zT_Node 8).2.2.1 "HeadSplits" ∈ ztbl := zq 583 (by decide +kernel) rfl
  exact ⟨zR_Node, zT_Node, 11, rfl, by decide, by decide +kernel, Or.inr ⟨"HeadSplits", h ▸ f1, rfl⟩⟩
set_option maxRecDepth 20000 in
theorem f_H_205 : zFL "HeadSplits" 205 4 3 := ⟨zR_Node, zT_Node, 11, rfl, by decide, Or.inr ⟨"HeadSplits", zq 568 (by decide +kernel) rfl⟩⟩
set_option maxRecDepth 20000 in
theorem f_H_208 : zFL "HeadSplits" 208 4 10 := ⟨zR_Node, zT_Node, 11, rfl, by decide, Or.inr ⟨"HeadSplits", zq 587 (by decide +kernel) rfl⟩⟩
set_option maxRecDepth 20000 in
theorem p_H_208 {mi : ZI} (h : "HeadSplits" = mi.1.cls) : zPL mi 208 4 10 (.boolean) := by
  have f1 : Cond.fieldLinkNest "HeadSplits" 208 zR_Node (zT_Node 10).2.1 (zT_Node 10).2.2.1 "HeadSplits" ∈ ztbl := zq 587 (by decide +kernel) rfl
  exact ⟨zR_Node, zT_Node, 11, rfl, by decide, by decide +kernel, Or.inr ⟨"HeadSplits", h ▸ f1, rfl⟩⟩
set_option maxRecDepth 20000 in
theorem f_H_214 : zFL "HeadSplits" 214 4 5 := ⟨zR_Node, zT_Node, 11, rfl, by decide, Or.inr ⟨"HeadSplits", zq 574 (by decide +kernel) rfl⟩⟩
set_option maxRecDepth 20000 in
theorem p_H_214 {mi : ZI} (h : "HeadSplits" = mi.1.cls) : zPL mi 214 4 5 (.int) := by
  have f1 : Cond.fieldLinkNest "HeadSplits" 214 zR_Node (zT_Node 5).2.1 (zT_Node 5).2.2.1 "HeadSplits" ∈ ztbl := zq 574 (by decide +kernel) rfl
  exact ⟨zR_Node, zT_Node, 11, rfl, by decide, by decide +kernel, Or.inr ⟨"HeadSplits", h ▸ f1, rfl⟩⟩
set_option maxRecDepth 20000 in
theorem f_H_215 : zFL "HeadSplits" 215 4 4 := ⟨zR_Node, zT_Node, 11, rfl, by decide, Or.inr ⟨"HeadSplits", zq 570 (by decide +kernel) rfl⟩⟩
set_option maxRecDepth 20000 in
theorem f_H_218 : zFL "HeadSplits" 218 0 3 := ⟨zR_Answer, zT_Answer, 4, rfl, by decide, Or.inr ⟨"HeadSplits", zq 275 (by decide +kernel) rfl⟩⟩
set_option maxRecDepth 20000 in
theorem p_H_218 {mi : ZI} (h : "HeadSplits" = mi.1.cls) : zPL mi 218 0 3 (.boolean) := by
  have f1 : Cond.fieldLinkNest "HeadSplits" 218 zR_Answer (zT_Answer 3).2.1 (zT_Answer 3).2.2.1 "HeadSplits" ∈ ztbl := zq 275 (by decide +kernel) rfl
  exact ⟨zR_Answer, zT_Answer, 4, rfl, by decide, by decide +kernel, Or.inr ⟨"HeadSplits", h ▸ f1, rfl⟩⟩
set_option maxRecDepth 20000 in
theorem f_H_221 : zFL "HeadSplits" 221 0 2 := ⟨zR_Answer, zT_Answer, 4, rfl, by decide, Or.inr ⟨"HeadSplits", zq 273 (by decide +kernel) rfl⟩⟩
set_option maxRecDepth 20000 in
theorem f_H_231 : zFL "HeadSplits" 231 1 3 := ⟨zR_Book, zT_Book, 6, rfl, by decide, Or.inr ⟨"HeadSplits", zq 160 (by decide +kernel) rfl⟩⟩
set_option maxRecDepth 20000 in
theorem f_H_256 : zFL "HeadSplits" 256 10 13 := ⟨zR_H, zT_H, 14, rfl, by decide, Or.inl (zq 334 (by decide +kernel) rfl)⟩
set_option maxRecDepth 20000 in
theorem p_H_256 {mi : ZI} (h : "HeadSplits" = mi.1.cls) : zPL mi 256 10 13 (.boolean) := by
  have f1 : Cond.fieldLink "HeadSplits" 256 zR_H (zT_H 13).2.1 (zT_H 13).2.2.1 ∈ ztbl := zq 334 (by decide +kernel) rfl
  exact ⟨zR_H, zT_H, 14, rfl, by decide, by decide +kernel, Or.inl ⟨h ▸ f1, Or.inl rfl⟩⟩
set_option maxRecDepth 20000 in
theorem f_H_263 : zFL "HeadSplits" 263 8 4 := ⟨zR_Trial, zT_Trial, 5, rfl, by decide, Or.inr ⟨"HeadSplits", zq 296 (by decide +kernel) rfl⟩⟩
set_option maxRecDepth 20000 in
theorem p_H_263 {mi : ZI} (h : "HeadSplits" = mi.1.cls) : zPL mi 263 8 4 (.int) := by
  have f1 : Cond.fieldLinkNest "HeadSplits" 263 zR_Trial (zT_Trial 4).2.1 (zT_Trial 4).2.2.1 "HeadSplits" ∈ ztbl := zq 296 (by decide +kernel) rfl
  exact ⟨zR_Trial, zT_Trial, 5, rfl, by decide, by decide +kernel, Or.inr ⟨"HeadSplits", h ▸ f1, rfl⟩⟩
set_option maxRecDepth 20000 in
theorem f_H_270 : zFL "HeadSplits" 270 1 5 := ⟨zR_Book, zT_Book, 6, rfl, by decide, Or.inr ⟨"HeadSplits", zq 165 (by decide +kernel) rfl⟩⟩
set_option maxRecDepth 20000 in
theorem p_H_270 {mi : ZI} (h : "HeadSplits" = mi.1.cls) : zPL mi 270 1 5 (.boolean) := by
  have f1 : Cond.fieldLinkNest "HeadSplits" 270 zR_Book (zT_Book 5).2.1 (zT_Book 5).2.2.1 "HeadSplits" ∈ ztbl := zq 165 (by decide +kernel) rfl
  exact ⟨zR_Book, zT_Book, 6, rfl, by decide, by decide +kernel, Or.inr ⟨"HeadSplits", h ▸ f1, rfl⟩⟩
set_option maxRecDepth 20000 in
theorem f_H_276 : zFL "HeadSplits" 276 10 12 := ⟨zR_H, zT_H, 14, rfl, by decide, Or.inl (zq 333 (by decide +kernel) rfl)⟩
set_option maxRecDepth 20000 in
theorem p_H_276 {mi : ZI} (h : "HeadSplits" = mi.1.cls) : zPL mi 276 10 12 (.boolean) := by
  have f1 : Cond.fieldLink "HeadSplits" 276 zR_H (zT_H 12).2.1 (zT_H 12).2.2.1 ∈ ztbl := zq 333 (by decide +kernel) rfl
  exact ⟨zR_H, zT_H, 14, rfl, by decide, by decide +kernel, Or.inl ⟨h ▸ f1, Or.inl rfl⟩⟩
set_option maxRecDepth 20000 in
theorem f_Answer_14 : zFL "HeadSplits$Answer" 14 0 2 := ⟨zR_Answer, zT_Answer, 4, rfl, by decide, Or.inl (zq 272 (by decide +kernel) rfl)⟩
set_option maxRecDepth 20000 in
theorem p_Answer_14 : zPL m_Answer_init 14 0 2 (.object "HeadSplits$Words") := ⟨zR_Answer, zT_Answer, 4, rfl, by decide, by decide +kernel, Or.inl ⟨zq 272 (by decide +kernel) rfl, Or.inr ⟨rfl, rfl, rfl⟩⟩⟩
set_option maxRecDepth 20000 in
theorem f_Answer_20 : zFL "HeadSplits$Answer" 20 0 0 := ⟨zR_Answer, zT_Answer, 4, rfl, by decide, Or.inl (zq 270 (by decide +kernel) rfl)⟩
set_option maxRecDepth 20000 in
theorem p_Answer_20 : zPL m_Answer_init 20 0 0 (.object "HeadSplits$Net") := ⟨zR_Answer, zT_Answer, 4, rfl, by decide, by decide +kernel, Or.inl ⟨zq 270 (by decide +kernel) rfl, Or.inr ⟨rfl, rfl, rfl⟩⟩⟩
set_option maxRecDepth 20000 in
theorem f_Answer_24 : zFL "HeadSplits$Answer" 24 0 1 := ⟨zR_Answer, zT_Answer, 4, rfl, by decide, Or.inl (zq 271 (by decide +kernel) rfl)⟩
set_option maxRecDepth 20000 in
theorem p_Answer_24 : zPL m_Answer_init 24 0 1 (.object "HeadSplits$Shorts") := ⟨zR_Answer, zT_Answer, 4, rfl, by decide, by decide +kernel, Or.inl ⟨zq 271 (by decide +kernel) rfl, Or.inr ⟨rfl, rfl, rfl⟩⟩⟩
set_option maxRecDepth 20000 in
theorem f_Answer_28 : zFL "HeadSplits$Answer" 28 0 3 := ⟨zR_Answer, zT_Answer, 4, rfl, by decide, Or.inl (zq 274 (by decide +kernel) rfl)⟩
set_option maxRecDepth 20000 in
theorem p_Answer_28 {mi : ZI} (h : "HeadSplits$Answer" = mi.1.cls) : zPL mi 28 0 3 (.boolean) := by
  have f1 : Cond.fieldLink "HeadSplits$Answer" 28 zR_Answer (zT_Answer 3).2.1 (zT_Answer 3).2.2.1 ∈ ztbl := zq 274 (by decide +kernel) rfl
  exact ⟨zR_Answer, zT_Answer, 4, rfl, by decide, by decide +kernel, Or.inl ⟨h ▸ f1, Or.inl rfl⟩⟩
set_option maxRecDepth 20000 in
theorem f_Answer_32 : zFL "HeadSplits$Answer" 32 3 10 := ⟨zR_Net, zT_Net, 13, rfl, by decide, Or.inr ⟨"HeadSplits", zq 228 (by decide +kernel) rfl⟩⟩
set_option maxRecDepth 20000 in
theorem p_Answer_32 {mi : ZI} (h : "HeadSplits$Answer" = mi.1.cls) : zPL mi 32 3 10 (.int) := by
  have f1 : Cond.fieldLinkNest "HeadSplits$Answer" 32 zR_Net (zT_Net 10).2.1 (zT_Net 10).2.2.1 "HeadSplits" ∈ ztbl := zq 228 (by decide +kernel) rfl
  exact ⟨zR_Net, zT_Net, 13, rfl, by decide, by decide +kernel, Or.inr ⟨"HeadSplits", h ▸ f1, rfl⟩⟩
set_option maxRecDepth 20000 in
theorem f_Answer_42 : zFL "HeadSplits$Answer" 42 4 5 := ⟨zR_Node, zT_Node, 11, rfl, by decide, Or.inr ⟨"HeadSplits", zq 572 (by decide +kernel) rfl⟩⟩
set_option maxRecDepth 20000 in
theorem p_Answer_42 {mi : ZI} (h : "HeadSplits$Answer" = mi.1.cls) : zPL mi 42 4 5 (.int) := by
  have f1 : Cond.fieldLinkNest "HeadSplits$Answer" 42 zR_Node (zT_Node 5).2.1 (zT_Node 5).2.2.1 "HeadSplits" ∈ ztbl := zq 572 (by decide +kernel) rfl
  exact ⟨zR_Node, zT_Node, 11, rfl, by decide, by decide +kernel, Or.inr ⟨"HeadSplits", h ▸ f1, rfl⟩⟩
set_option maxRecDepth 20000 in
theorem f_Answer_67 : zFL "HeadSplits$Answer" 67 4 7 := ⟨zR_Node, zT_Node, 11, rfl, by decide, Or.inr ⟨"HeadSplits", zq 579 (by decide +kernel) rfl⟩⟩
set_option maxRecDepth 20000 in
theorem p_Answer_67 {mi : ZI} (h : "HeadSplits$Answer" = mi.1.cls) : zPL mi 67 4 7 (.int) := by
  have f1 : Cond.fieldLinkNest "HeadSplits$Answer" 67 zR_Node (zT_Node 7).2.1 (zT_Node 7).2.2.1 "HeadSplits" ∈ ztbl := zq 579 (by decide +kernel) rfl
  exact ⟨zR_Node, zT_Node, 11, rfl, by decide, by decide +kernel, Or.inr ⟨"HeadSplits", h ▸ f1, rfl⟩⟩
set_option maxRecDepth 20000 in
theorem f_Answer_70 : zFL "HeadSplits$Answer" 70 4 8 := ⟨zR_Node, zT_Node, 11, rfl, by decide, Or.inr ⟨"HeadSplits", zq 582 (by decide +kernel) rfl⟩⟩
set_option maxRecDepth 20000 in
theorem p_Answer_70 {mi : ZI} (h : "HeadSplits$Answer" = mi.1.cls) : zPL mi 70 4 8 (.int) := by
  have f1 : Cond.fieldLinkNest "HeadSplits$Answer" 70 zR_Node (zT_Node 8).2.1 (zT_Node 8).2.2.1 "HeadSplits" ∈ ztbl := zq 582 (by decide +kernel) rfl
  exact ⟨zR_Node, zT_Node, 11, rfl, by decide, by decide +kernel, Or.inr ⟨"HeadSplits", h ▸ f1, rfl⟩⟩
set_option maxRecDepth 20000 in
theorem f_Answer_82 : zFL "HeadSplits$Answer" 82 4 1 := ⟨zR_Node, zT_Node, 11, rfl, by decide, Or.inr ⟨"HeadSplits", zq 560 (by decide +kernel) rfl⟩⟩
set_option maxRecDepth 20000 in
theorem f_Answer_88 : zFL "HeadSplits$Answer" 88 4 2 := ⟨zR_Node, zT_Node, 11, rfl, by decide, Or.inr ⟨"HeadSplits", zq 564 (by decide +kernel) rfl⟩⟩
set_option maxRecDepth 20000 in
theorem f_Book_14 : zFL "HeadSplits$Book" 14 1 0 := ⟨zR_Book, zT_Book, 6, rfl, by decide, Or.inl (zq 145 (by decide +kernel) rfl)⟩
set_option maxRecDepth 20000 in
theorem p_Book_14 : zPL m_Book_init 14 1 0 (.object "HeadSplits$Row") := ⟨zR_Book, zT_Book, 6, rfl, by decide, by decide +kernel, Or.inl ⟨zq 145 (by decide +kernel) rfl, Or.inr ⟨rfl, rfl, rfl⟩⟩⟩
set_option maxRecDepth 20000 in
theorem f_Book_20 : zFL "HeadSplits$Book" 20 1 1 := ⟨zR_Book, zT_Book, 6, rfl, by decide, Or.inl (zq 150 (by decide +kernel) rfl)⟩
set_option maxRecDepth 20000 in
theorem p_Book_20 : zPL m_Book_init 20 1 1 (.object "HeadSplits$Row") := ⟨zR_Book, zT_Book, 6, rfl, by decide, by decide +kernel, Or.inl ⟨zq 150 (by decide +kernel) rfl, Or.inr ⟨rfl, rfl, rfl⟩⟩⟩
set_option maxRecDepth 20000 in
theorem f_Book_26 : zFL "HeadSplits$Book" 26 1 2 := ⟨zR_Book, zT_Book, 6, rfl, by decide, Or.inl (zq 155 (by decide +kernel) rfl)⟩
set_option maxRecDepth 20000 in
theorem p_Book_26 : zPL m_Book_init 26 1 2 (.object "HeadSplits$Machine") := ⟨zR_Book, zT_Book, 6, rfl, by decide, by decide +kernel, Or.inl ⟨zq 155 (by decide +kernel) rfl, Or.inr ⟨rfl, rfl, rfl⟩⟩⟩
set_option maxRecDepth 20000 in
theorem f_Book_33 : zFL "HeadSplits$Book" 33 1 3 := ⟨zR_Book, zT_Book, 6, rfl, by decide, Or.inl (zq 159 (by decide +kernel) rfl)⟩
set_option maxRecDepth 20000 in
theorem p_Book_33 : zPL m_Book_init 33 1 3 (.object "HeadSplits$Words") := ⟨zR_Book, zT_Book, 6, rfl, by decide, by decide +kernel, Or.inl ⟨zq 159 (by decide +kernel) rfl, Or.inr ⟨rfl, rfl, rfl⟩⟩⟩
set_option maxRecDepth 20000 in
theorem f_Book_40 : zFL "HeadSplits$Book" 40 1 4 := ⟨zR_Book, zT_Book, 6, rfl, by decide, Or.inl (zq 161 (by decide +kernel) rfl)⟩
set_option maxRecDepth 20000 in
theorem p_Book_40 {mi : ZI} (h : "HeadSplits$Book" = mi.1.cls) : zPL mi 40 1 4 (.int) := by
  have f1 : Cond.fieldLink "HeadSplits$Book" 40 zR_Book (zT_Book 4).2.1 (zT_Book 4).2.2.1 ∈ ztbl := zq 161 (by decide +kernel) rfl
  exact ⟨zR_Book, zT_Book, 6, rfl, by decide, by decide +kernel, Or.inl ⟨h ▸ f1, Or.inl rfl⟩⟩
set_option maxRecDepth 20000 in
theorem f_Machine_9 : zFL "HeadSplits$Machine" 9 2 0 := ⟨zR_Machine, zT_Machine, 1, rfl, by decide, Or.inl (zq 122 (by decide +kernel) rfl)⟩
set_option maxRecDepth 20000 in
theorem p_Machine_9 : zPL m_Machine_init 9 2 0 (.array .int) := ⟨zR_Machine, zT_Machine, 1, rfl, by decide, by decide +kernel, Or.inl ⟨zq 122 (by decide +kernel) rfl, Or.inr ⟨rfl, rfl, rfl⟩⟩⟩
set_option maxRecDepth 20000 in
theorem f_Net_11 : zFL "HeadSplits$Net" 11 3 2 := ⟨zR_Net, zT_Net, 13, rfl, by decide, Or.inl (zq 219 (by decide +kernel) rfl)⟩
set_option maxRecDepth 20000 in
theorem p_Net_11 : zPL m_Net_init 11 3 2 (.array (.object "HeadSplits$Node")) := ⟨zR_Net, zT_Net, 13, rfl, by decide, by decide +kernel, Or.inl ⟨zq 219 (by decide +kernel) rfl, Or.inr ⟨rfl, rfl, rfl⟩⟩⟩
set_option maxRecDepth 20000 in
theorem f_Net_17 : zFL "HeadSplits$Net" 17 3 3 := ⟨zR_Net, zT_Net, 13, rfl, by decide, Or.inl (zq 220 (by decide +kernel) rfl)⟩
set_option maxRecDepth 20000 in
theorem p_Net_17 : zPL m_Net_init 17 3 3 (.array .int) := ⟨zR_Net, zT_Net, 13, rfl, by decide, by decide +kernel, Or.inl ⟨zq 220 (by decide +kernel) rfl, Or.inr ⟨rfl, rfl, rfl⟩⟩⟩
set_option maxRecDepth 20000 in
theorem f_Net_26 : zFL "HeadSplits$Net" 26 3 4 := ⟨zR_Net, zT_Net, 13, rfl, by decide, Or.inl (zq 221 (by decide +kernel) rfl)⟩
set_option maxRecDepth 20000 in
theorem p_Net_26 : zPL m_Net_init 26 3 4 (.object "HeadSplits$Row") := ⟨zR_Net, zT_Net, 13, rfl, by decide, by decide +kernel, Or.inl ⟨zq 221 (by decide +kernel) rfl, Or.inr ⟨rfl, rfl, rfl⟩⟩⟩
set_option maxRecDepth 20000 in
theorem f_Net_30 : zFL "HeadSplits$Net" 30 3 5 := ⟨zR_Net, zT_Net, 13, rfl, by decide, Or.inl (zq 222 (by decide +kernel) rfl)⟩
set_option maxRecDepth 20000 in
theorem p_Net_30 : zPL m_Net_init 30 3 5 (.object "HeadSplits$Row") := ⟨zR_Net, zT_Net, 13, rfl, by decide, by decide +kernel, Or.inl ⟨zq 222 (by decide +kernel) rfl, Or.inr ⟨rfl, rfl, rfl⟩⟩⟩
set_option maxRecDepth 20000 in
theorem f_Net_33 : zFL "HeadSplits$Net" 33 3 6 := ⟨zR_Net, zT_Net, 13, rfl, by decide, Or.inl (zq 223 (by decide +kernel) rfl)⟩
set_option maxRecDepth 20000 in
theorem p_Net_33 : zPL m_Net_init 33 3 6 (.object "HeadSplits$Row") := ⟨zR_Net, zT_Net, 13, rfl, by decide, by decide +kernel, Or.inl ⟨zq 223 (by decide +kernel) rfl, Or.inr ⟨rfl, rfl, rfl⟩⟩⟩
set_option maxRecDepth 20000 in
theorem f_Net_36 : zFL "HeadSplits$Net" 36 3 7 := ⟨zR_Net, zT_Net, 13, rfl, by decide, Or.inl (zq 224 (by decide +kernel) rfl)⟩
set_option maxRecDepth 20000 in
theorem p_Net_36 : zPL m_Net_init 36 3 7 (.object "HeadSplits$Row") := ⟨zR_Net, zT_Net, 13, rfl, by decide, by decide +kernel, Or.inl ⟨zq 224 (by decide +kernel) rfl, Or.inr ⟨rfl, rfl, rfl⟩⟩⟩
set_option maxRecDepth 20000 in
theorem f_Net_39 : zFL "HeadSplits$Net" 39 3 0 := ⟨zR_Net, zT_Net, 13, rfl, by decide, Or.inl (zq 217 (by decide +kernel) rfl)⟩
set_option maxRecDepth 20000 in
theorem p_Net_39 : zPL m_Net_init 39 3 0 (.object "HeadSplits$Book") := ⟨zR_Net, zT_Net, 13, rfl, by decide, by decide +kernel, Or.inl ⟨zq 217 (by decide +kernel) rfl, Or.inr ⟨rfl, rfl, rfl⟩⟩⟩
set_option maxRecDepth 20000 in
theorem f_Net_43 : zFL "HeadSplits$Net" 43 3 1 := ⟨zR_Net, zT_Net, 13, rfl, by decide, Or.inl (zq 218 (by decide +kernel) rfl)⟩
set_option maxRecDepth 20000 in
theorem p_Net_43 : zPL m_Net_init 43 3 1 (.object "HeadSplits$Shorts") := ⟨zR_Net, zT_Net, 13, rfl, by decide, by decide +kernel, Or.inl ⟨zq 218 (by decide +kernel) rfl, Or.inr ⟨rfl, rfl, rfl⟩⟩⟩
set_option maxRecDepth 20000 in
theorem f_Net_47 : zFL "HeadSplits$Net" 47 3 9 := ⟨zR_Net, zT_Net, 13, rfl, by decide, Or.inl (zq 226 (by decide +kernel) rfl)⟩
set_option maxRecDepth 20000 in
theorem p_Net_47 {mi : ZI} (h : "HeadSplits$Net" = mi.1.cls) : zPL mi 47 3 9 (.int) := by
  have f1 : Cond.fieldLink "HeadSplits$Net" 47 zR_Net (zT_Net 9).2.1 (zT_Net 9).2.2.1 ∈ ztbl := zq 226 (by decide +kernel) rfl
  exact ⟨zR_Net, zT_Net, 13, rfl, by decide, by decide +kernel, Or.inl ⟨h ▸ f1, Or.inl rfl⟩⟩
set_option maxRecDepth 20000 in
theorem f_Net_51 : zFL "HeadSplits$Net" 51 3 10 := ⟨zR_Net, zT_Net, 13, rfl, by decide, Or.inl (zq 229 (by decide +kernel) rfl)⟩
set_option maxRecDepth 20000 in
theorem p_Net_51 {mi : ZI} (h : "HeadSplits$Net" = mi.1.cls) : zPL mi 51 3 10 (.int) := by
  have f1 : Cond.fieldLink "HeadSplits$Net" 51 zR_Net (zT_Net 10).2.1 (zT_Net 10).2.2.1 ∈ ztbl := zq 229 (by decide +kernel) rfl
  exact ⟨zR_Net, zT_Net, 13, rfl, by decide, by decide +kernel, Or.inl ⟨h ▸ f1, Or.inl rfl⟩⟩
set_option maxRecDepth 20000 in
theorem f_Net_54 : zFL "HeadSplits$Net" 54 3 12 := ⟨zR_Net, zT_Net, 13, rfl, by decide, Or.inl (zq 233 (by decide +kernel) rfl)⟩
set_option maxRecDepth 20000 in
theorem p_Net_54 {mi : ZI} (h : "HeadSplits$Net" = mi.1.cls) : zPL mi 54 3 12 (.int) := by
  have f1 : Cond.fieldLink "HeadSplits$Net" 54 zR_Net (zT_Net 12).2.1 (zT_Net 12).2.2.1 ∈ ztbl := zq 233 (by decide +kernel) rfl
  exact ⟨zR_Net, zT_Net, 13, rfl, by decide, by decide +kernel, Or.inl ⟨h ▸ f1, Or.inl rfl⟩⟩
set_option maxRecDepth 20000 in
theorem f_Net_57 : zFL "HeadSplits$Net" 57 3 11 := ⟨zR_Net, zT_Net, 13, rfl, by decide, Or.inl (zq 231 (by decide +kernel) rfl)⟩
set_option maxRecDepth 20000 in
theorem p_Net_57 {mi : ZI} (h : "HeadSplits$Net" = mi.1.cls) : zPL mi 57 3 11 (.int) := by
  have f1 : Cond.fieldLink "HeadSplits$Net" 57 zR_Net (zT_Net 11).2.1 (zT_Net 11).2.2.1 ∈ ztbl := zq 231 (by decide +kernel) rfl
  exact ⟨zR_Net, zT_Net, 13, rfl, by decide, by decide +kernel, Or.inl ⟨h ▸ f1, Or.inl rfl⟩⟩
set_option maxRecDepth 20000 in
theorem f_Net_66 : zFL "HeadSplits$Net" 66 1 0 := ⟨zR_Book, zT_Book, 6, rfl, by decide, Or.inr ⟨"HeadSplits", zq 148 (by decide +kernel) rfl⟩⟩
set_option maxRecDepth 20000 in
theorem f_Net_73 : zFL "HeadSplits$Net" 73 1 1 := ⟨zR_Book, zT_Book, 6, rfl, by decide, Or.inr ⟨"HeadSplits", zq 153 (by decide +kernel) rfl⟩⟩
set_option maxRecDepth 20000 in
theorem f_Net_77 : zFL "HeadSplits$Net" 77 1 4 := ⟨zR_Book, zT_Book, 6, rfl, by decide, Or.inr ⟨"HeadSplits", zq 163 (by decide +kernel) rfl⟩⟩
set_option maxRecDepth 20000 in
theorem p_Net_77 {mi : ZI} (h : "HeadSplits$Net" = mi.1.cls) : zPL mi 77 1 4 (.int) := by
  have f1 : Cond.fieldLinkNest "HeadSplits$Net" 77 zR_Book (zT_Book 4).2.1 (zT_Book 4).2.2.1 "HeadSplits" ∈ ztbl := zq 163 (by decide +kernel) rfl
  exact ⟨zR_Book, zT_Book, 6, rfl, by decide, by decide +kernel, Or.inr ⟨"HeadSplits", h ▸ f1, rfl⟩⟩
set_option maxRecDepth 20000 in
theorem f_Net_87 : zFL "HeadSplits$Net" 87 4 6 := ⟨zR_Node, zT_Node, 11, rfl, by decide, Or.inr ⟨"HeadSplits", zq 576 (by decide +kernel) rfl⟩⟩
set_option maxRecDepth 20000 in
theorem p_Net_87 {mi : ZI} (h : "HeadSplits$Net" = mi.1.cls) : zPL mi 87 4 6 (.int) := by
  have f1 : Cond.fieldLinkNest "HeadSplits$Net" 87 zR_Node (zT_Node 6).2.1 (zT_Node 6).2.2.1 "HeadSplits" ∈ ztbl := zq 576 (by decide +kernel) rfl
  exact ⟨zR_Node, zT_Node, 11, rfl, by decide, by decide +kernel, Or.inr ⟨"HeadSplits", h ▸ f1, rfl⟩⟩
set_option maxRecDepth 20000 in
theorem f_Net_96 : zFL "HeadSplits$Net" 96 4 1 := ⟨zR_Node, zT_Node, 11, rfl, by decide, Or.inr ⟨"HeadSplits", zq 561 (by decide +kernel) rfl⟩⟩
set_option maxRecDepth 20000 in
theorem f_Net_100 : zFL "HeadSplits$Net" 100 4 2 := ⟨zR_Node, zT_Node, 11, rfl, by decide, Or.inr ⟨"HeadSplits", zq 565 (by decide +kernel) rfl⟩⟩
set_option maxRecDepth 20000 in
theorem f_Net_101 : zFL "HeadSplits$Net" 101 4 5 := ⟨zR_Node, zT_Node, 11, rfl, by decide, Or.inr ⟨"HeadSplits", zq 573 (by decide +kernel) rfl⟩⟩
set_option maxRecDepth 20000 in
theorem p_Net_101 {mi : ZI} (h : "HeadSplits$Net" = mi.1.cls) : zPL mi 101 4 5 (.int) := by
  have f1 : Cond.fieldLinkNest "HeadSplits$Net" 101 zR_Node (zT_Node 5).2.1 (zT_Node 5).2.2.1 "HeadSplits" ∈ ztbl := zq 573 (by decide +kernel) rfl
  exact ⟨zR_Node, zT_Node, 11, rfl, by decide, by decide +kernel, Or.inr ⟨"HeadSplits", h ▸ f1, rfl⟩⟩
set_option maxRecDepth 20000 in
theorem f_Net_108 : zFL "HeadSplits$Net" 108 4 0 := ⟨zR_Node, zT_Node, 11, rfl, by decide, Or.inr ⟨"HeadSplits", zq 558 (by decide +kernel) rfl⟩⟩
set_option maxRecDepth 20000 in
theorem f_Net_123 : zFL "HeadSplits$Net" 123 4 10 := ⟨zR_Node, zT_Node, 11, rfl, by decide, Or.inr ⟨"HeadSplits", zq 586 (by decide +kernel) rfl⟩⟩
set_option maxRecDepth 20000 in
theorem p_Net_123 {mi : ZI} (h : "HeadSplits$Net" = mi.1.cls) : zPL mi 123 4 10 (.boolean) := by
  have f1 : Cond.fieldLinkNest "HeadSplits$Net" 123 zR_Node (zT_Node 10).2.1 (zT_Node 10).2.2.1 "HeadSplits" ∈ ztbl := zq 586 (by decide +kernel) rfl
  exact ⟨zR_Node, zT_Node, 11, rfl, by decide, by decide +kernel, Or.inr ⟨"HeadSplits", h ▸ f1, rfl⟩⟩
set_option maxRecDepth 20000 in
theorem f_Net_159 : zFL "HeadSplits$Net" 159 1 2 := ⟨zR_Book, zT_Book, 6, rfl, by decide, Or.inr ⟨"HeadSplits", zq 158 (by decide +kernel) rfl⟩⟩
set_option maxRecDepth 20000 in
theorem f_Net_190 : zFL "HeadSplits$Net" 190 3 8 := ⟨zR_Net, zT_Net, 13, rfl, by decide, Or.inl (zq 225 (by decide +kernel) rfl)⟩
set_option maxRecDepth 20000 in
theorem p_Net_190 {mi : ZI} (h : "HeadSplits$Net" = mi.1.cls) : zPL mi 190 3 8 (.int) := by
  have f1 : Cond.fieldLink "HeadSplits$Net" 190 zR_Net (zT_Net 8).2.1 (zT_Net 8).2.2.1 ∈ ztbl := zq 225 (by decide +kernel) rfl
  exact ⟨zR_Net, zT_Net, 13, rfl, by decide, by decide +kernel, Or.inl ⟨h ▸ f1, Or.inl rfl⟩⟩
set_option maxRecDepth 20000 in
theorem f_Net_212 : zFL "HeadSplits$Net" 212 4 9 := ⟨zR_Node, zT_Node, 11, rfl, by decide, Or.inr ⟨"HeadSplits", zq 584 (by decide +kernel) rfl⟩⟩
set_option maxRecDepth 20000 in
theorem p_Net_212 {mi : ZI} (h : "HeadSplits$Net" = mi.1.cls) : zPL mi 212 4 9 (.int) := by
  have f1 : Cond.fieldLinkNest "HeadSplits$Net" 212 zR_Node (zT_Node 9).2.1 (zT_Node 9).2.2.1 "HeadSplits" ∈ ztbl := zq 584 (by decide +kernel) rfl
  exact ⟨zR_Node, zT_Node, 11, rfl, by decide, by decide +kernel, Or.inr ⟨"HeadSplits", h ▸ f1, rfl⟩⟩
set_option maxRecDepth 20000 in
theorem f_Node_14 : zFL "HeadSplits$Node" 14 4 1 := ⟨zR_Node, zT_Node, 11, rfl, by decide, Or.inl (zq 559 (by decide +kernel) rfl)⟩
set_option maxRecDepth 20000 in
theorem p_Node_14 : zPL m_Node_init 14 4 1 (.object "HeadSplits$Row") := ⟨zR_Node, zT_Node, 11, rfl, by decide, by decide +kernel, Or.inl ⟨zq 559 (by decide +kernel) rfl, Or.inr ⟨rfl, rfl, rfl⟩⟩⟩
set_option maxRecDepth 20000 in
theorem f_Node_20 : zFL "HeadSplits$Node" 20 4 2 := ⟨zR_Node, zT_Node, 11, rfl, by decide, Or.inl (zq 563 (by decide +kernel) rfl)⟩
set_option maxRecDepth 20000 in
theorem p_Node_20 : zPL m_Node_init 20 4 2 (.object "HeadSplits$Row") := ⟨zR_Node, zT_Node, 11, rfl, by decide, by decide +kernel, Or.inl ⟨zq 563 (by decide +kernel) rfl, Or.inr ⟨rfl, rfl, rfl⟩⟩⟩
set_option maxRecDepth 20000 in
theorem f_Node_23 : zFL "HeadSplits$Node" 23 4 3 := ⟨zR_Node, zT_Node, 11, rfl, by decide, Or.inl (zq 567 (by decide +kernel) rfl)⟩
set_option maxRecDepth 20000 in
theorem p_Node_23 : zPL m_Node_init 23 4 3 (.object "HeadSplits$Row") := ⟨zR_Node, zT_Node, 11, rfl, by decide, by decide +kernel, Or.inl ⟨zq 567 (by decide +kernel) rfl, Or.inr ⟨rfl, rfl, rfl⟩⟩⟩
set_option maxRecDepth 20000 in
theorem f_Node_26 : zFL "HeadSplits$Node" 26 4 4 := ⟨zR_Node, zT_Node, 11, rfl, by decide, Or.inl (zq 569 (by decide +kernel) rfl)⟩
set_option maxRecDepth 20000 in
theorem p_Node_26 : zPL m_Node_init 26 4 4 (.object "HeadSplits$Row") := ⟨zR_Node, zT_Node, 11, rfl, by decide, by decide +kernel, Or.inl ⟨zq 569 (by decide +kernel) rfl, Or.inr ⟨rfl, rfl, rfl⟩⟩⟩
set_option maxRecDepth 20000 in
theorem f_Node_29 : zFL "HeadSplits$Node" 29 4 0 := ⟨zR_Node, zT_Node, 11, rfl, by decide, Or.inl (zq 557 (by decide +kernel) rfl)⟩
set_option maxRecDepth 20000 in
theorem p_Node_29 : zPL m_Node_init 29 4 0 (.int) := ⟨zR_Node, zT_Node, 11, rfl, by decide, by decide +kernel, Or.inl ⟨zq 557 (by decide +kernel) rfl, Or.inr ⟨rfl, rfl, rfl⟩⟩⟩
set_option maxRecDepth 20000 in
theorem f_Node_40 : zFL "HeadSplits$Node" 40 4 5 := ⟨zR_Node, zT_Node, 11, rfl, by decide, Or.inl (zq 571 (by decide +kernel) rfl)⟩
set_option maxRecDepth 20000 in
theorem p_Node_40 {mi : ZI} (h : "HeadSplits$Node" = mi.1.cls) : zPL mi 40 4 5 (.int) := by
  have f1 : Cond.fieldLink "HeadSplits$Node" 40 zR_Node (zT_Node 5).2.1 (zT_Node 5).2.2.1 ∈ ztbl := zq 571 (by decide +kernel) rfl
  exact ⟨zR_Node, zT_Node, 11, rfl, by decide, by decide +kernel, Or.inl ⟨h ▸ f1, Or.inl rfl⟩⟩
set_option maxRecDepth 20000 in
theorem f_Node_43 : zFL "HeadSplits$Node" 43 4 6 := ⟨zR_Node, zT_Node, 11, rfl, by decide, Or.inl (zq 575 (by decide +kernel) rfl)⟩
set_option maxRecDepth 20000 in
theorem p_Node_43 {mi : ZI} (h : "HeadSplits$Node" = mi.1.cls) : zPL mi 43 4 6 (.int) := by
  have f1 : Cond.fieldLink "HeadSplits$Node" 43 zR_Node (zT_Node 6).2.1 (zT_Node 6).2.2.1 ∈ ztbl := zq 575 (by decide +kernel) rfl
  exact ⟨zR_Node, zT_Node, 11, rfl, by decide, by decide +kernel, Or.inl ⟨h ▸ f1, Or.inl rfl⟩⟩
set_option maxRecDepth 20000 in
theorem f_Node_46 : zFL "HeadSplits$Node" 46 4 7 := ⟨zR_Node, zT_Node, 11, rfl, by decide, Or.inl (zq 578 (by decide +kernel) rfl)⟩
set_option maxRecDepth 20000 in
theorem p_Node_46 {mi : ZI} (h : "HeadSplits$Node" = mi.1.cls) : zPL mi 46 4 7 (.int) := by
  have f1 : Cond.fieldLink "HeadSplits$Node" 46 zR_Node (zT_Node 7).2.1 (zT_Node 7).2.2.1 ∈ ztbl := zq 578 (by decide +kernel) rfl
  exact ⟨zR_Node, zT_Node, 11, rfl, by decide, by decide +kernel, Or.inl ⟨h ▸ f1, Or.inl rfl⟩⟩
set_option maxRecDepth 20000 in
theorem f_Node_49 : zFL "HeadSplits$Node" 49 4 8 := ⟨zR_Node, zT_Node, 11, rfl, by decide, Or.inl (zq 581 (by decide +kernel) rfl)⟩
set_option maxRecDepth 20000 in
theorem p_Node_49 {mi : ZI} (h : "HeadSplits$Node" = mi.1.cls) : zPL mi 49 4 8 (.int) := by
  have f1 : Cond.fieldLink "HeadSplits$Node" 49 zR_Node (zT_Node 8).2.1 (zT_Node 8).2.2.1 ∈ ztbl := zq 581 (by decide +kernel) rfl
  exact ⟨zR_Node, zT_Node, 11, rfl, by decide, by decide +kernel, Or.inl ⟨h ▸ f1, Or.inl rfl⟩⟩
set_option maxRecDepth 20000 in
theorem f_Node_52 : zFL "HeadSplits$Node" 52 4 10 := ⟨zR_Node, zT_Node, 11, rfl, by decide, Or.inl (zq 585 (by decide +kernel) rfl)⟩
set_option maxRecDepth 20000 in
theorem p_Node_52 {mi : ZI} (h : "HeadSplits$Node" = mi.1.cls) : zPL mi 52 4 10 (.boolean) := by
  have f1 : Cond.fieldLink "HeadSplits$Node" 52 zR_Node (zT_Node 10).2.1 (zT_Node 10).2.2.1 ∈ ztbl := zq 585 (by decide +kernel) rfl
  exact ⟨zR_Node, zT_Node, 11, rfl, by decide, by decide +kernel, Or.inl ⟨h ▸ f1, Or.inl rfl⟩⟩
set_option maxRecDepth 20000 in
theorem f_Row_15 : zFL "HeadSplits$Row" 15 5 0 := ⟨zR_Row, zT_Row, 2, rfl, by decide, Or.inl (zq 100 (by decide +kernel) rfl)⟩
set_option maxRecDepth 20000 in
theorem p_Row_15 : zPL m_Row_init 15 5 0 (.array .int) := ⟨zR_Row, zT_Row, 2, rfl, by decide, by decide +kernel, Or.inl ⟨zq 100 (by decide +kernel) rfl, Or.inr ⟨rfl, rfl, rfl⟩⟩⟩
set_option maxRecDepth 20000 in
theorem f_Row_21 : zFL "HeadSplits$Row" 21 5 1 := ⟨zR_Row, zT_Row, 2, rfl, by decide, Or.inl (zq 101 (by decide +kernel) rfl)⟩
set_option maxRecDepth 20000 in
theorem p_Row_21 {mi : ZI} (h : "HeadSplits$Row" = mi.1.cls) : zPL mi 21 5 1 (.int) := by
  have f1 : Cond.fieldLink "HeadSplits$Row" 21 zR_Row (zT_Row 1).2.1 (zT_Row 1).2.2.1 ∈ ztbl := zq 101 (by decide +kernel) rfl
  exact ⟨zR_Row, zT_Row, 2, rfl, by decide, by decide +kernel, Or.inl ⟨h ▸ f1, Or.inl rfl⟩⟩
set_option maxRecDepth 20000 in
theorem f_Shorts_11 : zFL "HeadSplits$Shorts" 11 6 1 := ⟨zR_Shorts, zT_Shorts, 7, rfl, by decide, Or.inl (zq 186 (by decide +kernel) rfl)⟩
set_option maxRecDepth 20000 in
theorem p_Shorts_11 : zPL m_Shorts_init 11 6 1 (.array .int) := ⟨zR_Shorts, zT_Shorts, 7, rfl, by decide, by decide +kernel, Or.inl ⟨zq 186 (by decide +kernel) rfl, Or.inr ⟨rfl, rfl, rfl⟩⟩⟩
set_option maxRecDepth 20000 in
theorem f_Shorts_15 : zFL "HeadSplits$Shorts" 15 6 2 := ⟨zR_Shorts, zT_Shorts, 7, rfl, by decide, Or.inl (zq 187 (by decide +kernel) rfl)⟩
set_option maxRecDepth 20000 in
theorem p_Shorts_15 : zPL m_Shorts_init 15 6 2 (.array .int) := ⟨zR_Shorts, zT_Shorts, 7, rfl, by decide, by decide +kernel, Or.inl ⟨zq 187 (by decide +kernel) rfl, Or.inr ⟨rfl, rfl, rfl⟩⟩⟩
set_option maxRecDepth 20000 in
theorem f_Shorts_18 : zFL "HeadSplits$Shorts" 18 6 3 := ⟨zR_Shorts, zT_Shorts, 7, rfl, by decide, Or.inl (zq 188 (by decide +kernel) rfl)⟩
set_option maxRecDepth 20000 in
theorem p_Shorts_18 : zPL m_Shorts_init 18 6 3 (.array .int) := ⟨zR_Shorts, zT_Shorts, 7, rfl, by decide, by decide +kernel, Or.inl ⟨zq 188 (by decide +kernel) rfl, Or.inr ⟨rfl, rfl, rfl⟩⟩⟩
set_option maxRecDepth 20000 in
theorem f_Shorts_23 : zFL "HeadSplits$Shorts" 23 6 4 := ⟨zR_Shorts, zT_Shorts, 7, rfl, by decide, Or.inl (zq 189 (by decide +kernel) rfl)⟩
set_option maxRecDepth 20000 in
theorem p_Shorts_23 : zPL m_Shorts_init 23 6 4 (.array .int) := ⟨zR_Shorts, zT_Shorts, 7, rfl, by decide, by decide +kernel, Or.inl ⟨zq 189 (by decide +kernel) rfl, Or.inr ⟨rfl, rfl, rfl⟩⟩⟩
set_option maxRecDepth 20000 in
theorem f_Shorts_26 : zFL "HeadSplits$Shorts" 26 6 0 := ⟨zR_Shorts, zT_Shorts, 7, rfl, by decide, Or.inl (zq 185 (by decide +kernel) rfl)⟩
set_option maxRecDepth 20000 in
theorem p_Shorts_26 : zPL m_Shorts_init 26 6 0 (.object "HeadSplits$Machine") := ⟨zR_Shorts, zT_Shorts, 7, rfl, by decide, by decide +kernel, Or.inl ⟨zq 185 (by decide +kernel) rfl, Or.inr ⟨rfl, rfl, rfl⟩⟩⟩
set_option maxRecDepth 20000 in
theorem f_Shorts_30 : zFL "HeadSplits$Shorts" 30 6 6 := ⟨zR_Shorts, zT_Shorts, 7, rfl, by decide, Or.inl (zq 191 (by decide +kernel) rfl)⟩
set_option maxRecDepth 20000 in
theorem p_Shorts_30 {mi : ZI} (h : "HeadSplits$Shorts" = mi.1.cls) : zPL mi 30 6 6 (.boolean) := by
  have f1 : Cond.fieldLink "HeadSplits$Shorts" 30 zR_Shorts (zT_Shorts 6).2.1 (zT_Shorts 6).2.2.1 ∈ ztbl := zq 191 (by decide +kernel) rfl
  exact ⟨zR_Shorts, zT_Shorts, 7, rfl, by decide, by decide +kernel, Or.inl ⟨h ▸ f1, Or.inl rfl⟩⟩
set_option maxRecDepth 20000 in
theorem f_Shorts_40 : zFL "HeadSplits$Shorts" 40 6 5 := ⟨zR_Shorts, zT_Shorts, 7, rfl, by decide, Or.inl (zq 190 (by decide +kernel) rfl)⟩
set_option maxRecDepth 20000 in
theorem p_Shorts_40 {mi : ZI} (h : "HeadSplits$Shorts" = mi.1.cls) : zPL mi 40 6 5 (.int) := by
  have f1 : Cond.fieldLink "HeadSplits$Shorts" 40 zR_Shorts (zT_Shorts 5).2.1 (zT_Shorts 5).2.2.1 ∈ ztbl := zq 190 (by decide +kernel) rfl
  exact ⟨zR_Shorts, zT_Shorts, 7, rfl, by decide, by decide +kernel, Or.inl ⟨h ▸ f1, Or.inl rfl⟩⟩
set_option maxRecDepth 20000 in
theorem f_Tally_9 : zFL "HeadSplits$Tally" 9 7 0 := ⟨zR_Tally, zT_Tally, 2, rfl, by decide, Or.inl (zq 314 (by decide +kernel) rfl)⟩
set_option maxRecDepth 20000 in
theorem p_Tally_9 : zPL m_Tally_init 9 7 0 (.array .int) := ⟨zR_Tally, zT_Tally, 2, rfl, by decide, by decide +kernel, Or.inl ⟨zq 314 (by decide +kernel) rfl, Or.inr ⟨rfl, rfl, rfl⟩⟩⟩
set_option maxRecDepth 20000 in
theorem f_Tally_15 : zFL "HeadSplits$Tally" 15 7 1 := ⟨zR_Tally, zT_Tally, 2, rfl, by decide, Or.inl (zq 315 (by decide +kernel) rfl)⟩
set_option maxRecDepth 20000 in
theorem p_Tally_15 : zPL m_Tally_init 15 7 1 (.array .int) := ⟨zR_Tally, zT_Tally, 2, rfl, by decide, by decide +kernel, Or.inl ⟨zq 315 (by decide +kernel) rfl, Or.inr ⟨rfl, rfl, rfl⟩⟩⟩
set_option maxRecDepth 20000 in
theorem f_Tally_24 : zFL "HeadSplits$Tally" 24 1 0 := ⟨zR_Book, zT_Book, 6, rfl, by decide, Or.inr ⟨"HeadSplits", zq 146 (by decide +kernel) rfl⟩⟩
set_option maxRecDepth 20000 in
theorem f_Tally_34 : zFL "HeadSplits$Tally" 34 1 1 := ⟨zR_Book, zT_Book, 6, rfl, by decide, Or.inr ⟨"HeadSplits", zq 151 (by decide +kernel) rfl⟩⟩
set_option maxRecDepth 20000 in
theorem f_Trial_11 : zFL "HeadSplits$Trial" 11 8 0 := ⟨zR_Trial, zT_Trial, 5, rfl, by decide, Or.inl (zq 291 (by decide +kernel) rfl)⟩
set_option maxRecDepth 20000 in
theorem p_Trial_11 : zPL m_Trial_init 11 8 0 (.array .int) := ⟨zR_Trial, zT_Trial, 5, rfl, by decide, by decide +kernel, Or.inl ⟨zq 291 (by decide +kernel) rfl, Or.inr ⟨rfl, rfl, rfl⟩⟩⟩
set_option maxRecDepth 20000 in
theorem f_Trial_15 : zFL "HeadSplits$Trial" 15 8 1 := ⟨zR_Trial, zT_Trial, 5, rfl, by decide, Or.inl (zq 292 (by decide +kernel) rfl)⟩
set_option maxRecDepth 20000 in
theorem p_Trial_15 : zPL m_Trial_init 15 8 1 (.array .int) := ⟨zR_Trial, zT_Trial, 5, rfl, by decide, by decide +kernel, Or.inl ⟨zq 292 (by decide +kernel) rfl, Or.inr ⟨rfl, rfl, rfl⟩⟩⟩
set_option maxRecDepth 20000 in
theorem f_Trial_18 : zFL "HeadSplits$Trial" 18 8 2 := ⟨zR_Trial, zT_Trial, 5, rfl, by decide, Or.inl (zq 293 (by decide +kernel) rfl)⟩
set_option maxRecDepth 20000 in
theorem p_Trial_18 : zPL m_Trial_init 18 8 2 (.array .int) := ⟨zR_Trial, zT_Trial, 5, rfl, by decide, by decide +kernel, Or.inl ⟨zq 293 (by decide +kernel) rfl, Or.inr ⟨rfl, rfl, rfl⟩⟩⟩
set_option maxRecDepth 20000 in
theorem f_Trial_21 : zFL "HeadSplits$Trial" 21 8 3 := ⟨zR_Trial, zT_Trial, 5, rfl, by decide, Or.inl (zq 294 (by decide +kernel) rfl)⟩
set_option maxRecDepth 20000 in
theorem p_Trial_21 : zPL m_Trial_init 21 8 3 (.array .int) := ⟨zR_Trial, zT_Trial, 5, rfl, by decide, by decide +kernel, Or.inl ⟨zq 294 (by decide +kernel) rfl, Or.inr ⟨rfl, rfl, rfl⟩⟩⟩
set_option maxRecDepth 20000 in
theorem f_Trial_24 : zFL "HeadSplits$Trial" 24 1 2 := ⟨zR_Book, zT_Book, 6, rfl, by decide, Or.inr ⟨"HeadSplits", zq 157 (by decide +kernel) rfl⟩⟩
set_option maxRecDepth 20000 in
theorem f_Trial_34 : zFL "HeadSplits$Trial" 34 1 4 := ⟨zR_Book, zT_Book, 6, rfl, by decide, Or.inr ⟨"HeadSplits", zq 162 (by decide +kernel) rfl⟩⟩
set_option maxRecDepth 20000 in
theorem p_Trial_34 {mi : ZI} (h : "HeadSplits$Trial" = mi.1.cls) : zPL mi 34 1 4 (.int) := by
  have f1 : Cond.fieldLinkNest "HeadSplits$Trial" 34 zR_Book (zT_Book 4).2.1 (zT_Book 4).2.2.1 "HeadSplits" ∈ ztbl := zq 162 (by decide +kernel) rfl
  exact ⟨zR_Book, zT_Book, 6, rfl, by decide, by decide +kernel, Or.inr ⟨"HeadSplits", h ▸ f1, rfl⟩⟩
set_option maxRecDepth 20000 in
theorem f_Trial_52 : zFL "HeadSplits$Trial" 52 8 4 := ⟨zR_Trial, zT_Trial, 5, rfl, by decide, Or.inl (zq 295 (by decide +kernel) rfl)⟩
set_option maxRecDepth 20000 in
theorem p_Trial_52 {mi : ZI} (h : "HeadSplits$Trial" = mi.1.cls) : zPL mi 52 8 4 (.int) := by
  have f1 : Cond.fieldLink "HeadSplits$Trial" 52 zR_Trial (zT_Trial 4).2.1 (zT_Trial 4).2.2.1 ∈ ztbl := zq 295 (by decide +kernel) rfl
  exact ⟨zR_Trial, zT_Trial, 5, rfl, by decide, by decide +kernel, Or.inl ⟨h ▸ f1, Or.inl rfl⟩⟩
set_option maxRecDepth 20000 in
theorem f_Trial_75 : zFL "HeadSplits$Trial" 75 1 0 := ⟨zR_Book, zT_Book, 6, rfl, by decide, Or.inr ⟨"HeadSplits", zq 147 (by decide +kernel) rfl⟩⟩
set_option maxRecDepth 20000 in
theorem f_Trial_83 : zFL "HeadSplits$Trial" 83 1 1 := ⟨zR_Book, zT_Book, 6, rfl, by decide, Or.inr ⟨"HeadSplits", zq 152 (by decide +kernel) rfl⟩⟩
set_option maxRecDepth 20000 in
theorem f_Words_14 : zFL "HeadSplits$Words" 14 9 0 := ⟨zR_Words, zT_Words, 3, rfl, by decide, Or.inl (zq 134 (by decide +kernel) rfl)⟩
set_option maxRecDepth 20000 in
theorem p_Words_14 : zPL m_Words_init 14 9 0 (.object "HeadSplits$Row") := ⟨zR_Words, zT_Words, 3, rfl, by decide, by decide +kernel, Or.inl ⟨zq 134 (by decide +kernel) rfl, Or.inr ⟨rfl, rfl, rfl⟩⟩⟩
set_option maxRecDepth 20000 in
theorem f_Words_20 : zFL "HeadSplits$Words" 20 9 1 := ⟨zR_Words, zT_Words, 3, rfl, by decide, Or.inl (zq 135 (by decide +kernel) rfl)⟩
set_option maxRecDepth 20000 in
theorem p_Words_20 : zPL m_Words_init 20 9 1 (.object "HeadSplits$Row") := ⟨zR_Words, zT_Words, 3, rfl, by decide, by decide +kernel, Or.inl ⟨zq 135 (by decide +kernel) rfl, Or.inr ⟨rfl, rfl, rfl⟩⟩⟩
set_option maxRecDepth 20000 in
theorem f_Words_23 : zFL "HeadSplits$Words" 23 9 2 := ⟨zR_Words, zT_Words, 3, rfl, by decide, Or.inl (zq 136 (by decide +kernel) rfl)⟩
set_option maxRecDepth 20000 in
theorem p_Words_23 : zPL m_Words_init 23 9 2 (.object "HeadSplits$Row") := ⟨zR_Words, zT_Words, 3, rfl, by decide, by decide +kernel, Or.inl ⟨zq 136 (by decide +kernel) rfl, Or.inr ⟨rfl, rfl, rfl⟩⟩⟩
set_option maxRecDepth 20000 in
theorem f_Mo_7 : zFL "HeadSplitsModel" 7 11 0 := ⟨zR_Mo, zT_Mo, 43, rfl, by decide, Or.inl (zq 908 (by decide +kernel) rfl)⟩
set_option maxRecDepth 20000 in
theorem p_Mo_7 : zPL m_Mo_init 7 11 0 (.array .int) := ⟨zR_Mo, zT_Mo, 43, rfl, by decide, by decide +kernel, Or.inl ⟨zq 908 (by decide +kernel) rfl, Or.inr ⟨rfl, rfl, rfl⟩⟩⟩
set_option maxRecDepth 20000 in
theorem f_Mo_13 : zFL "HeadSplitsModel" 13 11 1 := ⟨zR_Mo, zT_Mo, 43, rfl, by decide, Or.inl (zq 909 (by decide +kernel) rfl)⟩
set_option maxRecDepth 20000 in
theorem p_Mo_13 : zPL m_Mo_init 13 11 1 (.array .int) := ⟨zR_Mo, zT_Mo, 43, rfl, by decide, by decide +kernel, Or.inl ⟨zq 909 (by decide +kernel) rfl, Or.inr ⟨rfl, rfl, rfl⟩⟩⟩
set_option maxRecDepth 20000 in
theorem f_Mo_16 : zFL "HeadSplitsModel" 16 11 2 := ⟨zR_Mo, zT_Mo, 43, rfl, by decide, Or.inl (zq 910 (by decide +kernel) rfl)⟩
set_option maxRecDepth 20000 in
theorem p_Mo_16 : zPL m_Mo_init 16 11 2 (.array .int) := ⟨zR_Mo, zT_Mo, 43, rfl, by decide, by decide +kernel, Or.inl ⟨zq 910 (by decide +kernel) rfl, Or.inr ⟨rfl, rfl, rfl⟩⟩⟩
set_option maxRecDepth 20000 in
theorem f_Mo_19 : zFL "HeadSplitsModel" 19 11 3 := ⟨zR_Mo, zT_Mo, 43, rfl, by decide, Or.inl (zq 911 (by decide +kernel) rfl)⟩
set_option maxRecDepth 20000 in
theorem p_Mo_19 : zPL m_Mo_init 19 11 3 (.array .int) := ⟨zR_Mo, zT_Mo, 43, rfl, by decide, by decide +kernel, Or.inl ⟨zq 911 (by decide +kernel) rfl, Or.inr ⟨rfl, rfl, rfl⟩⟩⟩
set_option maxRecDepth 20000 in
theorem f_Mo_22 : zFL "HeadSplitsModel" 22 11 4 := ⟨zR_Mo, zT_Mo, 43, rfl, by decide, Or.inl (zq 912 (by decide +kernel) rfl)⟩
set_option maxRecDepth 20000 in
theorem p_Mo_22 : zPL m_Mo_init 22 11 4 (.array .int) := ⟨zR_Mo, zT_Mo, 43, rfl, by decide, by decide +kernel, Or.inl ⟨zq 912 (by decide +kernel) rfl, Or.inr ⟨rfl, rfl, rfl⟩⟩⟩
set_option maxRecDepth 20000 in
theorem f_Mo_25 : zFL "HeadSplitsModel" 25 11 5 := ⟨zR_Mo, zT_Mo, 43, rfl, by decide, Or.inl (zq 913 (by decide +kernel) rfl)⟩
set_option maxRecDepth 20000 in
theorem p_Mo_25 : zPL m_Mo_init 25 11 5 (.array .int) := ⟨zR_Mo, zT_Mo, 43, rfl, by decide, by decide +kernel, Or.inl ⟨zq 913 (by decide +kernel) rfl, Or.inr ⟨rfl, rfl, rfl⟩⟩⟩
set_option maxRecDepth 20000 in
theorem f_Mo_28 : zFL "HeadSplitsModel" 28 11 6 := ⟨zR_Mo, zT_Mo, 43, rfl, by decide, Or.inl (zq 914 (by decide +kernel) rfl)⟩
set_option maxRecDepth 20000 in
theorem p_Mo_28 : zPL m_Mo_init 28 11 6 (.array .int) := ⟨zR_Mo, zT_Mo, 43, rfl, by decide, by decide +kernel, Or.inl ⟨zq 914 (by decide +kernel) rfl, Or.inr ⟨rfl, rfl, rfl⟩⟩⟩
set_option maxRecDepth 20000 in
theorem f_Mo_31 : zFL "HeadSplitsModel" 31 11 8 := ⟨zR_Mo, zT_Mo, 43, rfl, by decide, Or.inl (zq 916 (by decide +kernel) rfl)⟩
set_option maxRecDepth 20000 in
theorem p_Mo_31 : zPL m_Mo_init 31 11 8 (.array .int) := ⟨zR_Mo, zT_Mo, 43, rfl, by decide, by decide +kernel, Or.inl ⟨zq 916 (by decide +kernel) rfl, Or.inr ⟨rfl, rfl, rfl⟩⟩⟩
set_option maxRecDepth 20000 in
theorem f_Mo_34 : zFL "HeadSplitsModel" 34 11 9 := ⟨zR_Mo, zT_Mo, 43, rfl, by decide, Or.inl (zq 917 (by decide +kernel) rfl)⟩
set_option maxRecDepth 20000 in
theorem p_Mo_34 : zPL m_Mo_init 34 11 9 (.array .int) := ⟨zR_Mo, zT_Mo, 43, rfl, by decide, by decide +kernel, Or.inl ⟨zq 917 (by decide +kernel) rfl, Or.inr ⟨rfl, rfl, rfl⟩⟩⟩
set_option maxRecDepth 20000 in
theorem f_Mo_37 : zFL "HeadSplitsModel" 37 11 10 := ⟨zR_Mo, zT_Mo, 43, rfl, by decide, Or.inl (zq 918 (by decide +kernel) rfl)⟩
set_option maxRecDepth 20000 in
theorem p_Mo_37 : zPL m_Mo_init 37 11 10 (.array .int) := ⟨zR_Mo, zT_Mo, 43, rfl, by decide, by decide +kernel, Or.inl ⟨zq 918 (by decide +kernel) rfl, Or.inr ⟨rfl, rfl, rfl⟩⟩⟩
set_option maxRecDepth 20000 in
theorem f_Mo_40 : zFL "HeadSplitsModel" 40 11 11 := ⟨zR_Mo, zT_Mo, 43, rfl, by decide, Or.inl (zq 919 (by decide +kernel) rfl)⟩
set_option maxRecDepth 20000 in
theorem p_Mo_40 : zPL m_Mo_init 40 11 11 (.array .int) := ⟨zR_Mo, zT_Mo, 43, rfl, by decide, by decide +kernel, Or.inl ⟨zq 919 (by decide +kernel) rfl, Or.inr ⟨rfl, rfl, rfl⟩⟩⟩
set_option maxRecDepth 20000 in
theorem f_Mo_43 : zFL "HeadSplitsModel" 43 11 12 := ⟨zR_Mo, zT_Mo, 43, rfl, by decide, Or.inl (zq 920 (by decide +kernel) rfl)⟩
set_option maxRecDepth 20000 in
theorem p_Mo_43 : zPL m_Mo_init 43 11 12 (.array .int) := ⟨zR_Mo, zT_Mo, 43, rfl, by decide, by decide +kernel, Or.inl ⟨zq 920 (by decide +kernel) rfl, Or.inr ⟨rfl, rfl, rfl⟩⟩⟩
set_option maxRecDepth 20000 in
theorem f_Mo_46 : zFL "HeadSplitsModel" 46 11 14 := ⟨zR_Mo, zT_Mo, 43, rfl, by decide, Or.inl (zq 922 (by decide +kernel) rfl)⟩
set_option maxRecDepth 20000 in
theorem p_Mo_46 : zPL m_Mo_init 46 11 14 (.array .int) := ⟨zR_Mo, zT_Mo, 43, rfl, by decide, by decide +kernel, Or.inl ⟨zq 922 (by decide +kernel) rfl, Or.inr ⟨rfl, rfl, rfl⟩⟩⟩
set_option maxRecDepth 20000 in
theorem f_Mo_49 : zFL "HeadSplitsModel" 49 11 15 := ⟨zR_Mo, zT_Mo, 43, rfl, by decide, Or.inl (zq 923 (by decide +kernel) rfl)⟩
set_option maxRecDepth 20000 in
theorem p_Mo_49 : zPL m_Mo_init 49 11 15 (.array .int) := ⟨zR_Mo, zT_Mo, 43, rfl, by decide, by decide +kernel, Or.inl ⟨zq 923 (by decide +kernel) rfl, Or.inr ⟨rfl, rfl, rfl⟩⟩⟩
set_option maxRecDepth 20000 in
theorem f_Mo_52 : zFL "HeadSplitsModel" 52 11 16 := ⟨zR_Mo, zT_Mo, 43, rfl, by decide, Or.inl (zq 924 (by decide +kernel) rfl)⟩
set_option maxRecDepth 20000 in
theorem p_Mo_52 : zPL m_Mo_init 52 11 16 (.array .int) := ⟨zR_Mo, zT_Mo, 43, rfl, by decide, by decide +kernel, Or.inl ⟨zq 924 (by decide +kernel) rfl, Or.inr ⟨rfl, rfl, rfl⟩⟩⟩
set_option maxRecDepth 20000 in
theorem f_Mo_55 : zFL "HeadSplitsModel" 55 11 17 := ⟨zR_Mo, zT_Mo, 43, rfl, by decide, Or.inl (zq 925 (by decide +kernel) rfl)⟩
set_option maxRecDepth 20000 in
theorem p_Mo_55 : zPL m_Mo_init 55 11 17 (.array .int) := ⟨zR_Mo, zT_Mo, 43, rfl, by decide, by decide +kernel, Or.inl ⟨zq 925 (by decide +kernel) rfl, Or.inr ⟨rfl, rfl, rfl⟩⟩⟩
set_option maxRecDepth 20000 in
theorem f_Mo_58 : zFL "HeadSplitsModel" 58 11 18 := ⟨zR_Mo, zT_Mo, 43, rfl, by decide, Or.inl (zq 926 (by decide +kernel) rfl)⟩
set_option maxRecDepth 20000 in
theorem p_Mo_58 : zPL m_Mo_init 58 11 18 (.array .int) := ⟨zR_Mo, zT_Mo, 43, rfl, by decide, by decide +kernel, Or.inl ⟨zq 926 (by decide +kernel) rfl, Or.inr ⟨rfl, rfl, rfl⟩⟩⟩
set_option maxRecDepth 20000 in
theorem f_Mo_61 : zFL "HeadSplitsModel" 61 11 19 := ⟨zR_Mo, zT_Mo, 43, rfl, by decide, Or.inl (zq 927 (by decide +kernel) rfl)⟩
set_option maxRecDepth 20000 in
theorem p_Mo_61 : zPL m_Mo_init 61 11 19 (.array .int) := ⟨zR_Mo, zT_Mo, 43, rfl, by decide, by decide +kernel, Or.inl ⟨zq 927 (by decide +kernel) rfl, Or.inr ⟨rfl, rfl, rfl⟩⟩⟩
set_option maxRecDepth 20000 in
theorem f_Mo_64 : zFL "HeadSplitsModel" 64 11 20 := ⟨zR_Mo, zT_Mo, 43, rfl, by decide, Or.inl (zq 928 (by decide +kernel) rfl)⟩
set_option maxRecDepth 20000 in
theorem p_Mo_64 : zPL m_Mo_init 64 11 20 (.array .boolean) := ⟨zR_Mo, zT_Mo, 43, rfl, by decide, by decide +kernel, Or.inl ⟨zq 928 (by decide +kernel) rfl, Or.inr ⟨rfl, rfl, rfl⟩⟩⟩
set_option maxRecDepth 20000 in
theorem f_Mo_68 : zFL "HeadSplitsModel" 68 11 23 := ⟨zR_Mo, zT_Mo, 43, rfl, by decide, Or.inl (zq 931 (by decide +kernel) rfl)⟩
set_option maxRecDepth 20000 in
theorem p_Mo_68 : zPL m_Mo_init 68 11 23 (.array .int) := ⟨zR_Mo, zT_Mo, 43, rfl, by decide, by decide +kernel, Or.inl ⟨zq 931 (by decide +kernel) rfl, Or.inr ⟨rfl, rfl, rfl⟩⟩⟩
set_option maxRecDepth 20000 in
theorem f_Mo_71 : zFL "HeadSplitsModel" 71 11 24 := ⟨zR_Mo, zT_Mo, 43, rfl, by decide, Or.inl (zq 932 (by decide +kernel) rfl)⟩
set_option maxRecDepth 20000 in
theorem p_Mo_71 : zPL m_Mo_init 71 11 24 (.array .int) := ⟨zR_Mo, zT_Mo, 43, rfl, by decide, by decide +kernel, Or.inl ⟨zq 932 (by decide +kernel) rfl, Or.inr ⟨rfl, rfl, rfl⟩⟩⟩
set_option maxRecDepth 20000 in
theorem f_Mo_74 : zFL "HeadSplitsModel" 74 11 25 := ⟨zR_Mo, zT_Mo, 43, rfl, by decide, Or.inl (zq 933 (by decide +kernel) rfl)⟩
set_option maxRecDepth 20000 in
theorem p_Mo_74 : zPL m_Mo_init 74 11 25 (.array .int) := ⟨zR_Mo, zT_Mo, 43, rfl, by decide, by decide +kernel, Or.inl ⟨zq 933 (by decide +kernel) rfl, Or.inr ⟨rfl, rfl, rfl⟩⟩⟩
set_option maxRecDepth 20000 in
theorem f_Mo_77 : zFL "HeadSplitsModel" 77 11 26 := ⟨zR_Mo, zT_Mo, 43, rfl, by decide, Or.inl (zq 934 (by decide +kernel) rfl)⟩
set_option maxRecDepth 20000 in
theorem p_Mo_77 : zPL m_Mo_init 77 11 26 (.array .int) := ⟨zR_Mo, zT_Mo, 43, rfl, by decide, by decide +kernel, Or.inl ⟨zq 934 (by decide +kernel) rfl, Or.inr ⟨rfl, rfl, rfl⟩⟩⟩
set_option maxRecDepth 20000 in
theorem f_Mo_80 : zFL "HeadSplitsModel" 80 11 31 := ⟨zR_Mo, zT_Mo, 43, rfl, by decide, Or.inl (zq 939 (by decide +kernel) rfl)⟩
set_option maxRecDepth 20000 in
theorem p_Mo_80 : zPL m_Mo_init 80 11 31 (.array .int) := ⟨zR_Mo, zT_Mo, 43, rfl, by decide, by decide +kernel, Or.inl ⟨zq 939 (by decide +kernel) rfl, Or.inr ⟨rfl, rfl, rfl⟩⟩⟩
set_option maxRecDepth 20000 in
theorem f_Mo_83 : zFL "HeadSplitsModel" 83 11 32 := ⟨zR_Mo, zT_Mo, 43, rfl, by decide, Or.inl (zq 940 (by decide +kernel) rfl)⟩
set_option maxRecDepth 20000 in
theorem p_Mo_83 : zPL m_Mo_init 83 11 32 (.array .int) := ⟨zR_Mo, zT_Mo, 43, rfl, by decide, by decide +kernel, Or.inl ⟨zq 940 (by decide +kernel) rfl, Or.inr ⟨rfl, rfl, rfl⟩⟩⟩
set_option maxRecDepth 20000 in
theorem f_Mo_86 : zFL "HeadSplitsModel" 86 11 34 := ⟨zR_Mo, zT_Mo, 43, rfl, by decide, Or.inl (zq 942 (by decide +kernel) rfl)⟩
set_option maxRecDepth 20000 in
theorem p_Mo_86 : zPL m_Mo_init 86 11 34 (.array .int) := ⟨zR_Mo, zT_Mo, 43, rfl, by decide, by decide +kernel, Or.inl ⟨zq 942 (by decide +kernel) rfl, Or.inr ⟨rfl, rfl, rfl⟩⟩⟩
set_option maxRecDepth 20000 in
theorem f_Mo_89 : zFL "HeadSplitsModel" 89 11 35 := ⟨zR_Mo, zT_Mo, 43, rfl, by decide, Or.inl (zq 943 (by decide +kernel) rfl)⟩
set_option maxRecDepth 20000 in
theorem p_Mo_89 : zPL m_Mo_init 89 11 35 (.array .int) := ⟨zR_Mo, zT_Mo, 43, rfl, by decide, by decide +kernel, Or.inl ⟨zq 943 (by decide +kernel) rfl, Or.inr ⟨rfl, rfl, rfl⟩⟩⟩
set_option maxRecDepth 20000 in
theorem f_Mo_92 : zFL "HeadSplitsModel" 92 11 36 := ⟨zR_Mo, zT_Mo, 43, rfl, by decide, Or.inl (zq 944 (by decide +kernel) rfl)⟩
set_option maxRecDepth 20000 in
theorem p_Mo_92 : zPL m_Mo_init 92 11 36 (.array .int) := ⟨zR_Mo, zT_Mo, 43, rfl, by decide, by decide +kernel, Or.inl ⟨zq 944 (by decide +kernel) rfl, Or.inr ⟨rfl, rfl, rfl⟩⟩⟩
set_option maxRecDepth 20000 in
theorem f_Mo_95 : zFL "HeadSplitsModel" 95 11 37 := ⟨zR_Mo, zT_Mo, 43, rfl, by decide, Or.inl (zq 945 (by decide +kernel) rfl)⟩
set_option maxRecDepth 20000 in
theorem p_Mo_95 : zPL m_Mo_init 95 11 37 (.array .int) := ⟨zR_Mo, zT_Mo, 43, rfl, by decide, by decide +kernel, Or.inl ⟨zq 945 (by decide +kernel) rfl, Or.inr ⟨rfl, rfl, rfl⟩⟩⟩
set_option maxRecDepth 20000 in
theorem f_Mo_98 : zFL "HeadSplitsModel" 98 11 38 := ⟨zR_Mo, zT_Mo, 43, rfl, by decide, Or.inl (zq 946 (by decide +kernel) rfl)⟩
set_option maxRecDepth 20000 in
theorem p_Mo_98 : zPL m_Mo_init 98 11 38 (.array .int) := ⟨zR_Mo, zT_Mo, 43, rfl, by decide, by decide +kernel, Or.inl ⟨zq 946 (by decide +kernel) rfl, Or.inr ⟨rfl, rfl, rfl⟩⟩⟩
set_option maxRecDepth 20000 in
theorem f_Mo_101 : zFL "HeadSplitsModel" 101 11 39 := ⟨zR_Mo, zT_Mo, 43, rfl, by decide, Or.inl (zq 947 (by decide +kernel) rfl)⟩
set_option maxRecDepth 20000 in
theorem p_Mo_101 : zPL m_Mo_init 101 11 39 (.array .int) := ⟨zR_Mo, zT_Mo, 43, rfl, by decide, by decide +kernel, Or.inl ⟨zq 947 (by decide +kernel) rfl, Or.inr ⟨rfl, rfl, rfl⟩⟩⟩
set_option maxRecDepth 20000 in
theorem f_Mo_104 : zFL "HeadSplitsModel" 104 11 40 := ⟨zR_Mo, zT_Mo, 43, rfl, by decide, Or.inl (zq 948 (by decide +kernel) rfl)⟩
set_option maxRecDepth 20000 in
theorem p_Mo_104 : zPL m_Mo_init 104 11 40 (.array .boolean) := ⟨zR_Mo, zT_Mo, 43, rfl, by decide, by decide +kernel, Or.inl ⟨zq 948 (by decide +kernel) rfl, Or.inr ⟨rfl, rfl, rfl⟩⟩⟩
set_option maxRecDepth 20000 in
theorem f_Mo_117 : zFL "HeadSplitsModel" 117 11 7 := ⟨zR_Mo, zT_Mo, 43, rfl, by decide, Or.inl (zq 915 (by decide +kernel) rfl)⟩
set_option maxRecDepth 20000 in
theorem p_Mo_117 {mi : ZI} (h : "HeadSplitsModel" = mi.1.cls) : zPL mi 117 11 7 (.int) := by
  have f1 : Cond.fieldLink "HeadSplitsModel" 117 zR_Mo (zT_Mo 7).2.1 (zT_Mo 7).2.2.1 ∈ ztbl := zq 915 (by decide +kernel) rfl
  exact ⟨zR_Mo, zT_Mo, 43, rfl, by decide, by decide +kernel, Or.inl ⟨h ▸ f1, Or.inl rfl⟩⟩
set_option maxRecDepth 20000 in
theorem f_Mo_137 : zFL "HeadSplitsModel" 137 11 22 := ⟨zR_Mo, zT_Mo, 43, rfl, by decide, Or.inl (zq 930 (by decide +kernel) rfl)⟩
set_option maxRecDepth 20000 in
theorem p_Mo_137 {mi : ZI} (h : "HeadSplitsModel" = mi.1.cls) : zPL mi 137 11 22 (.boolean) := by
  have f1 : Cond.fieldLink "HeadSplitsModel" 137 zR_Mo (zT_Mo 22).2.1 (zT_Mo 22).2.2.1 ∈ ztbl := zq 930 (by decide +kernel) rfl
  exact ⟨zR_Mo, zT_Mo, 43, rfl, by decide, by decide +kernel, Or.inl ⟨h ▸ f1, Or.inl rfl⟩⟩
set_option maxRecDepth 20000 in
theorem f_Mo_147 : zFL "HeadSplitsModel" 147 11 13 := ⟨zR_Mo, zT_Mo, 43, rfl, by decide, Or.inl (zq 921 (by decide +kernel) rfl)⟩
set_option maxRecDepth 20000 in
theorem p_Mo_147 {mi : ZI} (h : "HeadSplitsModel" = mi.1.cls) : zPL mi 147 11 13 (.int) := by
  have f1 : Cond.fieldLink "HeadSplitsModel" 147 zR_Mo (zT_Mo 13).2.1 (zT_Mo 13).2.2.1 ∈ ztbl := zq 921 (by decide +kernel) rfl
  exact ⟨zR_Mo, zT_Mo, 43, rfl, by decide, by decide +kernel, Or.inl ⟨h ▸ f1, Or.inl rfl⟩⟩
set_option maxRecDepth 20000 in
theorem f_Mo_172 : zFL "HeadSplitsModel" 172 11 21 := ⟨zR_Mo, zT_Mo, 43, rfl, by decide, Or.inl (zq 929 (by decide +kernel) rfl)⟩
set_option maxRecDepth 20000 in
theorem p_Mo_172 {mi : ZI} (h : "HeadSplitsModel" = mi.1.cls) : zPL mi 172 11 21 (.int) := by
  have f1 : Cond.fieldLink "HeadSplitsModel" 172 zR_Mo (zT_Mo 21).2.1 (zT_Mo 21).2.2.1 ∈ ztbl := zq 929 (by decide +kernel) rfl
  exact ⟨zR_Mo, zT_Mo, 43, rfl, by decide, by decide +kernel, Or.inl ⟨h ▸ f1, Or.inl rfl⟩⟩
set_option maxRecDepth 20000 in
theorem f_Mo_178 : zFL "HeadSplitsModel" 178 11 27 := ⟨zR_Mo, zT_Mo, 43, rfl, by decide, Or.inl (zq 935 (by decide +kernel) rfl)⟩
set_option maxRecDepth 20000 in
theorem p_Mo_178 {mi : ZI} (h : "HeadSplitsModel" = mi.1.cls) : zPL mi 178 11 27 (.int) := by
  have f1 : Cond.fieldLink "HeadSplitsModel" 178 zR_Mo (zT_Mo 27).2.1 (zT_Mo 27).2.2.1 ∈ ztbl := zq 935 (by decide +kernel) rfl
  exact ⟨zR_Mo, zT_Mo, 43, rfl, by decide, by decide +kernel, Or.inl ⟨h ▸ f1, Or.inl rfl⟩⟩
set_option maxRecDepth 20000 in
theorem f_Mo_251 : zFL "HeadSplitsModel" 251 11 28 := ⟨zR_Mo, zT_Mo, 43, rfl, by decide, Or.inl (zq 936 (by decide +kernel) rfl)⟩
set_option maxRecDepth 20000 in
theorem p_Mo_251 {mi : ZI} (h : "HeadSplitsModel" = mi.1.cls) : zPL mi 251 11 28 (.int) := by
  have f1 : Cond.fieldLink "HeadSplitsModel" 251 zR_Mo (zT_Mo 28).2.1 (zT_Mo 28).2.2.1 ∈ ztbl := zq 936 (by decide +kernel) rfl
  exact ⟨zR_Mo, zT_Mo, 43, rfl, by decide, by decide +kernel, Or.inl ⟨h ▸ f1, Or.inl rfl⟩⟩
set_option maxRecDepth 20000 in
theorem f_Mo_254 : zFL "HeadSplitsModel" 254 11 29 := ⟨zR_Mo, zT_Mo, 43, rfl, by decide, Or.inl (zq 937 (by decide +kernel) rfl)⟩
set_option maxRecDepth 20000 in
theorem p_Mo_254 {mi : ZI} (h : "HeadSplitsModel" = mi.1.cls) : zPL mi 254 11 29 (.int) := by
  have f1 : Cond.fieldLink "HeadSplitsModel" 254 zR_Mo (zT_Mo 29).2.1 (zT_Mo 29).2.2.1 ∈ ztbl := zq 937 (by decide +kernel) rfl
  exact ⟨zR_Mo, zT_Mo, 43, rfl, by decide, by decide +kernel, Or.inl ⟨h ▸ f1, Or.inl rfl⟩⟩
set_option maxRecDepth 20000 in
theorem f_Mo_257 : zFL "HeadSplitsModel" 257 11 30 := ⟨zR_Mo, zT_Mo, 43, rfl, by decide, Or.inl (zq 938 (by decide +kernel) rfl)⟩
set_option maxRecDepth 20000 in
theorem p_Mo_257 {mi : ZI} (h : "HeadSplitsModel" = mi.1.cls) : zPL mi 257 11 30 (.int) := by
  have f1 : Cond.fieldLink "HeadSplitsModel" 257 zR_Mo (zT_Mo 30).2.1 (zT_Mo 30).2.2.1 ∈ ztbl := zq 938 (by decide +kernel) rfl
  exact ⟨zR_Mo, zT_Mo, 43, rfl, by decide, by decide +kernel, Or.inl ⟨h ▸ f1, Or.inl rfl⟩⟩
set_option maxRecDepth 20000 in
theorem f_Mo_267 : zFL "HeadSplitsModel" 267 11 33 := ⟨zR_Mo, zT_Mo, 43, rfl, by decide, Or.inl (zq 941 (by decide +kernel) rfl)⟩
set_option maxRecDepth 20000 in
theorem p_Mo_267 {mi : ZI} (h : "HeadSplitsModel" = mi.1.cls) : zPL mi 267 11 33 (.boolean) := by
  have f1 : Cond.fieldLink "HeadSplitsModel" 267 zR_Mo (zT_Mo 33).2.1 (zT_Mo 33).2.2.1 ∈ ztbl := zq 941 (by decide +kernel) rfl
  exact ⟨zR_Mo, zT_Mo, 43, rfl, by decide, by decide +kernel, Or.inl ⟨h ▸ f1, Or.inl rfl⟩⟩
set_option maxRecDepth 20000 in
theorem f_Mo_305 : zFL "HeadSplitsModel" 305 11 42 := ⟨zR_Mo, zT_Mo, 43, rfl, by decide, Or.inl (zq 950 (by decide +kernel) rfl)⟩
set_option maxRecDepth 20000 in
theorem p_Mo_305 {mi : ZI} (h : "HeadSplitsModel" = mi.1.cls) : zPL mi 305 11 42 (.boolean) := by
  have f1 : Cond.fieldLink "HeadSplitsModel" 305 zR_Mo (zT_Mo 42).2.1 (zT_Mo 42).2.2.1 ∈ ztbl := zq 950 (by decide +kernel) rfl
  exact ⟨zR_Mo, zT_Mo, 43, rfl, by decide, by decide +kernel, Or.inl ⟨h ▸ f1, Or.inl rfl⟩⟩
set_option maxRecDepth 20000 in
theorem f_Mo_308 : zFL "HeadSplitsModel" 308 11 41 := ⟨zR_Mo, zT_Mo, 43, rfl, by decide, Or.inl (zq 949 (by decide +kernel) rfl)⟩
set_option maxRecDepth 20000 in
theorem p_Mo_308 {mi : ZI} (h : "HeadSplitsModel" = mi.1.cls) : zPL mi 308 11 41 (.int) := by
  have f1 : Cond.fieldLink "HeadSplitsModel" 308 zR_Mo (zT_Mo 41).2.1 (zT_Mo 41).2.2.1 ∈ ztbl := zq 949 (by decide +kernel) rfl
  exact ⟨zR_Mo, zT_Mo, 43, rfl, by decide, by decide +kernel, Or.inl ⟨h ▸ f1, Or.inl rfl⟩⟩
set_option maxRecDepth 20000 in
theorem o_H_3 : Cond.methodLink "HeadSplits" 3 objectInit ∈ ztbl := zq 88 (by decide +kernel) rfl
set_option maxRecDepth 20000 in
theorem l_H_11 : zML "HeadSplits" 11 m_Row_init.1 := Or.inl (zq 93 (by decide +kernel) rfl)
set_option maxRecDepth 20000 in
theorem l_H_20 : zML "HeadSplits" 20 m_Book_init.1 := Or.inr ⟨"HeadSplits", zq 110 (by decide +kernel) rfl⟩
set_option maxRecDepth 20000 in
theorem l_H_37 : zML "HeadSplits" 37 m_Shorts_init.1 := Or.inl (zq 181 (by decide +kernel) rfl)
set_option maxRecDepth 20000 in
theorem l_H_46 : zML "HeadSplits" 46 m_Net_init.1 := Or.inl (zq 209 (by decide +kernel) rfl)
set_option maxRecDepth 20000 in
theorem l_H_55 : zML "HeadSplits" 55 m_Answer_init.1 := Or.inl (zq 264 (by decide +kernel) rfl)
set_option maxRecDepth 20000 in
theorem l_H_64 : zML "HeadSplits" 64 m_Trial_init.1 := Or.inl (zq 287 (by decide +kernel) rfl)
set_option maxRecDepth 20000 in
theorem l_H_71 : zML "HeadSplits" 71 m_Tally_init.1 := Or.inr ⟨"HeadSplits", zq 310 (by decide +kernel) rfl⟩
set_option maxRecDepth 20000 in
theorem l_H_85 : zML "HeadSplits" 85 m_Row_push.1 := Or.inl (zq 368 (by decide +kernel) rfl)
set_option maxRecDepth 20000 in
theorem l_H_89 : zML "HeadSplits" 89 m_Row_size.1 := Or.inl (zq 372 (by decide +kernel) rfl)
set_option maxRecDepth 20000 in
theorem l_H_93 : zML "HeadSplits" 93 m_Row_makeEmpty.1 := Or.inl (zq 380 (by decide +kernel) rfl)
set_option maxRecDepth 20000 in
theorem l_H_96 : zML "HeadSplits" 96 m_H_firstFault.1 := Or.inl (zq 388 (by decide +kernel) rfl)
set_option maxRecDepth 20000 in
theorem l_H_99 : zML "HeadSplits" 99 m_H_pourPad.1 := Or.inl (zq 403 (by decide +kernel) rfl)
set_option maxRecDepth 20000 in
theorem l_H_102 : zML "HeadSplits" 102 m_H_needsOrRowsChanged.1 := Or.inl (zq 407 (by decide +kernel) rfl)
set_option maxRecDepth 20000 in
theorem l_H_111 : zML "HeadSplits" 111 m_H_isState.1 := Or.inl (zq 415 (by decide +kernel) rfl)
set_option maxRecDepth 20000 in
theorem l_H_114 : zML "HeadSplits" 114 m_H_isLetter.1 := Or.inl (zq 418 (by decide +kernel) rfl)
set_option maxRecDepth 20000 in
theorem l_H_117 : zML "HeadSplits" 117 m_Machine_after.1 := Or.inl (zq 421 (by decide +kernel) rfl)
set_option maxRecDepth 20000 in
theorem l_H_123 : zML "HeadSplits" 123 m_Machine_turn.1 := Or.inl (zq 425 (by decide +kernel) rfl)
set_option maxRecDepth 20000 in
theorem l_H_127 : zML "HeadSplits" 127 m_H_machineChanged.1 := Or.inl (zq 429 (by decide +kernel) rfl)
set_option maxRecDepth 20000 in
theorem l_H_130 : zML "HeadSplits" 130 m_H_isVariable.1 := Or.inl (zq 441 (by decide +kernel) rfl)
set_option maxRecDepth 20000 in
theorem l_H_139 : zML "HeadSplits" 139 m_Need_ofVariable.1 := Or.inl (zq 444 (by decide +kernel) rfl)
set_option maxRecDepth 20000 in
theorem l_H_142 : zML "HeadSplits" 142 m_Need_ofState.1 := Or.inl (zq 447 (by decide +kernel) rfl)
set_option maxRecDepth 20000 in
theorem l_H_145 : zML "HeadSplits" 145 m_Need_withState.1 := Or.inl (zq 450 (by decide +kernel) rfl)
set_option maxRecDepth 20000 in
theorem l_H_149 : zML "HeadSplits" 149 m_Shorts_refresh.1 := Or.inl (zq 457 (by decide +kernel) rfl)
set_option maxRecDepth 20000 in
theorem l_H_152 : zML "HeadSplits" 152 m_Shorts_firstFit.1 := Or.inl (zq 473 (by decide +kernel) rfl)
set_option maxRecDepth 20000 in
theorem l_H_156 : zML "HeadSplits" 156 m_Shorts_write.1 := Or.inl (zq 480 (by decide +kernel) rfl)
set_option maxRecDepth 20000 in
theorem l_H_160 : zML "HeadSplits" 160 m_H_sizeOrItem.1 := Or.inl (zq 493 (by decide +kernel) rfl)
set_option maxRecDepth 20000 in
theorem l_H_164 : zML "HeadSplits" 164 m_Tally_count.1 := Or.inl (zq 500 (by decide +kernel) rfl)
set_option maxRecDepth 20000 in
theorem l_H_168 : zML "HeadSplits" 168 m_Tally_mostOfAVariable.1 := Or.inl (zq 511 (by decide +kernel) rfl)
set_option maxRecDepth 20000 in
theorem l_H_171 : zML "HeadSplits" 171 m_H_refreshNet.1 := Or.inl (zq 516 (by decide +kernel) rfl)
set_option maxRecDepth 20000 in
theorem l_H_176 : zML "HeadSplits" 176 m_Net_verdict.1 := Or.inl (zq 733 (by decide +kernel) rfl)
set_option maxRecDepth 20000 in
theorem l_H_188 : zML "HeadSplits" 188 m_Net_at.1 := Or.inl (zq 741 (by decide +kernel) rfl)
set_option maxRecDepth 20000 in
theorem l_H_212 : zML "HeadSplits" 212 m_Row_at.1 := Or.inl (zq 392 (by decide +kernel) rfl)
set_option maxRecDepth 20000 in
theorem l_H_225 : zML "HeadSplits" 225 m_Words_of.1 := Or.inl (zq 758 (by decide +kernel) rfl)
set_option maxRecDepth 20000 in
theorem l_H_232 : zML "HeadSplits" 232 m_Words_longest.1 := Or.inl (zq 771 (by decide +kernel) rfl)
set_option maxRecDepth 20000 in
theorem l_H_235 : zML "HeadSplits" 235 m_Words_copy.1 := Or.inl (zq 777 (by decide +kernel) rfl)
set_option maxRecDepth 20000 in
theorem l_H_239 : zML "HeadSplits" 239 m_Words_together.1 := Or.inl (zq 782 (by decide +kernel) rfl)
set_option maxRecDepth 20000 in
theorem l_H_242 : zML "HeadSplits" 242 m_H_wordsMakeRowsOne.1 := Or.inl (zq 790 (by decide +kernel) rfl)
set_option maxRecDepth 20000 in
theorem l_H_246 : zML "HeadSplits" 246 m_Book_wordsMeetNeeds.1 := Or.inl (zq 807 (by decide +kernel) rfl)
set_option maxRecDepth 20000 in
theorem l_H_249 : zML "HeadSplits" 249 m_Tally_lacking.1 := Or.inl (zq 825 (by decide +kernel) rfl)
set_option maxRecDepth 20000 in
theorem l_H_252 : zML "HeadSplits" 252 m_Tally_wordsGive.1 := Or.inl (zq 829 (by decide +kernel) rfl)
set_option maxRecDepth 20000 in
theorem l_H_259 : zML "HeadSplits" 259 m_Trial_seek.1 := Or.inl (zq 837 (by decide +kernel) rfl)
set_option maxRecDepth 20000 in
theorem l_H_265 : zML "HeadSplits" 265 m_Trial_codeOf.1 := Or.inl (zq 876 (by decide +kernel) rfl)
set_option maxRecDepth 20000 in
theorem l_H_268 : zML "HeadSplits" 268 m_Book_copy.1 := Or.inl (zq 884 (by decide +kernel) rfl)
set_option maxRecDepth 20000 in
theorem l_H_273 : zML "HeadSplits" 273 m_H_symbolOf.1 := Or.inl (zq 396 (by decide +kernel) rfl)
set_option maxRecDepth 20000 in
theorem l_H_279 : zML "HeadSplits" 279 m_Shorts_forget.1 := Or.inl (zq 433 (by decide +kernel) rfl)
set_option maxRecDepth 20000 in
theorem l_H_282 : zML "HeadSplits" 282 m_Net_begin.1 := Or.inl (zq 520 (by decide +kernel) rfl)
set_option maxRecDepth 20000 in
theorem l_H_285 : zML "HeadSplits" 285 m_Net_unfold.1 := Or.inl (zq 622 (by decide +kernel) rfl)
set_option maxRecDepth 20000 in
theorem l_H_288 : zML "HeadSplits" 288 m_Answer_trace.1 := Or.inl (zq 709 (by decide +kernel) rfl)
set_option maxRecDepth 20000 in
theorem l_H_291 : zML "HeadSplits" 291 m_Words_spellOut.1 := Or.inl (zq 794 (by decide +kernel) rfl)
set_option maxRecDepth 20000 in
theorem l_H_295 : zML "HeadSplits" 295 m_Row_sameAs.1 := Or.inl (zq 806 (by decide +kernel) rfl)
set_option maxRecDepth 20000 in
theorem o_Answer_3 : Cond.methodLink "HeadSplits$Answer" 3 objectInit ∈ ztbl := zq 267 (by decide +kernel) rfl
set_option maxRecDepth 20000 in
theorem l_Answer_11 : zML "HeadSplits$Answer" 11 m_Words_init.1 := Or.inl (zq 269 (by decide +kernel) rfl)
set_option maxRecDepth 20000 in
theorem l_Answer_38 : zML "HeadSplits$Answer" 38 m_Net_at.1 := Or.inl (zq 713 (by decide +kernel) rfl)
set_option maxRecDepth 20000 in
theorem l_Answer_47 : zML "HeadSplits$Answer" 47 m_Need_ofVariable.1 := Or.inl (zq 714 (by decide +kernel) rfl)
set_option maxRecDepth 20000 in
theorem l_Answer_53 : zML "HeadSplits$Answer" 53 m_Shorts_firstFit.1 := Or.inl (zq 715 (by decide +kernel) rfl)
set_option maxRecDepth 20000 in
theorem l_Answer_59 : zML "HeadSplits$Answer" 59 m_Words_of.1 := Or.inl (zq 716 (by decide +kernel) rfl)
set_option maxRecDepth 20000 in
theorem l_Answer_63 : zML "HeadSplits$Answer" 63 m_Shorts_write.1 := Or.inl (zq 720 (by decide +kernel) rfl)
set_option maxRecDepth 20000 in
theorem l_Answer_73 : zML "HeadSplits$Answer" 73 m_Answer_goBack.1 := Or.inl (zq 721 (by decide +kernel) rfl)
set_option maxRecDepth 20000 in
theorem l_Answer_77 : zML "HeadSplits$Answer" 77 m_Row_makeEmpty.1 := Or.inl (zq 725 (by decide +kernel) rfl)
set_option maxRecDepth 20000 in
theorem l_Answer_86 : zML "HeadSplits$Answer" 86 m_Row_at.1 := Or.inl (zq 726 (by decide +kernel) rfl)
set_option maxRecDepth 20000 in
theorem l_Answer_91 : zML "HeadSplits$Answer" 91 m_H_isVariable.1 := Or.inr ⟨"HeadSplits", zq 727 (by decide +kernel) rfl⟩
set_option maxRecDepth 20000 in
theorem l_Answer_95 : zML "HeadSplits$Answer" 95 m_Row_putAhead.1 := Or.inl (zq 728 (by decide +kernel) rfl)
set_option maxRecDepth 20000 in
theorem l_Answer_99 : zML "HeadSplits$Answer" 99 m_Row_pushAhead.1 := Or.inl (zq 732 (by decide +kernel) rfl)
set_option maxRecDepth 20000 in
theorem o_Book_3 : Cond.methodLink "HeadSplits$Book" 3 objectInit ∈ ztbl := zq 113 (by decide +kernel) rfl
set_option maxRecDepth 20000 in
theorem l_Book_11 : zML "HeadSplits$Book" 11 m_Row_init.1 := Or.inl (zq 115 (by decide +kernel) rfl)
set_option maxRecDepth 20000 in
theorem l_Book_25 : zML "HeadSplits$Book" 25 m_Machine_init.1 := Or.inl (zq 118 (by decide +kernel) rfl)
set_option maxRecDepth 20000 in
theorem l_Book_32 : zML "HeadSplits$Book" 32 m_Words_init.1 := Or.inl (zq 128 (by decide +kernel) rfl)
set_option maxRecDepth 20000 in
theorem l_Book_44 : zML "HeadSplits$Book" 44 m_Row_copy.1 := Or.inl (zq 888 (by decide +kernel) rfl)
set_option maxRecDepth 20000 in
theorem l_Book_48 : zML "HeadSplits$Book" 48 m_Machine_copy.1 := Or.inl (zq 889 (by decide +kernel) rfl)
set_option maxRecDepth 20000 in
theorem l_Book_51 : zML "HeadSplits$Book" 51 m_Words_copy.1 := Or.inl (zq 893 (by decide +kernel) rfl)
set_option maxRecDepth 20000 in
theorem l_Book_54 : zML "HeadSplits$Book" 54 m_Need_ofVariable.1 := Or.inl (zq 811 (by decide +kernel) rfl)
set_option maxRecDepth 20000 in
theorem l_Book_58 : zML "HeadSplits$Book" 58 m_Words_of.1 := Or.inl (zq 812 (by decide +kernel) rfl)
set_option maxRecDepth 20000 in
theorem l_Book_62 : zML "HeadSplits$Book" 62 m_Book_mapOf.1 := Or.inl (zq 813 (by decide +kernel) rfl)
set_option maxRecDepth 20000 in
theorem l_Book_66 : zML "HeadSplits$Book" 66 m_Need_allows.1 := Or.inl (zq 820 (by decide +kernel) rfl)
set_option maxRecDepth 20000 in
theorem l_Book_70 : zML "HeadSplits$Book" 70 m_Row_size.1 := Or.inl (zq 817 (by decide +kernel) rfl)
set_option maxRecDepth 20000 in
theorem l_Book_74 : zML "HeadSplits$Book" 74 m_Row_at.1 := Or.inl (zq 818 (by decide +kernel) rfl)
set_option maxRecDepth 20000 in
theorem l_Book_78 : zML "HeadSplits$Book" 78 m_Machine_mapBehind.1 := Or.inl (zq 819 (by decide +kernel) rfl)
set_option maxRecDepth 20000 in
theorem o_Machine_3 : Cond.methodLink "HeadSplits$Machine" 3 objectInit ∈ ztbl := zq 121 (by decide +kernel) rfl
set_option maxRecDepth 20000 in
theorem l_Machine_15 : zML "HeadSplits$Machine" 15 m_Machine_after.1 := Or.inl (zq 472 (by decide +kernel) rfl)
set_option maxRecDepth 20000 in
theorem l_Need_11 : zML "HeadSplits$Need" 11 m_Machine_after.1 := Or.inl (zq 708 (by decide +kernel) rfl)
set_option maxRecDepth 20000 in
theorem l_Need_17 : zML "HeadSplits$Need" 17 m_Need_ofState.1 := Or.inl (zq 692 (by decide +kernel) rfl)
set_option maxRecDepth 20000 in
theorem l_Need_20 : zML "HeadSplits$Need" 20 m_Need_narrowed.1 := Or.inl (zq 699 (by decide +kernel) rfl)
set_option maxRecDepth 20000 in
theorem l_Need_24 : zML "HeadSplits$Need" 24 m_Need_stateOfTurn.1 := Or.inl (zq 693 (by decide +kernel) rfl)
set_option maxRecDepth 20000 in
theorem o_Net_3 : Cond.methodLink "HeadSplits$Net" 3 objectInit ∈ ztbl := zq 212 (by decide +kernel) rfl
set_option maxRecDepth 20000 in
theorem l_Net_23 : zML "HeadSplits$Net" 23 m_Row_init.1 := Or.inl (zq 216 (by decide +kernel) rfl)
set_option maxRecDepth 20000 in
theorem l_Net_60 : zML "HeadSplits$Net" 60 m_Arr_fill.1 := Or.inl (zq 524 (by decide +kernel) rfl)
set_option maxRecDepth 20000 in
theorem l_Net_69 : zML "HeadSplits$Net" 69 m_Row_copy.1 := Or.inl (zq 525 (by decide +kernel) rfl)
set_option maxRecDepth 20000 in
theorem l_Net_74 : zML "HeadSplits$Net" 74 m_Net_makeLean.1 := Or.inl (zq 529 (by decide +kernel) rfl)
set_option maxRecDepth 20000 in
theorem l_Net_80 : zML "HeadSplits$Net" 80 m_Net_meet.1 := Or.inl (zq 546 (by decide +kernel) rfl)
set_option maxRecDepth 20000 in
theorem l_Net_84 : zML "HeadSplits$Net" 84 m_Net_at.1 := Or.inl (zq 626 (by decide +kernel) rfl)
set_option maxRecDepth 20000 in
theorem l_Net_90 : Cond.methodLink "HeadSplits$Net" 90 Lib.Math.max.name ∈ ztbl := zq 630 (by decide +kernel) rfl
set_option maxRecDepth 20000 in
theorem l_Net_97 : zML "HeadSplits$Net" 97 m_Row_at.1 := Or.inl (zq 631 (by decide +kernel) rfl)
set_option maxRecDepth 20000 in
theorem l_Net_102 : zML "HeadSplits$Net" 102 m_Shorts_anyHopeless.1 := Or.inl (zq 632 (by decide +kernel) rfl)
set_option maxRecDepth 20000 in
theorem l_Net_111 : zML "HeadSplits$Net" 111 m_Net_draftNothing.1 := Or.inl (zq 638 (by decide +kernel) rfl)
set_option maxRecDepth 20000 in
theorem l_Net_115 : zML "HeadSplits$Net" 115 m_Net_settleDrafts.1 := Or.inl (zq 658 (by decide +kernel) rfl)
set_option maxRecDepth 20000 in
theorem l_Net_119 : zML "HeadSplits$Net" 119 m_Net_draftBegins.1 := Or.inl (zq 677 (by decide +kernel) rfl)
set_option maxRecDepth 20000 in
theorem l_Net_127 : zML "HeadSplits$Net" 127 m_H_isVariable.1 := Or.inr ⟨"HeadSplits", zq 642 (by decide +kernel) rfl⟩
set_option maxRecDepth 20000 in
theorem l_Net_130 : zML "HeadSplits$Net" 130 m_Need_ofVariable.1 := Or.inl (zq 643 (by decide +kernel) rfl)
set_option maxRecDepth 20000 in
theorem l_Net_135 : zML "HeadSplits$Net" 135 m_Need_allows.1 := Or.inl (zq 644 (by decide +kernel) rfl)
set_option maxRecDepth 20000 in
theorem l_Net_139 : zML "HeadSplits$Net" 139 m_Row_copyWithout.1 := Or.inl (zq 645 (by decide +kernel) rfl)
set_option maxRecDepth 20000 in
theorem l_Net_143 : zML "HeadSplits$Net" 143 m_Need_withVariable.1 := Or.inl (zq 650 (by decide +kernel) rfl)
set_option maxRecDepth 20000 in
theorem l_Net_147 : zML "HeadSplits$Net" 147 m_Net_addDraft.1 := Or.inl (zq 653 (by decide +kernel) rfl)
set_option maxRecDepth 20000 in
theorem l_Net_151 : zML "HeadSplits$Net" 151 m_Row_copyWithAhead.1 := Or.inl (zq 681 (by decide +kernel) rfl)
set_option maxRecDepth 20000 in
theorem l_Net_155 : zML "HeadSplits$Net" 155 m_Net_draftTurns.1 := Or.inl (zq 685 (by decide +kernel) rfl)
set_option maxRecDepth 20000 in
theorem l_Net_163 : zML "HeadSplits$Net" 163 m_Need_behindLetter.1 := Or.inl (zq 705 (by decide +kernel) rfl)
set_option maxRecDepth 20000 in
theorem l_Net_167 : zML "HeadSplits$Net" 167 m_Need_isTurn.1 := Or.inl (zq 689 (by decide +kernel) rfl)
set_option maxRecDepth 20000 in
theorem l_Net_170 : zML "HeadSplits$Net" 170 m_Need_behindTurn.1 := Or.inl (zq 696 (by decide +kernel) rfl)
set_option maxRecDepth 20000 in
theorem l_Net_173 : zML "HeadSplits$Net" 173 m_Need_aheadOfTurn.1 := Or.inl (zq 702 (by decide +kernel) rfl)
set_option maxRecDepth 20000 in
theorem l_Net_176 : zML "HeadSplits$Net" 176 m_Row_push.1 := Or.inl (zq 657 (by decide +kernel) rfl)
set_option maxRecDepth 20000 in
theorem l_Net_179 : zML "HeadSplits$Net" 179 m_Row_sameAtFront.1 := Or.inl (zq 533 (by decide +kernel) rfl)
set_option maxRecDepth 20000 in
theorem l_Net_183 : zML "HeadSplits$Net" 183 m_Row_dropFirst.1 := Or.inl (zq 538 (by decide +kernel) rfl)
set_option maxRecDepth 20000 in
theorem l_Net_186 : zML "HeadSplits$Net" 186 m_Row_mark.1 := Or.inl (zq 542 (by decide +kernel) rfl)
set_option maxRecDepth 20000 in
theorem l_Net_192 : zML "HeadSplits$Net" 192 m_Row_size.1 := Or.inl (zq 662 (by decide +kernel) rfl)
set_option maxRecDepth 20000 in
theorem l_Net_195 : zML "HeadSplits$Net" 195 m_Net_metBefore.1 := Or.inl (zq 663 (by decide +kernel) rfl)
set_option maxRecDepth 20000 in
theorem l_Net_198 : zML "HeadSplits$Net" 198 m_Node_addMove.1 := Or.inl (zq 671 (by decide +kernel) rfl)
set_option maxRecDepth 20000 in
theorem l_Net_201 : zML "HeadSplits$Net" 201 m_Row_makeEmpty.1 := Or.inl (zq 676 (by decide +kernel) rfl)
set_option maxRecDepth 20000 in
theorem l_Net_205 : zML "HeadSplits$Net" 205 m_Net_bucketOf.1 := Or.inl (zq 617 (by decide +kernel) rfl)
set_option maxRecDepth 20000 in
theorem l_Net_208 : zML "HeadSplits$Net" 208 m_Row_sameAs.1 := Or.inl (zq 667 (by decide +kernel) rfl)
set_option maxRecDepth 20000 in
theorem l_Net_215 : zML "HeadSplits$Net" 215 m_Node_init.1 := Or.inl (zq 551 (by decide +kernel) rfl)
set_option maxRecDepth 20000 in
theorem l_Net_216 : zML "HeadSplits$Net" 216 m_Node_start.1 := Or.inl (zq 611 (by decide +kernel) rfl)
set_option maxRecDepth 20000 in
theorem o_Node_3 : Cond.methodLink "HeadSplits$Node" 3 objectInit ∈ ztbl := zq 554 (by decide +kernel) rfl
set_option maxRecDepth 20000 in
theorem l_Node_11 : zML "HeadSplits$Node" 11 m_Row_init.1 := Or.inl (zq 556 (by decide +kernel) rfl)
set_option maxRecDepth 20000 in
theorem l_Node_33 : zML "HeadSplits$Node" 33 m_Row_copy.1 := Or.inl (zq 615 (by decide +kernel) rfl)
set_option maxRecDepth 20000 in
theorem l_Node_37 : zML "HeadSplits$Node" 37 m_Row_makeEmpty.1 := Or.inl (zq 616 (by decide +kernel) rfl)
set_option maxRecDepth 20000 in
theorem l_Node_56 : zML "HeadSplits$Node" 56 m_Row_push.1 := Or.inl (zq 675 (by decide +kernel) rfl)
set_option maxRecDepth 20000 in
theorem o_Row_3 : Cond.methodLink "HeadSplits$Row" 3 objectInit ∈ ztbl := zq 96 (by decide +kernel) rfl
set_option maxRecDepth 20000 in
theorem l_Row_9 : Cond.methodLink "HeadSplits$Row" 9 Lib.Math.max.name ∈ ztbl := zq 97 (by decide +kernel) rfl
set_option maxRecDepth 20000 in
theorem l_Row_25 : zML "HeadSplits$Row" 25 m_Row_makeRoom.1 := Or.inl (zq 489 (by decide +kernel) rfl)
set_option maxRecDepth 20000 in
theorem l_Row_29 : zML "HeadSplits$Row" 29 m_Row_push.1 := Or.inl (zq 649 (by decide +kernel) rfl)
set_option maxRecDepth 20000 in
theorem l_Row_32 : zML "HeadSplits$Row" 32 m_Row_at.1 := Or.inl (zq 537 (by decide +kernel) rfl)
set_option maxRecDepth 20000 in
theorem o_Shorts_3 : Cond.methodLink "HeadSplits$Shorts" 3 objectInit ∈ ztbl := zq 184 (by decide +kernel) rfl
set_option maxRecDepth 20000 in
theorem l_Shorts_34 : zML "HeadSplits$Shorts" 34 m_Arr_fill.1 := Or.inl (zq 461 (by decide +kernel) rfl)
set_option maxRecDepth 20000 in
theorem l_Shorts_44 : zML "HeadSplits$Shorts" 44 m_Shorts_meet.1 := Or.inl (zq 464 (by decide +kernel) rfl)
set_option maxRecDepth 20000 in
theorem l_Shorts_48 : zML "HeadSplits$Shorts" 48 m_Machine_mapBehind.1 := Or.inl (zq 468 (by decide +kernel) rfl)
set_option maxRecDepth 20000 in
theorem l_Shorts_54 : zML "HeadSplits$Shorts" 54 m_Need_allows.1 := Or.inl (zq 477 (by decide +kernel) rfl)
set_option maxRecDepth 20000 in
theorem l_Shorts_58 : zML "HeadSplits$Shorts" 58 m_Need_ofVariable.1 := Or.inl (zq 636 (by decide +kernel) rfl)
set_option maxRecDepth 20000 in
theorem l_Shorts_61 : zML "HeadSplits$Shorts" 61 m_Shorts_firstFit.1 := Or.inl (zq 637 (by decide +kernel) rfl)
set_option maxRecDepth 20000 in
theorem l_Shorts_65 : zML "HeadSplits$Shorts" 65 m_Row_makeEmpty.1 := Or.inl (zq 484 (by decide +kernel) rfl)
set_option maxRecDepth 20000 in
theorem l_Shorts_70 : zML "HeadSplits$Shorts" 70 m_Row_pushAhead.1 := Or.inl (zq 485 (by decide +kernel) rfl)
set_option maxRecDepth 20000 in
theorem o_Tally_3 : Cond.methodLink "HeadSplits$Tally" 3 objectInit ∈ ztbl := zq 313 (by decide +kernel) rfl
set_option maxRecDepth 20000 in
theorem l_Tally_18 : zML "HeadSplits$Tally" 18 m_Arr_fill.1 := Or.inl (zq 504 (by decide +kernel) rfl)
set_option maxRecDepth 20000 in
theorem l_Tally_30 : zML "HeadSplits$Tally" 30 m_Tally_countRow.1 := Or.inl (zq 505 (by decide +kernel) rfl)
set_option maxRecDepth 20000 in
theorem l_Tally_37 : zML "HeadSplits$Tally" 37 m_Row_size.1 := Or.inl (zq 509 (by decide +kernel) rfl)
set_option maxRecDepth 20000 in
theorem l_Tally_43 : zML "HeadSplits$Tally" 43 m_Row_at.1 := Or.inl (zq 510 (by decide +kernel) rfl)
set_option maxRecDepth 20000 in
theorem l_Tally_47 : Cond.methodLink "HeadSplits$Tally" 47 Lib.Math.max.name ∈ ztbl := zq 515 (by decide +kernel) rfl
set_option maxRecDepth 20000 in
theorem o_Trial_3 : Cond.methodLink "HeadSplits$Trial" 3 objectInit ∈ ztbl := zq 290 (by decide +kernel) rfl
set_option maxRecDepth 20000 in
theorem l_Trial_30 : zML "HeadSplits$Trial" 30 m_Trial_findMaps.1 := Or.inl (zq 841 (by decide +kernel) rfl)
set_option maxRecDepth 20000 in
theorem l_Trial_38 : zML "HeadSplits$Trial" 38 m_Need_ofVariable.1 := Or.inl (zq 846 (by decide +kernel) rfl)
set_option maxRecDepth 20000 in
theorem l_Trial_44 : zML "HeadSplits$Trial" 44 m_Trial_allowedWords.1 := Or.inl (zq 847 (by decide +kernel) rfl)
set_option maxRecDepth 20000 in
theorem l_Trial_48 : zML "HeadSplits$Trial" 48 m_Trial_seekOfSize.1 := Or.inl (zq 852 (by decide +kernel) rfl)
set_option maxRecDepth 20000 in
theorem l_Trial_55 : zML "HeadSplits$Trial" 55 m_Trial_choose.1 := Or.inl (zq 856 (by decide +kernel) rfl)
set_option maxRecDepth 20000 in
theorem l_Trial_59 : zML "HeadSplits$Trial" 59 m_Trial_sizeOf.1 := Or.inl (zq 861 (by decide +kernel) rfl)
set_option maxRecDepth 20000 in
theorem l_Trial_62 : zML "HeadSplits$Trial" 62 m_Tally_wordsGive.1 := Or.inl (zq 864 (by decide +kernel) rfl)
set_option maxRecDepth 20000 in
theorem l_Trial_68 : zML "HeadSplits$Trial" 68 m_Tally_lacking.1 := Or.inl (zq 865 (by decide +kernel) rfl)
set_option maxRecDepth 20000 in
theorem l_Trial_71 : zML "HeadSplits$Trial" 71 m_Trial_seekLast.1 := Or.inl (zq 866 (by decide +kernel) rfl)
set_option maxRecDepth 20000 in
theorem l_Trial_79 : zML "HeadSplits$Trial" 79 m_Trial_spelled.1 := Or.inl (zq 870 (by decide +kernel) rfl)
set_option maxRecDepth 20000 in
theorem l_Trial_86 : zML "HeadSplits$Trial" 86 m_H_isVariable.1 := Or.inr ⟨"HeadSplits", zq 860 (by decide +kernel) rfl⟩
set_option maxRecDepth 20000 in
theorem l_Trial_90 : zML "HeadSplits$Trial" 90 m_Row_size.1 := Or.inl (zq 874 (by decide +kernel) rfl)
set_option maxRecDepth 20000 in
theorem l_Trial_96 : zML "HeadSplits$Trial" 96 m_Row_at.1 := Or.inl (zq 875 (by decide +kernel) rfl)
set_option maxRecDepth 20000 in
theorem l_Trial_99 : zML "HeadSplits$Trial" 99 m_Machine_mapBehind.1 := Or.inl (zq 845 (by decide +kernel) rfl)
set_option maxRecDepth 20000 in
theorem l_Trial_104 : zML "HeadSplits$Trial" 104 m_Need_allows.1 := Or.inl (zq 851 (by decide +kernel) rfl)
set_option maxRecDepth 20000 in
theorem o_Words_3 : Cond.methodLink "HeadSplits$Words" 3 objectInit ∈ ztbl := zq 131 (by decide +kernel) rfl
set_option maxRecDepth 20000 in
theorem l_Words_11 : zML "HeadSplits$Words" 11 m_Row_init.1 := Or.inl (zq 133 (by decide +kernel) rfl)
set_option maxRecDepth 20000 in
theorem l_Words_26 : zML "HeadSplits$Words" 26 m_Row_copy.1 := Or.inl (zq 781 (by decide +kernel) rfl)
set_option maxRecDepth 20000 in
theorem l_Words_30 : zML "HeadSplits$Words" 30 m_Row_size.1 := Or.inl (zq 775 (by decide +kernel) rfl)
set_option maxRecDepth 20000 in
theorem l_Words_34 : Cond.methodLink "HeadSplits$Words" 34 Lib.Math.max.name ∈ ztbl := zq 776 (by decide +kernel) rfl
set_option maxRecDepth 20000 in
theorem l_Words_40 : zML "HeadSplits$Words" 40 m_Row_makeEmpty.1 := Or.inl (zq 798 (by decide +kernel) rfl)
set_option maxRecDepth 20000 in
theorem l_Words_43 : zML "HeadSplits$Words" 43 m_Row_at.1 := Or.inl (zq 799 (by decide +kernel) rfl)
set_option maxRecDepth 20000 in
theorem l_Words_47 : zML "HeadSplits$Words" 47 m_Row_push.1 := Or.inl (zq 800 (by decide +kernel) rfl)
set_option maxRecDepth 20000 in
theorem l_Words_51 : zML "HeadSplits$Words" 51 m_Words_of.1 := Or.inl (zq 801 (by decide +kernel) rfl)
set_option maxRecDepth 20000 in
theorem l_Words_55 : zML "HeadSplits$Words" 55 m_Row_add.1 := Or.inl (zq 802 (by decide +kernel) rfl)
set_option maxRecDepth 20000 in
theorem l_Law_9 : zML "HeadSplitsLaw" 9 m_H_init.1 := Or.inl (zq 85 (by decide +kernel) rfl)
set_option maxRecDepth 20000 in
theorem l_Law_12 : zML "HeadSplitsLaw" 12 m_Mo_init.1 := Or.inl (zq 904 (by decide +kernel) rfl)
set_option maxRecDepth 20000 in
theorem l_Law_13 : zML "HeadSplitsLaw" 13 m_H_say.1 := Or.inl (zq 364 (by decide +kernel) rfl)
set_option maxRecDepth 20000 in
theorem l_Law_17 : zML "HeadSplitsLaw" 17 m_Mo_say.1 := Or.inl (zq 1039 (by decide +kernel) rfl)
set_option maxRecDepth 20000 in
theorem l_Law_18 : zML "HeadSplitsLaw" 18 m_H_wipe.1 := Or.inl (zq 376 (by decide +kernel) rfl)
set_option maxRecDepth 20000 in
theorem l_Law_22 : zML "HeadSplitsLaw" 22 m_Mo_wipe.1 := Or.inl (zq 1048 (by decide +kernel) rfl)
set_option maxRecDepth 20000 in
theorem l_Law_23 : zML "HeadSplitsLaw" 23 m_H_fault.1 := Or.inl (zq 384 (by decide +kernel) rfl)
set_option maxRecDepth 20000 in
theorem l_Law_26 : zML "HeadSplitsLaw" 26 m_Mo_fault.1 := Or.inl (zq 1052 (by decide +kernel) rfl)
set_option maxRecDepth 20000 in
theorem l_Law_27 : zML "HeadSplitsLaw" 27 m_H_load.1 := Or.inl (zq 399 (by decide +kernel) rfl)
set_option maxRecDepth 20000 in
theorem l_Law_30 : zML "HeadSplitsLaw" 30 m_Mo_load.1 := Or.inl (zq 1063 (by decide +kernel) rfl)
set_option maxRecDepth 20000 in
theorem l_Law_31 : zML "HeadSplitsLaw" 31 m_H_leads.1 := Or.inl (zq 411 (by decide +kernel) rfl)
set_option maxRecDepth 20000 in
theorem l_Law_35 : zML "HeadSplitsLaw" 35 m_Mo_leads.1 := Or.inl (zq 1068 (by decide +kernel) rfl)
set_option maxRecDepth 20000 in
theorem l_Law_36 : zML "HeadSplitsLaw" 36 m_H_need.1 := Or.inl (zq 437 (by decide +kernel) rfl)
set_option maxRecDepth 20000 in
theorem l_Law_39 : zML "HeadSplitsLaw" 39 m_Mo_need.1 := Or.inl (zq 1076 (by decide +kernel) rfl)
set_option maxRecDepth 20000 in
theorem l_Law_40 : zML "HeadSplitsLaw" 40 m_H_brief.1 := Or.inl (zq 453 (by decide +kernel) rfl)
set_option maxRecDepth 20000 in
theorem l_Law_44 : zML "HeadSplitsLaw" 44 m_Mo_brief.1 := Or.inl (zq 1081 (by decide +kernel) rfl)
set_option maxRecDepth 20000 in
theorem l_Law_45 : zML "HeadSplitsLaw" 45 m_H_net.1 := Or.inl (zq 496 (by decide +kernel) rfl)
set_option maxRecDepth 20000 in
theorem l_Law_48 : zML "HeadSplitsLaw" 48 m_Mo_net.1 := Or.inl (zq 1104 (by decide +kernel) rfl)
set_option maxRecDepth 20000 in
theorem l_Law_49 : zML "HeadSplitsLaw" 49 m_H_node.1 := Or.inl (zq 737 (by decide +kernel) rfl)
set_option maxRecDepth 20000 in
theorem l_Law_52 : zML "HeadSplitsLaw" 52 m_Mo_node.1 := Or.inl (zq 1200 (by decide +kernel) rfl)
set_option maxRecDepth 20000 in
theorem l_Law_53 : zML "HeadSplitsLaw" 53 m_H_symbol.1 := Or.inl (zq 742 (by decide +kernel) rfl)
set_option maxRecDepth 20000 in
theorem l_Law_56 : zML "HeadSplitsLaw" 56 m_Mo_symbol.1 := Or.inl (zq 1212 (by decide +kernel) rfl)
set_option maxRecDepth 20000 in
theorem l_Law_57 : zML "HeadSplitsLaw" 57 m_H_needs.1 := Or.inl (zq 746 (by decide +kernel) rfl)
set_option maxRecDepth 20000 in
theorem l_Law_60 : zML "HeadSplitsLaw" 60 m_Mo_needs.1 := Or.inl (zq 1216 (by decide +kernel) rfl)
set_option maxRecDepth 20000 in
theorem l_Law_61 : zML "HeadSplitsLaw" 61 m_H_move.1 := Or.inl (zq 750 (by decide +kernel) rfl)
set_option maxRecDepth 20000 in
theorem l_Law_64 : zML "HeadSplitsLaw" 64 m_Mo_move.1 := Or.inl (zq 1220 (by decide +kernel) rfl)
set_option maxRecDepth 20000 in
theorem l_Law_65 : zML "HeadSplitsLaw" 65 m_H_answer.1 := Or.inl (zq 754 (by decide +kernel) rfl)
set_option maxRecDepth 20000 in
theorem l_Law_68 : zML "HeadSplitsLaw" 68 m_Mo_answer.1 := Or.inl (zq 1224 (by decide +kernel) rfl)
set_option maxRecDepth 20000 in
theorem l_Law_69 : zML "HeadSplitsLaw" 69 m_H_spell.1 := Or.inl (zq 759 (by decide +kernel) rfl)
set_option maxRecDepth 20000 in
theorem l_Law_72 : zML "HeadSplitsLaw" 72 m_Mo_spell.1 := Or.inl (zq 1240 (by decide +kernel) rfl)
set_option maxRecDepth 20000 in
theorem l_Law_73 : zML "HeadSplitsLaw" 73 m_H_clear.1 := Or.inl (zq 763 (by decide +kernel) rfl)
set_option maxRecDepth 20000 in
theorem l_Law_76 : zML "HeadSplitsLaw" 76 m_Mo_clear.1 := Or.inl (zq 1244 (by decide +kernel) rfl)
set_option maxRecDepth 20000 in
theorem l_Law_77 : zML "HeadSplitsLaw" 77 m_H_take.1 := Or.inl (zq 767 (by decide +kernel) rfl)
set_option maxRecDepth 20000 in
theorem l_Law_80 : zML "HeadSplitsLaw" 80 m_Mo_take.1 := Or.inl (zq 1248 (by decide +kernel) rfl)
set_option maxRecDepth 20000 in
theorem l_Law_81 : zML "HeadSplitsLaw" 81 m_H_fits.1 := Or.inl (zq 786 (by decide +kernel) rfl)
set_option maxRecDepth 20000 in
theorem l_Law_84 : zML "HeadSplitsLaw" 84 m_Mo_fits.1 := Or.inl (zq 1252 (by decide +kernel) rfl)
set_option maxRecDepth 20000 in
theorem l_Law_85 : zML "HeadSplitsLaw" 85 m_H_lengths.1 := Or.inl (zq 821 (by decide +kernel) rfl)
set_option maxRecDepth 20000 in
theorem l_Law_88 : zML "HeadSplitsLaw" 88 m_Mo_lengths.1 := Or.inl (zq 1272 (by decide +kernel) rfl)
set_option maxRecDepth 20000 in
theorem l_Law_89 : zML "HeadSplitsLaw" 89 m_H_shortest.1 := Or.inl (zq 833 (by decide +kernel) rfl)
set_option maxRecDepth 20000 in
theorem l_Law_92 : zML "HeadSplitsLaw" 92 m_Mo_shortest.1 := Or.inl (zq 1284 (by decide +kernel) rfl)
set_option maxRecDepth 20000 in
theorem l_Law_93 : zML "HeadSplitsLaw" 93 m_H_image.1 := Or.inl (zq 880 (by decide +kernel) rfl)
set_option maxRecDepth 20000 in
theorem l_Law_96 : zML "HeadSplitsLaw" 96 m_Mo_image.1 := Or.inl (zq 1297 (by decide +kernel) rfl)
set_option maxRecDepth 20000 in
theorem l_Law_97 : zML "HeadSplitsLaw" 97 m_H_restore.1 := Or.inl (zq 894 (by decide +kernel) rfl)
set_option maxRecDepth 20000 in
theorem l_Law_100 : zML "HeadSplitsLaw" 100 m_Mo_restore.1 := Or.inl (zq 1309 (by decide +kernel) rfl)
set_option maxRecDepth 20000 in
theorem l_Law_101 : zML "HeadSplitsLaw" 101 m_H_told.1 := Or.inl (zq 898 (by decide +kernel) rfl)
set_option maxRecDepth 20000 in
theorem l_Law_104 : zML "HeadSplitsLaw" 104 m_Mo_told.1 := Or.inl (zq 1313 (by decide +kernel) rfl)
set_option maxRecDepth 20000 in
theorem o_Mo_1 : Cond.methodLink "HeadSplitsModel" 1 objectInit ∈ ztbl := zq 907 (by decide +kernel) rfl
set_option maxRecDepth 20000 in
theorem l_Mo_109 : zML "HeadSplitsModel" 109 m_Mo_in.1 := Or.inl (zq 1045 (by decide +kernel) rfl)
set_option maxRecDepth 20000 in
theorem l_Mo_129 : zML "HeadSplitsModel" 129 m_Mo_symbolOf.1 := Or.inl (zq 1056 (by decide +kernel) rfl)
set_option maxRecDepth 20000 in
theorem l_Mo_133 : zML "HeadSplitsModel" 133 m_Mo_fault.1 := Or.inl (zq 1067 (by decide +kernel) rfl)
set_option maxRecDepth 20000 in
theorem l_Mo_141 : zML "HeadSplitsModel" 141 m_Mo_isThird.1 := Or.inl (zq 1072 (by decide +kernel) rfl)
set_option maxRecDepth 20000 in
theorem l_Mo_150 : zML "HeadSplitsModel" 150 m_Mo_isDone.1 := Or.inl (zq 1093 (by decide +kernel) rfl)
set_option maxRecDepth 20000 in
theorem l_Mo_154 : zML "HeadSplitsModel" 154 m_Mo_addDone.1 := Or.inl (zq 1089 (by decide +kernel) rfl)
set_option maxRecDepth 20000 in
theorem l_Mo_158 : zML "HeadSplitsModel" 158 m_Mo_has.1 := Or.inl (zq 1101 (by decide +kernel) rfl)
set_option maxRecDepth 20000 in
theorem l_Mo_162 : zML "HeadSplitsModel" 162 m_Mo_findDone.1 := Or.inl (zq 1085 (by decide +kernel) rfl)
set_option maxRecDepth 20000 in
theorem l_Mo_165 : zML "HeadSplitsModel" 165 m_Mo_firstFor.1 := Or.inl (zq 1097 (by decide +kernel) rfl)
set_option maxRecDepth 20000 in
theorem l_Mo_169 : zML "HeadSplitsModel" 169 m_Mo_dropFirst.1 := Or.inl (zq 1117 (by decide +kernel) rfl)
set_option maxRecDepth 20000 in
theorem l_Mo_175 : zML "HeadSplitsModel" 175 m_Mo_isSame.1 := Or.inl (zq 1184 (by decide +kernel) rfl)
set_option maxRecDepth 20000 in
theorem l_Mo_181 : zML "HeadSplitsModel" 181 m_Mo_third.1 := Or.inl (zq 1153 (by decide +kernel) rfl)
set_option maxRecDepth 20000 in
theorem l_Mo_184 : zML "HeadSplitsModel" 184 m_Mo_addMove.1 := Or.inl (zq 1141 (by decide +kernel) rfl)
set_option maxRecDepth 20000 in
theorem l_Mo_188 : zML "HeadSplitsModel" 188 m_Mo_isTurn.1 := Or.inl (zq 1149 (by decide +kernel) rfl)
set_option maxRecDepth 20000 in
theorem l_Mo_191 : zML "HeadSplitsModel" 191 m_Mo_firstOf.1 := Or.inl (zq 1137 (by decide +kernel) rfl)
set_option maxRecDepth 20000 in
theorem l_Mo_195 : zML "HeadSplitsModel" 195 m_Mo_addBegins.1 := Or.inl (zq 1145 (by decide +kernel) rfl)
set_option maxRecDepth 20000 in
theorem l_Mo_198 : zML "HeadSplitsModel" 198 m_Mo_layRows.1 := Or.inl (zq 1160 (by decide +kernel) rfl)
set_option maxRecDepth 20000 in
theorem l_Mo_201 : zML "HeadSplitsModel" 201 m_Mo_letterAhead.1 := Or.inl (zq 1164 (by decide +kernel) rfl)
set_option maxRecDepth 20000 in
theorem l_Mo_204 : zML "HeadSplitsModel" 204 m_Mo_variableAhead.1 := Or.inl (zq 1168 (by decide +kernel) rfl)
set_option maxRecDepth 20000 in
theorem l_Mo_208 : zML "HeadSplitsModel" 208 m_Mo_isNothing.1 := Or.inl (zq 1172 (by decide +kernel) rfl)
set_option maxRecDepth 20000 in
theorem l_Mo_211 : zML "HeadSplitsModel" 211 m_Mo_lean.1 := Or.inl (zq 1113 (by decide +kernel) rfl)
set_option maxRecDepth 20000 in
theorem l_Mo_214 : zML "HeadSplitsModel" 214 m_Mo_isHopeless.1 := Or.inl (zq 1176 (by decide +kernel) rfl)
set_option maxRecDepth 20000 in
theorem l_Mo_218 : zML "HeadSplitsModel" 218 m_Mo_findMoves.1 := Or.inl (zq 1133 (by decide +kernel) rfl)
set_option maxRecDepth 20000 in
theorem l_Mo_222 : zML "HeadSplitsModel" 222 m_Mo_makeMove.1 := Or.inl (zq 1156 (by decide +kernel) rfl)
set_option maxRecDepth 20000 in
theorem l_Mo_225 : zML "HeadSplitsModel" 225 m_Mo_lookFor.1 := Or.inl (zq 1180 (by decide +kernel) rfl)
set_option maxRecDepth 20000 in
theorem l_Mo_228 : zML "HeadSplitsModel" 228 m_Mo_addNode.1 := Or.inl (zq 1121 (by decide +kernel) rfl)
set_option maxRecDepth 20000 in
theorem l_Mo_231 : zML "HeadSplitsModel" 231 m_Mo_isEnd.1 := Or.inl (zq 1125 (by decide +kernel) rfl)
set_option maxRecDepth 20000 in
theorem l_Mo_234 : zML "HeadSplitsModel" 234 m_Mo_goOn.1 := Or.inl (zq 1129 (by decide +kernel) rfl)
set_option maxRecDepth 20000 in
theorem l_Mo_239 : zML "HeadSplitsModel" 239 m_Mo_findNet.1 := Or.inl (zq 1109 (by decide +kernel) rfl)
set_option maxRecDepth 20000 in
theorem l_Mo_242 : zML "HeadSplitsModel" 242 m_Mo_firstEnd.1 := Or.inl (zq 1188 (by decide +kernel) rfl)
set_option maxRecDepth 20000 in
theorem l_Mo_245 : zML "HeadSplitsModel" 245 m_Mo_cuts.1 := Or.inl (zq 1192 (by decide +kernel) rfl)
set_option maxRecDepth 20000 in
theorem l_Mo_248 : zML "HeadSplitsModel" 248 m_Mo_mostOfOne.1 := Or.inl (zq 1196 (by decide +kernel) rfl)
set_option maxRecDepth 20000 in
theorem l_Mo_260 : zML "HeadSplitsModel" 260 m_Mo_isNode.1 := Or.inl (zq 1204 (by decide +kernel) rfl)
set_option maxRecDepth 20000 in
theorem l_Mo_263 : zML "HeadSplitsModel" 263 m_Mo_findLeading.1 := Or.inl (zq 1208 (by decide +kernel) rfl)
set_option maxRecDepth 20000 in
theorem l_Mo_270 : zML "HeadSplitsModel" 270 m_Mo_ahead.1 := Or.inl (zq 1236 (by decide +kernel) rfl)
set_option maxRecDepth 20000 in
theorem l_Mo_273 : zML "HeadSplitsModel" 273 m_Mo_undoMove.1 := Or.inl (zq 1232 (by decide +kernel) rfl)
set_option maxRecDepth 20000 in
theorem l_Mo_276 : zML "HeadSplitsModel" 276 m_Mo_isAnswered.1 := Or.inl (zq 1228 (by decide +kernel) rfl)
set_option maxRecDepth 20000 in
theorem l_Mo_279 : zML "HeadSplitsModel" 279 m_Mo_addWhole.1 := Or.inl (zq 1268 (by decide +kernel) rfl)
set_option maxRecDepth 20000 in
theorem l_Mo_282 : zML "HeadSplitsModel" 282 m_Mo_layWhole.1 := Or.inl (zq 1264 (by decide +kernel) rfl)
set_option maxRecDepth 20000 in
theorem l_Mo_285 : zML "HeadSplitsModel" 285 m_Mo_isNeeded.1 := Or.inl (zq 1256 (by decide +kernel) rfl)
set_option maxRecDepth 20000 in
theorem l_Mo_288 : zML "HeadSplitsModel" 288 m_Mo_isOne.1 := Or.inl (zq 1260 (by decide +kernel) rfl)
set_option maxRecDepth 20000 in
theorem l_Mo_291 : zML "HeadSplitsModel" 291 m_Mo_timesIn.1 := Or.inl (zq 1280 (by decide +kernel) rfl)
set_option maxRecDepth 20000 in
theorem l_Mo_294 : zML "HeadSplitsModel" 294 m_Mo_isLengths.1 := Or.inl (zq 1276 (by decide +kernel) rfl)
set_option maxRecDepth 20000 in
theorem l_Mo_297 : zML "HeadSplitsModel" 297 m_Mo_tryWord.1 := Or.inl (zq 1293 (by decide +kernel) rfl)
set_option maxRecDepth 20000 in
theorem l_Mo_302 : zML "HeadSplitsModel" 302 m_Mo_findShortest.1 := Or.inl (zq 1289 (by decide +kernel) rfl)
set_option maxRecDepth 20000 in
theorem l_Mo_311 : zML "HeadSplitsModel" 311 m_Mo_passRow.1 := Or.inl (zq 1305 (by decide +kernel) rfl)
set_option maxRecDepth 20000 in
theorem l_Mo_315 : zML "HeadSplitsModel" 315 m_Mo_passAll.1 := Or.inl (zq 1301 (by decide +kernel) rfl)
set_option maxRecDepth 20000 in
theorem o_1 : Cond.instanceMethod objectInit ∈ ztbl := zq 89 (by decide +kernel) rfl
set_option maxRecDepth 20000 in
theorem o_2 : Cond.code objectInit ⟨#[0xb1]⟩ 1 none ∈ ztbl := zq 90 (by decide +kernel) rfl
set_option maxRecDepth 20000 in
theorem n_H_9 : zNL "HeadSplits" 9 5 := ⟨zR_Row, zT_Row, 2, rfl, zq 91 (by decide +kernel) rfl, zq 92 (by decide +kernel) rfl, zq 69 (by decide +kernel) rfl⟩
set_option maxRecDepth 20000 in
theorem n_H_18 : zNL "HeadSplits" 18 1 := ⟨zR_Book, zT_Book, 6, rfl, zq 108 (by decide +kernel) rfl, zq 109 (by decide +kernel) rfl, zq 71 (by decide +kernel) rfl⟩
set_option maxRecDepth 20000 in
theorem n_H_31 : zNL "HeadSplits" 31 6 := ⟨zR_Shorts, zT_Shorts, 7, rfl, zq 179 (by decide +kernel) rfl, zq 180 (by decide +kernel) rfl, zq 74 (by decide +kernel) rfl⟩
set_option maxRecDepth 20000 in
theorem n_H_44 : zNL "HeadSplits" 44 3 := ⟨zR_Net, zT_Net, 13, rfl, zq 207 (by decide +kernel) rfl, zq 208 (by decide +kernel) rfl, zq 75 (by decide +kernel) rfl⟩
set_option maxRecDepth 20000 in
theorem n_H_53 : zNL "HeadSplits" 53 0 := ⟨zR_Answer, zT_Answer, 4, rfl, zq 262 (by decide +kernel) rfl, zq 263 (by decide +kernel) rfl, zq 76 (by decide +kernel) rfl⟩
set_option maxRecDepth 20000 in
theorem n_H_62 : zNL "HeadSplits" 62 8 := ⟨zR_Trial, zT_Trial, 5, rfl, zq 285 (by decide +kernel) rfl, zq 286 (by decide +kernel) rfl, zq 77 (by decide +kernel) rfl⟩
set_option maxRecDepth 20000 in
theorem n_H_69 : zNL "HeadSplits" 69 7 := ⟨zR_Tally, zT_Tally, 2, rfl, zq 308 (by decide +kernel) rfl, zq 309 (by decide +kernel) rfl, zq 78 (by decide +kernel) rfl⟩
set_option maxRecDepth 20000 in
theorem n_Answer_9 : zNL "HeadSplits$Answer" 9 9 := ⟨zR_Words, zT_Words, 3, rfl, zq 268 (by decide +kernel) rfl, zq 127 (by decide +kernel) rfl, zq 73 (by decide +kernel) rfl⟩
set_option maxRecDepth 20000 in
theorem n_Book_9 : zNL "HeadSplits$Book" 9 5 := ⟨zR_Row, zT_Row, 2, rfl, zq 114 (by decide +kernel) rfl, zq 92 (by decide +kernel) rfl, zq 69 (by decide +kernel) rfl⟩
set_option maxRecDepth 20000 in
theorem n_Book_23 : zNL "HeadSplits$Book" 23 2 := ⟨zR_Machine, zT_Machine, 1, rfl, zq 116 (by decide +kernel) rfl, zq 117 (by decide +kernel) rfl, zq 72 (by decide +kernel) rfl⟩
set_option maxRecDepth 20000 in
theorem n_Book_30 : zNL "HeadSplits$Book" 30 9 := ⟨zR_Words, zT_Words, 3, rfl, zq 126 (by decide +kernel) rfl, zq 127 (by decide +kernel) rfl, zq 73 (by decide +kernel) rfl⟩
set_option maxRecDepth 20000 in
theorem n_Net_9 : zNL "HeadSplits$Net" 9 4 := ⟨zR_Node, zT_Node, 11, rfl, zq 213 (by decide +kernel) rfl, zq 550 (by decide +kernel) rfl, zq 82 (by decide +kernel) rfl⟩
set_option maxRecDepth 20000 in
theorem nl_Net_9 : Cond.classLink "HeadSplits$Net" 9 "HeadSplits$Node" ∈ ztbl := zq 213 (by decide +kernel) rfl
set_option maxRecDepth 20000 in
theorem n_Net_21 : zNL "HeadSplits$Net" 21 5 := ⟨zR_Row, zT_Row, 2, rfl, zq 215 (by decide +kernel) rfl, zq 92 (by decide +kernel) rfl, zq 69 (by decide +kernel) rfl⟩
set_option maxRecDepth 20000 in
theorem n_Node_9 : zNL "HeadSplits$Node" 9 5 := ⟨zR_Row, zT_Row, 2, rfl, zq 555 (by decide +kernel) rfl, zq 92 (by decide +kernel) rfl, zq 69 (by decide +kernel) rfl⟩
set_option maxRecDepth 20000 in
theorem n_Words_9 : zNL "HeadSplits$Words" 9 5 := ⟨zR_Row, zT_Row, 2, rfl, zq 132 (by decide +kernel) rfl, zq 92 (by decide +kernel) rfl, zq 69 (by decide +kernel) rfl⟩
set_option maxRecDepth 20000 in
theorem n_Law_7 : zNL "HeadSplitsLaw" 7 10 := ⟨zR_H, zT_H, 14, rfl, zq 83 (by decide +kernel) rfl, zq 84 (by decide +kernel) rfl, zq 68 (by decide +kernel) rfl⟩
set_option maxRecDepth 20000 in
theorem n_Law_10 : zNL "HeadSplitsLaw" 10 11 := ⟨zR_Mo, zT_Mo, 43, rfl, zq 902 (by decide +kernel) rfl, zq 903 (by decide +kernel) rfl, zq 79 (by decide +kernel) rfl⟩
set_option maxRecDepth 20000 in
theorem k_Book_39 : Cond.constant "HeadSplits$Book" 39 (134217727) ∈ ztbl := zq 144 (by decide +kernel) rfl
set_option maxRecDepth 20000 in
theorem k_Net_204 : Cond.constant "HeadSplits$Net" 204 (-1640531535) ∈ ztbl := zq 621 (by decide +kernel) rfl
set_option maxRecDepth 20000 in
theorem k_Mo_107 : Cond.constantLong "HeadSplitsModel" 107 (2) ∈ ztbl := zq 1075 (by decide +kernel) rfl
set_option maxRecDepth 20000 in
theorem k_Mo_113 : Cond.constantLong "HeadSplitsModel" 113 (33) ∈ ztbl := zq 1043 (by decide +kernel) rfl
set_option maxRecDepth 20000 in
theorem k_Mo_115 : Cond.constantLong "HeadSplitsModel" 115 (126) ∈ ztbl := zq 1044 (by decide +kernel) rfl
set_option maxRecDepth 20000 in
theorem k_Mo_121 : Cond.constantLong "HeadSplitsModel" 121 (97) ∈ ztbl := zq 1059 (by decide +kernel) rfl
set_option maxRecDepth 20000 in
theorem k_Mo_123 : Cond.constantLong "HeadSplitsModel" 123 (98) ∈ ztbl := zq 1060 (by decide +kernel) rfl
set_option maxRecDepth 20000 in
theorem k_Mo_125 : Cond.constantLong "HeadSplitsModel" 125 (120) ∈ ztbl := zq 1061 (by decide +kernel) rfl
set_option maxRecDepth 20000 in
theorem k_Mo_127 : Cond.constantLong "HeadSplitsModel" 127 (122) ∈ ztbl := zq 1062 (by decide +kernel) rfl
set_option maxRecDepth 20000 in
theorem k_Mo_145 : Cond.constantLong "HeadSplitsModel" 145 (7) ∈ ztbl := zq 1080 (by decide +kernel) rfl
set_option maxRecDepth 20000 in
theorem k_Mo_237 : Cond.constantLong "HeadSplitsModel" 237 (5) ∈ ztbl := zq 1108 (by decide +kernel) rfl
set_option maxRecDepth 20000 in
theorem k_Mo_300 : Cond.constantLong "HeadSplitsModel" 300 (-1) ∈ ztbl := zq 1288 (by decide +kernel) rfl
set_option maxRecDepth 20000 in
theorem k_Mo_318 : Cond.constantLong "HeadSplitsModel" 318 (100) ∈ ztbl := zq 1317 (by decide +kernel) rfl
set_option maxRecDepth 20000 in
theorem k_Mo_320 : Cond.constantLong "HeadSplitsModel" 320 (399) ∈ ztbl := zq 1318 (by decide +kernel) rfl
set_option maxRecDepth 20000 in
theorem k_Mo_322 : Cond.constantLong "HeadSplitsModel" 322 (10) ∈ ztbl := zq 1319 (by decide +kernel) rfl
set_option maxRecDepth 20000 in
theorem k_Mo_324 : Cond.constantLong "HeadSplitsModel" 324 (15) ∈ ztbl := zq 1320 (by decide +kernel) rfl
set_option maxRecDepth 20000 in
theorem k_Mo_326 : Cond.constantLong "HeadSplitsModel" 326 (20) ∈ ztbl := zq 1321 (by decide +kernel) rfl
set_option maxRecDepth 20000 in
theorem k_Mo_328 : Cond.constantLong "HeadSplitsModel" 328 (28) ∈ ztbl := zq 1322 (by decide +kernel) rfl
set_option maxRecDepth 20000 in
theorem k_Mo_330 : Cond.constantLong "HeadSplitsModel" 330 (30) ∈ ztbl := zq 1323 (by decide +kernel) rfl
set_option maxRecDepth 20000 in
theorem k_Mo_332 : Cond.constantLong "HeadSplitsModel" 332 (32) ∈ ztbl := zq 1324 (by decide +kernel) rfl
set_option maxRecDepth 20000 in
theorem a_int : Cond.arrayClass .int ∈ ztbl := zq 107 (by decide +kernel) rfl
set_option maxRecDepth 20000 in
theorem a_bool : Cond.arrayClass .boolean ∈ ztbl := zq 1038 (by decide +kernel) rfl
set_option maxRecDepth 20000 in
theorem a_node : Cond.arrayOver (.object "HeadSplits$Node") ∈ ztbl := zq 214 (by decide +kernel) rfl
set_option maxRecDepth 20000 in
theorem mx_1 : Cond.static Lib.Math.max.name ∈ ztbl := zq 98 (by decide +kernel) rfl
set_option maxRecDepth 20000 in
theorem mx_2 : Cond.initialized "java/lang/Math" ∈ ztbl := zq 70 (by decide +kernel) rfl
set_option maxRecDepth 20000 in
theorem mx_3 : Cond.code Lib.Math.max.name Lib.Math.max.code 2 (some .int) ∈ ztbl := zq 99 (by decide +kernel) rfl
end
