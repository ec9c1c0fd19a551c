section
-- ===== PART A: goes FIRST, ahead of the names: the tables' words, and 'selects' of the private methods out of them =====
/-- a private method of a class that the tables say can be made, by its rows of tables_1 -/
def lw_okq (q : MethodName × Nat) : Prop := (q.1.cls ≠ "java/lang/invoke/MethodHandle" ∧ q.1.cls ≠ "java/lang/invoke/VarHandle") ∧ Cond.instantiable q.1.cls q.2 ∈ tables_1 ∧ Cond.privateMethod q.1 ∈ tables_1 ∧ Cond.instanceMethod q.1 ∈ tables_1
theorem lw_p0 : lw_okq (⟨"UnlikeCounts$Town", "forget", "(I)V"⟩, 7) := ⟨⟨by decide +kernel, by decide +kernel⟩, List.mem_of_getElem? (i := 26) (by decide +kernel), List.mem_of_getElem? (i := 345) (by decide +kernel), List.mem_of_getElem? (i := 346) (by decide +kernel)⟩
theorem lw_p1 : lw_okq (⟨"UnlikeCounts$Telling", "skipBlanks", "()V"⟩, 7) := ⟨⟨by decide +kernel, by decide +kernel⟩, List.mem_of_getElem? (i := 82) (by decide +kernel), List.mem_of_getElem? (i := 349) (by decide +kernel), List.mem_of_getElem? (i := 350) (by decide +kernel)⟩
theorem lw_p2 : lw_okq (⟨"UnlikeCounts$Telling", "readClause", "()V"⟩, 7) := ⟨⟨by decide +kernel, by decide +kernel⟩, List.mem_of_getElem? (i := 82) (by decide +kernel), List.mem_of_getElem? (i := 353) (by decide +kernel), List.mem_of_getElem? (i := 354) (by decide +kernel)⟩
theorem lw_p3 : lw_okq (⟨"UnlikeCounts$Telling", "readWord", "()I"⟩, 7) := ⟨⟨by decide +kernel, by decide +kernel⟩, List.mem_of_getElem? (i := 82) (by decide +kernel), List.mem_of_getElem? (i := 357) (by decide +kernel), List.mem_of_getElem? (i := 358) (by decide +kernel)⟩
theorem lw_p4 : lw_okq (⟨"UnlikeCounts$Telling", "stands", "(Ljava/lang/String;I)Z"⟩, 7) := ⟨⟨by decide +kernel, by decide +kernel⟩, List.mem_of_getElem? (i := 82) (by decide +kernel), List.mem_of_getElem? (i := 362) (by decide +kernel), List.mem_of_getElem? (i := 363) (by decide +kernel)⟩
theorem lw_p5 : lw_okq (⟨"UnlikeCounts$Telling", "wordFault", "(I)I"⟩, 7) := ⟨⟨by decide +kernel, by decide +kernel⟩, List.mem_of_getElem? (i := 82) (by decide +kernel), List.mem_of_getElem? (i := 418) (by decide +kernel), List.mem_of_getElem? (i := 419) (by decide +kernel)⟩
theorem lw_p6 : lw_okq (⟨"UnlikeCounts$Telling", "blame", "(II)V"⟩, 7) := ⟨⟨by decide +kernel, by decide +kernel⟩, List.mem_of_getElem? (i := 82) (by decide +kernel), List.mem_of_getElem? (i := 422) (by decide +kernel), List.mem_of_getElem? (i := 423) (by decide +kernel)⟩
theorem lw_p7 : lw_okq (⟨"UnlikeCounts$Telling", "readPeople", "()V"⟩, 7) := ⟨⟨by decide +kernel, by decide +kernel⟩, List.mem_of_getElem? (i := 82) (by decide +kernel), List.mem_of_getElem? (i := 426) (by decide +kernel), List.mem_of_getElem? (i := 427) (by decide +kernel)⟩
theorem lw_p8 : lw_okq (⟨"UnlikeCounts$Telling", "readNumber", "(II)I"⟩, 7) := ⟨⟨by decide +kernel, by decide +kernel⟩, List.mem_of_getElem? (i := 82) (by decide +kernel), List.mem_of_getElem? (i := 430) (by decide +kernel), List.mem_of_getElem? (i := 431) (by decide +kernel)⟩
theorem lw_p9 : lw_okq (⟨"UnlikeCounts$Telling", "readCost", "()V"⟩, 7) := ⟨⟨by decide +kernel, by decide +kernel⟩, List.mem_of_getElem? (i := 82) (by decide +kernel), List.mem_of_getElem? (i := 434) (by decide +kernel), List.mem_of_getElem? (i := 435) (by decide +kernel)⟩
theorem lw_p10 : lw_okq (⟨"UnlikeCounts$Telling", "readTwo", "(I)V"⟩, 7) := ⟨⟨by decide +kernel, by decide +kernel⟩, List.mem_of_getElem? (i := 82) (by decide +kernel), List.mem_of_getElem? (i := 438) (by decide +kernel), List.mem_of_getElem? (i := 439) (by decide +kernel)⟩
theorem lw_p11 : lw_okq (⟨"UnlikeCounts$Telling", "readEnd", "()V"⟩, 7) := ⟨⟨by decide +kernel, by decide +kernel⟩, List.mem_of_getElem? (i := 82) (by decide +kernel), List.mem_of_getElem? (i := 467) (by decide +kernel), List.mem_of_getElem? (i := 468) (by decide +kernel)⟩
theorem lw_p12 : lw_okq (⟨"UnlikeCounts$Town", "closeGap", "([II)V"⟩, 7) := ⟨⟨by decide +kernel, by decide +kernel⟩, List.mem_of_getElem? (i := 26) (by decide +kernel), List.mem_of_getElem? (i := 595) (by decide +kernel), List.mem_of_getElem? (i := 596) (by decide +kernel)⟩
theorem lw_p13 : lw_okq (⟨"UnlikeCounts$Maker", "leastByWay", "(LUnlikeCounts$Town;I)J"⟩, 5) := ⟨⟨by decide +kernel, by decide +kernel⟩, List.mem_of_getElem? (i := 113) (by decide +kernel), List.mem_of_getElem? (i := 614) (by decide +kernel), List.mem_of_getElem? (i := 615) (by decide +kernel)⟩
theorem lw_p14 : lw_okq (⟨"UnlikeCounts$Maker", "withNext", "(LUnlikeCounts$Town;IIZI)J"⟩, 5) := ⟨⟨by decide +kernel, by decide +kernel⟩, List.mem_of_getElem? (i := 113) (by decide +kernel), List.mem_of_getElem? (i := 620) (by decide +kernel), List.mem_of_getElem? (i := 621) (by decide +kernel)⟩
theorem lw_p15 : lw_okq (⟨"UnlikeCounts$Search", "begin", "(LUnlikeCounts$Town;)V"⟩, 17) := ⟨⟨by decide +kernel, by decide +kernel⟩, List.mem_of_getElem? (i := 138) (by decide +kernel), List.mem_of_getElem? (i := 657) (by decide +kernel), List.mem_of_getElem? (i := 658) (by decide +kernel)⟩
def lw_privs_1 : List (MethodName × Nat) := [(⟨"UnlikeCounts$Town", "forget", "(I)V"⟩, 7), (⟨"UnlikeCounts$Telling", "skipBlanks", "()V"⟩, 7), (⟨"UnlikeCounts$Telling", "readClause", "()V"⟩, 7), (⟨"UnlikeCounts$Telling", "readWord", "()I"⟩, 7), (⟨"UnlikeCounts$Telling", "stands", "(Ljava/lang/String;I)Z"⟩, 7), (⟨"UnlikeCounts$Telling", "wordFault", "(I)I"⟩, 7), (⟨"UnlikeCounts$Telling", "blame", "(II)V"⟩, 7), (⟨"UnlikeCounts$Telling", "readPeople", "()V"⟩, 7), (⟨"UnlikeCounts$Telling", "readNumber", "(II)I"⟩, 7), (⟨"UnlikeCounts$Telling", "readCost", "()V"⟩, 7), (⟨"UnlikeCounts$Telling", "readTwo", "(I)V"⟩, 7), (⟨"UnlikeCounts$Telling", "readEnd", "()V"⟩, 7), (⟨"UnlikeCounts$Town", "closeGap", "([II)V"⟩, 7), (⟨"UnlikeCounts$Maker", "leastByWay", "(LUnlikeCounts$Town;I)J"⟩, 5), (⟨"UnlikeCounts$Maker", "withNext", "(LUnlikeCounts$Town;IIZI)J"⟩, 5), (⟨"UnlikeCounts$Search", "begin", "(LUnlikeCounts$Town;)V"⟩, 17)]
theorem lw_r1 : ∀ q ∈ lw_privs_1, lw_okq q := List.forall_mem_cons.mpr ⟨lw_p0, List.forall_mem_cons.mpr ⟨lw_p1, List.forall_mem_cons.mpr ⟨lw_p2, List.forall_mem_cons.mpr ⟨lw_p3, List.forall_mem_cons.mpr ⟨lw_p4, List.forall_mem_cons.mpr ⟨lw_p5, List.forall_mem_cons.mpr ⟨lw_p6, List.forall_mem_cons.mpr ⟨lw_p7, List.forall_mem_cons.mpr ⟨lw_p8, List.forall_mem_cons.mpr ⟨lw_p9, List.forall_mem_cons.mpr ⟨lw_p10, List.forall_mem_cons.mpr ⟨lw_p11, List.forall_mem_cons.mpr ⟨lw_p12, List.forall_mem_cons.mpr ⟨lw_p13, List.forall_mem_cons.mpr ⟨lw_p14, List.forall_mem_cons.mpr ⟨lw_p15, fun _ h => absurd h List.not_mem_nil⟩⟩⟩⟩⟩⟩⟩⟩⟩⟩⟩⟩⟩⟩⟩⟩
theorem lw_p16 : lw_okq (⟨"UnlikeCounts$Search", "layOutPairs", "()V"⟩, 17) := ⟨⟨by decide +kernel, by decide +kernel⟩, List.mem_of_getElem? (i := 138) (by decide +kernel), List.mem_of_getElem? (i := 664) (by decide +kernel), List.mem_of_getElem? (i := 665) (by decide +kernel)⟩
theorem lw_p17 : lw_okq (⟨"UnlikeCounts$Search", "take", "(II)V"⟩, 17) := ⟨⟨by decide +kernel, by decide +kernel⟩, List.mem_of_getElem? (i := 138) (by decide +kernel), List.mem_of_getElem? (i := 671) (by decide +kernel), List.mem_of_getElem? (i := 672) (by decide +kernel)⟩
theorem lw_p18 : lw_okq (⟨"UnlikeCounts$Search", "priceTo", "(II)I"⟩, 17) := ⟨⟨by decide +kernel, by decide +kernel⟩, List.mem_of_getElem? (i := 138) (by decide +kernel), List.mem_of_getElem? (i := 675) (by decide +kernel), List.mem_of_getElem? (i := 676) (by decide +kernel)⟩
theorem lw_p19 : lw_okq (⟨"UnlikeCounts$Search", "settled", "(I)I"⟩, 17) := ⟨⟨by decide +kernel, by decide +kernel⟩, List.mem_of_getElem? (i := 138) (by decide +kernel), List.mem_of_getElem? (i := 679) (by decide +kernel), List.mem_of_getElem? (i := 680) (by decide +kernel)⟩
theorem lw_p20 : lw_okq (⟨"UnlikeCounts$Search", "rowsOf", "(I)I"⟩, 17) := ⟨⟨by decide +kernel, by decide +kernel⟩, List.mem_of_getElem? (i := 138) (by decide +kernel), List.mem_of_getElem? (i := 684) (by decide +kernel), List.mem_of_getElem? (i := 685) (by decide +kernel)⟩
theorem lw_p21 : lw_okq (⟨"UnlikeCounts$Search", "keepsBars", "(II)Z"⟩, 17) := ⟨⟨by decide +kernel, by decide +kernel⟩, List.mem_of_getElem? (i := 138) (by decide +kernel), List.mem_of_getElem? (i := 688) (by decide +kernel), List.mem_of_getElem? (i := 689) (by decide +kernel)⟩
theorem lw_p22 : lw_okq (⟨"UnlikeCounts$Search", "alikeBelow", "(II)I"⟩, 17) := ⟨⟨by decide +kernel, by decide +kernel⟩, List.mem_of_getElem? (i := 138) (by decide +kernel), List.mem_of_getElem? (i := 692) (by decide +kernel), List.mem_of_getElem? (i := 693) (by decide +kernel)⟩
theorem lw_p23 : lw_okq (⟨"UnlikeCounts$Search", "countIn", "(II)I"⟩, 17) := ⟨⟨by decide +kernel, by decide +kernel⟩, List.mem_of_getElem? (i := 138) (by decide +kernel), List.mem_of_getElem? (i := 696) (by decide +kernel), List.mem_of_getElem? (i := 697) (by decide +kernel)⟩
theorem lw_p24 : lw_okq (⟨"UnlikeCounts$Search", "canWin", "(III)Z"⟩, 17) := ⟨⟨by decide +kernel, by decide +kernel⟩, List.mem_of_getElem? (i := 138) (by decide +kernel), List.mem_of_getElem? (i := 700) (by decide +kernel), List.mem_of_getElem? (i := 701) (by decide +kernel)⟩
theorem lw_p25 : lw_okq (⟨"UnlikeCounts$Search", "noteTold", "(II)V"⟩, 17) := ⟨⟨by decide +kernel, by decide +kernel⟩, List.mem_of_getElem? (i := 138) (by decide +kernel), List.mem_of_getElem? (i := 731) (by decide +kernel), List.mem_of_getElem? (i := 732) (by decide +kernel)⟩
theorem lw_p26 : lw_okq (⟨"UnlikeCounts$Weigher", "listFriendships", "(LUnlikeCounts$Town;)V"⟩, 7) := ⟨⟨by decide +kernel, by decide +kernel⟩, List.mem_of_getElem? (i := 203) (by decide +kernel), List.mem_of_getElem? (i := 756) (by decide +kernel), List.mem_of_getElem? (i := 757) (by decide +kernel)⟩
theorem lw_p27 : lw_okq (⟨"UnlikeCounts$Weigher", "putWeight", "(II)V"⟩, 7) := ⟨⟨by decide +kernel, by decide +kernel⟩, List.mem_of_getElem? (i := 203) (by decide +kernel), List.mem_of_getElem? (i := 764) (by decide +kernel), List.mem_of_getElem? (i := 765) (by decide +kernel)⟩
theorem lw_p28 : lw_okq (⟨"UnlikeCounts$Weigher", "sumsDiffer", "(II)Z"⟩, 7) := ⟨⟨by decide +kernel, by decide +kernel⟩, List.mem_of_getElem? (i := 203) (by decide +kernel), List.mem_of_getElem? (i := 768) (by decide +kernel), List.mem_of_getElem? (i := 769) (by decide +kernel)⟩
theorem lw_p29 : lw_okq (⟨"UnlikeCounts$Weigher", "hasTwin", "(II)Z"⟩, 7) := ⟨⟨by decide +kernel, by decide +kernel⟩, List.mem_of_getElem? (i := 203) (by decide +kernel), List.mem_of_getElem? (i := 772) (by decide +kernel), List.mem_of_getElem? (i := 773) (by decide +kernel)⟩
theorem lw_p30 : lw_okq (⟨"UnlikeCounts", "liveWeek", "()V"⟩, 11) := ⟨⟨by decide +kernel, by decide +kernel⟩, List.mem_of_getElem? (i := 18) (by decide +kernel), List.mem_of_getElem? (i := 841) (by decide +kernel), List.mem_of_getElem? (i := 842) (by decide +kernel)⟩
theorem lw_p31 : lw_okq (⟨"UnlikeCounts", "draw", "(I)I"⟩, 11) := ⟨⟨by decide +kernel, by decide +kernel⟩, List.mem_of_getElem? (i := 18) (by decide +kernel), List.mem_of_getElem? (i := 845) (by decide +kernel), List.mem_of_getElem? (i := 846) (by decide +kernel)⟩
def lw_privs_2 : List (MethodName × Nat) := [(⟨"UnlikeCounts$Search", "layOutPairs", "()V"⟩, 17), (⟨"UnlikeCounts$Search", "take", "(II)V"⟩, 17), (⟨"UnlikeCounts$Search", "priceTo", "(II)I"⟩, 17), (⟨"UnlikeCounts$Search", "settled", "(I)I"⟩, 17), (⟨"UnlikeCounts$Search", "rowsOf", "(I)I"⟩, 17), (⟨"UnlikeCounts$Search", "keepsBars", "(II)Z"⟩, 17), (⟨"UnlikeCounts$Search", "alikeBelow", "(II)I"⟩, 17), (⟨"UnlikeCounts$Search", "countIn", "(II)I"⟩, 17), (⟨"UnlikeCounts$Search", "canWin", "(III)Z"⟩, 17), (⟨"UnlikeCounts$Search", "noteTold", "(II)V"⟩, 17), (⟨"UnlikeCounts$Weigher", "listFriendships", "(LUnlikeCounts$Town;)V"⟩, 7), (⟨"UnlikeCounts$Weigher", "putWeight", "(II)V"⟩, 7), (⟨"UnlikeCounts$Weigher", "sumsDiffer", "(II)Z"⟩, 7), (⟨"UnlikeCounts$Weigher", "hasTwin", "(II)Z"⟩, 7), (⟨"UnlikeCounts", "liveWeek", "()V"⟩, 11), (⟨"UnlikeCounts", "draw", "(I)I"⟩, 11)]
theorem lw_r2 : ∀ q ∈ lw_privs_2, lw_okq q := List.forall_mem_cons.mpr ⟨lw_p16, List.forall_mem_cons.mpr ⟨lw_p17, List.forall_mem_cons.mpr ⟨lw_p18, List.forall_mem_cons.mpr ⟨lw_p19, List.forall_mem_cons.mpr ⟨lw_p20, List.forall_mem_cons.mpr ⟨lw_p21, List.forall_mem_cons.mpr ⟨lw_p22, List.forall_mem_cons.mpr ⟨lw_p23, List.forall_mem_cons.mpr ⟨lw_p24, List.forall_mem_cons.mpr ⟨lw_p25, List.forall_mem_cons.mpr ⟨lw_p26, List.forall_mem_cons.mpr ⟨lw_p27, List.forall_mem_cons.mpr ⟨lw_p28, List.forall_mem_cons.mpr ⟨lw_p29, List.forall_mem_cons.mpr ⟨lw_p30, List.forall_mem_cons.mpr ⟨lw_p31, fun _ h => absurd h List.not_mem_nil⟩⟩⟩⟩⟩⟩⟩⟩⟩⟩⟩⟩⟩⟩⟩⟩
theorem lw_p32 : lw_okq (⟨"UnlikeCounts", "changePair", "(I)V"⟩, 11) := ⟨⟨by decide +kernel, by decide +kernel⟩, List.mem_of_getElem? (i := 18) (by decide +kernel), List.mem_of_getElem? (i := 852) (by decide +kernel), List.mem_of_getElem? (i := 853) (by decide +kernel)⟩
theorem lw_p33 : lw_okq (⟨"UnlikeCountsModel", "here", "()I"⟩, 39) := ⟨⟨by decide +kernel, by decide +kernel⟩, List.mem_of_getElem? (i := 868) (by decide +kernel), List.mem_of_getElem? (i := 1007) (by decide +kernel), List.mem_of_getElem? (i := 1008) (by decide +kernel)⟩
theorem lw_p34 : lw_okq (⟨"UnlikeCountsModel", "takeClause", "()I"⟩, 39) := ⟨⟨by decide +kernel, by decide +kernel⟩, List.mem_of_getElem? (i := 868) (by decide +kernel), List.mem_of_getElem? (i := 1011) (by decide +kernel), List.mem_of_getElem? (i := 1012) (by decide +kernel)⟩
theorem lw_p35 : lw_okq (⟨"UnlikeCountsModel", "readWord", "()V"⟩, 39) := ⟨⟨by decide +kernel, by decide +kernel⟩, List.mem_of_getElem? (i := 868) (by decide +kernel), List.mem_of_getElem? (i := 1015) (by decide +kernel), List.mem_of_getElem? (i := 1016) (by decide +kernel)⟩
theorem lw_p36 : lw_okq (⟨"UnlikeCountsModel", "fails", "(II)I"⟩, 39) := ⟨⟨by decide +kernel, by decide +kernel⟩, List.mem_of_getElem? (i := 868) (by decide +kernel), List.mem_of_getElem? (i := 1032) (by decide +kernel), List.mem_of_getElem? (i := 1033) (by decide +kernel)⟩
theorem lw_p37 : lw_okq (⟨"UnlikeCountsModel", "takeKind", "(I)I"⟩, 39) := ⟨⟨by decide +kernel, by decide +kernel⟩, List.mem_of_getElem? (i := 868) (by decide +kernel), List.mem_of_getElem? (i := 1036) (by decide +kernel), List.mem_of_getElem? (i := 1037) (by decide +kernel)⟩
theorem lw_p38 : lw_okq (⟨"UnlikeCountsModel", "takeNumber", "(II)I"⟩, 39) := ⟨⟨by decide +kernel, by decide +kernel⟩, List.mem_of_getElem? (i := 868) (by decide +kernel), List.mem_of_getElem? (i := 1040) (by decide +kernel), List.mem_of_getElem? (i := 1041) (by decide +kernel)⟩
theorem lw_p39 : lw_okq (⟨"UnlikeCountsModel", "takeTwo", "(I)I"⟩, 39) := ⟨⟨by decide +kernel, by decide +kernel⟩, List.mem_of_getElem? (i := 868) (by decide +kernel), List.mem_of_getElem? (i := 1046) (by decide +kernel), List.mem_of_getElem? (i := 1047) (by decide +kernel)⟩
theorem lw_p40 : lw_okq (⟨"UnlikeCountsModel", "tellCounts", "()V"⟩, 39) := ⟨⟨by decide +kernel, by decide +kernel⟩, List.mem_of_getElem? (i := 868) (by decide +kernel), List.mem_of_getElem? (i := 1056) (by decide +kernel), List.mem_of_getElem? (i := 1057) (by decide +kernel)⟩
theorem lw_p41 : lw_okq (⟨"UnlikeCountsModel", "alikeIn", "(II)I"⟩, 39) := ⟨⟨by decide +kernel, by decide +kernel⟩, List.mem_of_getElem? (i := 868) (by decide +kernel), List.mem_of_getElem? (i := 1074) (by decide +kernel), List.mem_of_getElem? (i := 1075) (by decide +kernel)⟩
theorem lw_p42 : lw_okq (⟨"UnlikeCountsModel", "findCounts", "(II)V"⟩, 39) := ⟨⟨by decide +kernel, by decide +kernel⟩, List.mem_of_getElem? (i := 868) (by decide +kernel), List.mem_of_getElem? (i := 1078) (by decide +kernel), List.mem_of_getElem? (i := 1079) (by decide +kernel)⟩
theorem lw_p43 : lw_okq (⟨"UnlikeCountsModel", "isPerson", "(I)Z"⟩, 39) := ⟨⟨by decide +kernel, by decide +kernel⟩, List.mem_of_getElem? (i := 868) (by decide +kernel), List.mem_of_getElem? (i := 1086) (by decide +kernel), List.mem_of_getElem? (i := 1087) (by decide +kernel)⟩
theorem lw_p44 : lw_okq (⟨"UnlikeCountsModel", "friendsIn", "(III)I"⟩, 39) := ⟨⟨by decide +kernel, by decide +kernel⟩, List.mem_of_getElem? (i := 868) (by decide +kernel), List.mem_of_getElem? (i := 1095) (by decide +kernel), List.mem_of_getElem? (i := 1096) (by decide +kernel)⟩
theorem lw_p45 : lw_okq (⟨"UnlikeCountsModel", "areTwo", "(II)Z"⟩, 39) := ⟨⟨by decide +kernel, by decide +kernel⟩, List.mem_of_getElem? (i := 868) (by decide +kernel), List.mem_of_getElem? (i := 1107) (by decide +kernel), List.mem_of_getElem? (i := 1108) (by decide +kernel)⟩
theorem lw_p46 : lw_okq (⟨"UnlikeCountsModel", "makeGood", "(IIII)I"⟩, 39) := ⟨⟨by decide +kernel, by decide +kernel⟩, List.mem_of_getElem? (i := 868) (by decide +kernel), List.mem_of_getElem? (i := 1148) (by decide +kernel), List.mem_of_getElem? (i := 1149) (by decide +kernel)⟩
theorem lw_p47 : lw_okq (⟨"UnlikeCountsModel", "findPlaces", "(IIIII)V"⟩, 39) := ⟨⟨by decide +kernel, by decide +kernel⟩, List.mem_of_getElem? (i := 868) (by decide +kernel), List.mem_of_getElem? (i := 1153) (by decide +kernel), List.mem_of_getElem? (i := 1154) (by decide +kernel)⟩
def lw_privs_3 : List (MethodName × Nat) := [(⟨"UnlikeCounts", "changePair", "(I)V"⟩, 11), (⟨"UnlikeCountsModel", "here", "()I"⟩, 39), (⟨"UnlikeCountsModel", "takeClause", "()I"⟩, 39), (⟨"UnlikeCountsModel", "readWord", "()V"⟩, 39), (⟨"UnlikeCountsModel", "fails", "(II)I"⟩, 39), (⟨"UnlikeCountsModel", "takeKind", "(I)I"⟩, 39), (⟨"UnlikeCountsModel", "takeNumber", "(II)I"⟩, 39), (⟨"UnlikeCountsModel", "takeTwo", "(I)I"⟩, 39), (⟨"UnlikeCountsModel", "tellCounts", "()V"⟩, 39), (⟨"UnlikeCountsModel", "alikeIn", "(II)I"⟩, 39), (⟨"UnlikeCountsModel", "findCounts", "(II)V"⟩, 39), (⟨"UnlikeCountsModel", "isPerson", "(I)Z"⟩, 39), (⟨"UnlikeCountsModel", "friendsIn", "(III)I"⟩, 39), (⟨"UnlikeCountsModel", "areTwo", "(II)Z"⟩, 39), (⟨"UnlikeCountsModel", "makeGood", "(IIII)I"⟩, 39), (⟨"UnlikeCountsModel", "findPlaces", "(IIIII)V"⟩, 39)]
theorem lw_r3 : ∀ q ∈ lw_privs_3, lw_okq q := List.forall_mem_cons.mpr ⟨lw_p32, List.forall_mem_cons.mpr ⟨lw_p33, List.forall_mem_cons.mpr ⟨lw_p34, List.forall_mem_cons.mpr ⟨lw_p35, List.forall_mem_cons.mpr ⟨lw_p36, List.forall_mem_cons.mpr ⟨lw_p37, List.forall_mem_cons.mpr ⟨lw_p38, List.forall_mem_cons.mpr ⟨lw_p39, List.forall_mem_cons.mpr ⟨lw_p40, List.forall_mem_cons.mpr ⟨lw_p41, List.forall_mem_cons.mpr ⟨lw_p42, List.forall_mem_cons.mpr ⟨lw_p43, List.forall_mem_cons.mpr ⟨lw_p44, List.forall_mem_cons.mpr ⟨lw_p45, List.forall_mem_cons.mpr ⟨lw_p46, List.forall_mem_cons.mpr ⟨lw_p47, fun _ h => absurd h List.not_mem_nil⟩⟩⟩⟩⟩⟩⟩⟩⟩⟩⟩⟩⟩⟩⟩⟩
theorem lw_p48 : lw_okq (⟨"UnlikeCountsModel", "isTaken", "(I)Z"⟩, 39) := ⟨⟨by decide +kernel, by decide +kernel⟩, List.mem_of_getElem? (i := 868) (by decide +kernel), List.mem_of_getElem? (i := 1157) (by decide +kernel), List.mem_of_getElem? (i := 1158) (by decide +kernel)⟩
theorem lw_p49 : lw_okq (⟨"UnlikeCountsModel", "priceAt", "(IIIIII)I"⟩, 39) := ⟨⟨by decide +kernel, by decide +kernel⟩, List.mem_of_getElem? (i := 868) (by decide +kernel), List.mem_of_getElem? (i := 1161) (by decide +kernel), List.mem_of_getElem? (i := 1162) (by decide +kernel)⟩
theorem lw_p50 : lw_okq (⟨"UnlikeCountsModel", "bestTown", "()I"⟩, 39) := ⟨⟨by decide +kernel, by decide +kernel⟩, List.mem_of_getElem? (i := 868) (by decide +kernel), List.mem_of_getElem? (i := 1165) (by decide +kernel), List.mem_of_getElem? (i := 1166) (by decide +kernel)⟩
theorem lw_p51 : lw_okq (⟨"UnlikeCountsModel", "keepsBars", "(I)Z"⟩, 39) := ⟨⟨by decide +kernel, by decide +kernel⟩, List.mem_of_getElem? (i := 868) (by decide +kernel), List.mem_of_getElem? (i := 1185) (by decide +kernel), List.mem_of_getElem? (i := 1186) (by decide +kernel)⟩
theorem lw_p52 : lw_okq (⟨"UnlikeCountsModel", "priceOf", "(II)I"⟩, 39) := ⟨⟨by decide +kernel, by decide +kernel⟩, List.mem_of_getElem? (i := 868) (by decide +kernel), List.mem_of_getElem? (i := 1189) (by decide +kernel), List.mem_of_getElem? (i := 1190) (by decide +kernel)⟩
theorem lw_p53 : lw_okq (⟨"UnlikeCountsModel", "countTowns", "()I"⟩, 39) := ⟨⟨by decide +kernel, by decide +kernel⟩, List.mem_of_getElem? (i := 868) (by decide +kernel), List.mem_of_getElem? (i := 1206) (by decide +kernel), List.mem_of_getElem? (i := 1207) (by decide +kernel)⟩
theorem lw_p54 : lw_okq (⟨"UnlikeCountsModel", "liarIn", "(I)I"⟩, 39) := ⟨⟨by decide +kernel, by decide +kernel⟩, List.mem_of_getElem? (i := 868) (by decide +kernel), List.mem_of_getElem? (i := 1218) (by decide +kernel), List.mem_of_getElem? (i := 1219) (by decide +kernel)⟩
theorem lw_p55 : lw_okq (⟨"UnlikeCountsModel", "findWeights", "()I"⟩, 39) := ⟨⟨by decide +kernel, by decide +kernel⟩, List.mem_of_getElem? (i := 868) (by decide +kernel), List.mem_of_getElem? (i := 1226) (by decide +kernel), List.mem_of_getElem? (i := 1227) (by decide +kernel)⟩
theorem lw_p56 : lw_okq (⟨"UnlikeCountsModel", "isWeighed", "(III)Z"⟩, 39) := ⟨⟨by decide +kernel, by decide +kernel⟩, List.mem_of_getElem? (i := 868) (by decide +kernel), List.mem_of_getElem? (i := 1230) (by decide +kernel), List.mem_of_getElem? (i := 1231) (by decide +kernel)⟩
theorem lw_p57 : lw_okq (⟨"UnlikeCountsModel", "areUnlike", "(I)Z"⟩, 39) := ⟨⟨by decide +kernel, by decide +kernel⟩, List.mem_of_getElem? (i := 868) (by decide +kernel), List.mem_of_getElem? (i := 1234) (by decide +kernel), List.mem_of_getElem? (i := 1235) (by decide +kernel)⟩
theorem lw_p58 : lw_okq (⟨"UnlikeCountsModel", "weekNow", "()V"⟩, 39) := ⟨⟨by decide +kernel, by decide +kernel⟩, List.mem_of_getElem? (i := 868) (by decide +kernel), List.mem_of_getElem? (i := 1264) (by decide +kernel), List.mem_of_getElem? (i := 1265) (by decide +kernel)⟩
theorem lw_p59 : lw_okq (⟨"UnlikeCountsModel", "draw", "(I)I"⟩, 39) := ⟨⟨by decide +kernel, by decide +kernel⟩, List.mem_of_getElem? (i := 868) (by decide +kernel), List.mem_of_getElem? (i := 1268) (by decide +kernel), List.mem_of_getElem? (i := 1269) (by decide +kernel)⟩
def lw_privs_4 : List (MethodName × Nat) := [(⟨"UnlikeCountsModel", "isTaken", "(I)Z"⟩, 39), (⟨"UnlikeCountsModel", "priceAt", "(IIIIII)I"⟩, 39), (⟨"UnlikeCountsModel", "bestTown", "()I"⟩, 39), (⟨"UnlikeCountsModel", "keepsBars", "(I)Z"⟩, 39), (⟨"UnlikeCountsModel", "priceOf", "(II)I"⟩, 39), (⟨"UnlikeCountsModel", "countTowns", "()I"⟩, 39), (⟨"UnlikeCountsModel", "liarIn", "(I)I"⟩, 39), (⟨"UnlikeCountsModel", "findWeights", "()I"⟩, 39), (⟨"UnlikeCountsModel", "isWeighed", "(III)Z"⟩, 39), (⟨"UnlikeCountsModel", "areUnlike", "(I)Z"⟩, 39), (⟨"UnlikeCountsModel", "weekNow", "()V"⟩, 39), (⟨"UnlikeCountsModel", "draw", "(I)I"⟩, 39)]
theorem lw_r4 : ∀ q ∈ lw_privs_4, lw_okq q := List.forall_mem_cons.mpr ⟨lw_p48, List.forall_mem_cons.mpr ⟨lw_p49, List.forall_mem_cons.mpr ⟨lw_p50, List.forall_mem_cons.mpr ⟨lw_p51, List.forall_mem_cons.mpr ⟨lw_p52, List.forall_mem_cons.mpr ⟨lw_p53, List.forall_mem_cons.mpr ⟨lw_p54, List.forall_mem_cons.mpr ⟨lw_p55, List.forall_mem_cons.mpr ⟨lw_p56, List.forall_mem_cons.mpr ⟨lw_p57, List.forall_mem_cons.mpr ⟨lw_p58, List.forall_mem_cons.mpr ⟨lw_p59, fun _ h => absurd h List.not_mem_nil⟩⟩⟩⟩⟩⟩⟩⟩⟩⟩⟩⟩
def lw_privs : List (MethodName × Nat) := lw_privs_1 ++ (lw_privs_2 ++ (lw_privs_3 ++ (lw_privs_4)))
def lw_tbl : List Cond := k2_sels lw_privs ++ tables_1
theorem lw_privs_ok : ∀ q ∈ lw_privs, lw_okq q := by
  show ∀ q ∈ lw_privs_1 ++ (lw_privs_2 ++ (lw_privs_3 ++ (lw_privs_4))), lw_okq q
  exact List.forall_mem_append.mpr ⟨lw_r1, List.forall_mem_append.mpr ⟨lw_r2, List.forall_mem_append.mpr ⟨lw_r3, lw_r4⟩⟩⟩
end
section
def R_Bk : String := "UnlikeCounts$Book"
def T_Bk : u_T := fun k => match k with
  | 0 => ("UnlikeCounts$Book", "first", "[I", true)
  | 1 => ("UnlikeCounts$Book", "second", "[I", true)
  | 2 => ("UnlikeCounts$Book", "made", "[Z", true)
  | _ => ("UnlikeCounts$Book", "days", "I", false)
def ty_Bk : Nat → FieldType := fun k => match k with
  | 0 => .array .int
  | 1 => .array .int
  | 2 => .array .boolean
  | _ => .int
theorem nm_Bk : ∀ a, a < 4 → ∀ b, b < 4 → a ≠ b → (T_Bk a).2.1 ≠ (T_Bk b).2.1 := by decide +kernel
theorem tk_Bk : ∀ k, k < 4 → parseFieldDescriptor (T_Bk k).2.2.1 = some (ty_Bk k) := by decide +kernel
theorem in_Bk : ∀ w ∈ u_ws R_Bk T_Bk 4, w ∈ lw_tbl := by decide +kernel
def R_Im : String := "UnlikeCounts$Image"
def T_Im : u_T := fun k => match k with
  | 0 => ("UnlikeCounts$Image", "town", "LUnlikeCounts$Town;", true)
  | 1 => ("UnlikeCounts$Image", "seedThen", "I", false)
  | _ => ("UnlikeCounts$Image", "kept", "Z", false)
def ty_Im : Nat → FieldType := fun k => match k with
  | 0 => .object "UnlikeCounts$Town"
  | 1 => .int
  | _ => .boolean
theorem nm_Im : ∀ a, a < 3 → ∀ b, b < 3 → a ≠ b → (T_Im a).2.1 ≠ (T_Im b).2.1 := by decide +kernel
theorem tk_Im : ∀ k, k < 3 → parseFieldDescriptor (T_Im k).2.2.1 = some (ty_Im k) := by decide +kernel
theorem in_Im : ∀ w ∈ u_ws R_Im T_Im 3, w ∈ lw_tbl := by decide +kernel
def R_Mk : String := "UnlikeCounts$Maker"
def T_Mk : u_T := fun k => match k with
  | 0 => ("UnlikeCounts$Maker", "least", "[J", true)
  | 1 => ("UnlikeCounts$Maker", "size", "I", false)
  | 2 => ("UnlikeCounts$Maker", "price", "I", false)
  | 3 => ("UnlikeCounts$Maker", "way", "I", false)
  | _ => ("UnlikeCounts$Maker", "places", "J", false)
def ty_Mk : Nat → FieldType := fun k => match k with
  | 0 => .array .long
  | 1 => .int
  | 2 => .int
  | 3 => .int
  | _ => .long
theorem nm_Mk : ∀ a, a < 5 → ∀ b, b < 5 → a ≠ b → (T_Mk a).2.1 ≠ (T_Mk b).2.1 := by decide +kernel
theorem tk_Mk : ∀ k, k < 5 → parseFieldDescriptor (T_Mk k).2.2.1 = some (ty_Mk k) := by decide +kernel
theorem in_Mk : ∀ w ∈ u_ws R_Mk T_Mk 5, w ∈ lw_tbl := by decide +kernel
def R_Se : String := "UnlikeCounts$Search"
def T_Se : u_T := fun k => match k with
  | 0 => ("UnlikeCounts$Search", "pairsOf", "[I", true)
  | 1 => ("UnlikeCounts$Search", "rowStart", "[I", true)
  | 2 => ("UnlikeCounts$Search", "saids", "[I", true)
  | 3 => ("UnlikeCounts$Search", "size", "I", false)
  | 4 => ("UnlikeCounts$Search", "makeCost", "I", false)
  | 5 => ("UnlikeCounts$Search", "dropCost", "I", false)
  | 6 => ("UnlikeCounts$Search", "ties", "I", false)
  | 7 => ("UnlikeCounts$Search", "bars", "I", false)
  | 8 => ("UnlikeCounts$Search", "musts", "I", false)
  | 9 => ("UnlikeCounts$Search", "mostOff", "I", false)
  | 10 => ("UnlikeCounts$Search", "bestAlike", "I", false)
  | 11 => ("UnlikeCounts$Search", "bestPrice", "I", false)
  | 12 => ("UnlikeCounts$Search", "bestTown", "I", false)
  | 13 => ("UnlikeCounts$Search", "towns", "I", false)
  | 14 => ("UnlikeCounts$Search", "inAll", "I", false)
  | 15 => ("UnlikeCounts$Search", "inSome", "I", false)
  | _ => ("UnlikeCounts$Search", "liars", "I", false)
def ty_Se : Nat → FieldType := fun k => match k with
  | 0 => .array .int
  | 1 => .array .int
  | 2 => .array .int
  | 3 => .int
  | 4 => .int
  | 5 => .int
  | 6 => .int
  | 7 => .int
  | 8 => .int
  | 9 => .int
  | 10 => .int
  | 11 => .int
  | 12 => .int
  | 13 => .int
  | 14 => .int
  | 15 => .int
  | _ => .int
theorem nm_Se : ∀ a, a < 17 → ∀ b, b < 17 → a ≠ b → (T_Se a).2.1 ≠ (T_Se b).2.1 := by decide +kernel
theorem tk_Se : ∀ k, k < 17 → parseFieldDescriptor (T_Se k).2.2.1 = some (ty_Se k) := by decide +kernel
theorem in_Se : ∀ w ∈ u_ws R_Se T_Se 17, w ∈ lw_tbl := by decide +kernel
def R_Te : String := "UnlikeCounts$Telling"
def T_Te : u_T := fun k => match k with
  | 0 => ("UnlikeCounts$Telling", "bytes", "[B", true)
  | 1 => ("UnlikeCounts$Telling", "draft", "LUnlikeCounts$Town;", true)
  | 2 => ("UnlikeCounts$Telling", "length", "I", false)
  | 3 => ("UnlikeCounts$Telling", "at", "I", false)
  | 4 => ("UnlikeCounts$Telling", "costKnown", "Z", false)
  | 5 => ("UnlikeCounts$Telling", "faultKind", "I", false)
  | _ => ("UnlikeCounts$Telling", "faultPlace", "I", false)
def ty_Te : Nat → FieldType := fun k => match k with
  | 0 => .array .byte
  | 1 => .object "UnlikeCounts$Town"
  | 2 => .int
  | 3 => .int
  | 4 => .boolean
  | 5 => .int
  | _ => .int
theorem nm_Te : ∀ a, a < 7 → ∀ b, b < 7 → a ≠ b → (T_Te a).2.1 ≠ (T_Te b).2.1 := by decide +kernel
theorem tk_Te : ∀ k, k < 7 → parseFieldDescriptor (T_Te k).2.2.1 = some (ty_Te k) := by decide +kernel
theorem in_Te : ∀ w ∈ u_ws R_Te T_Te 7, w ∈ lw_tbl := by decide +kernel
def R_To : String := "UnlikeCounts$Town"
def T_To : u_T := fun k => match k with
  | 0 => ("UnlikeCounts$Town", "size", "I", false)
  | 1 => ("UnlikeCounts$Town", "makeCost", "I", false)
  | 2 => ("UnlikeCounts$Town", "dropCost", "I", false)
  | 3 => ("UnlikeCounts$Town", "ties", "[I", true)
  | 4 => ("UnlikeCounts$Town", "bars", "[I", true)
  | 5 => ("UnlikeCounts$Town", "musts", "[I", true)
  | _ => ("UnlikeCounts$Town", "saids", "[I", true)
def ty_To : Nat → FieldType := fun k => match k with
  | 0 => .int
  | 1 => .int
  | 2 => .int
  | 3 => .array .int
  | 4 => .array .int
  | 5 => .array .int
  | _ => .array .int
theorem nm_To : ∀ a, a < 7 → ∀ b, b < 7 → a ≠ b → (T_To a).2.1 ≠ (T_To b).2.1 := by decide +kernel
theorem tk_To : ∀ k, k < 7 → parseFieldDescriptor (T_To k).2.2.1 = some (ty_To k) := by decide +kernel
theorem in_To : ∀ w ∈ u_ws R_To T_To 7, w ∈ lw_tbl := by decide +kernel
def R_Wa : String := "UnlikeCounts$Ways"
def T_Wa : u_T := fun k => match k with
  | 0 => ("UnlikeCounts$Ways", "across", "[I", true)
  | _ => ("UnlikeCounts$Ways", "sorted", "[I", true)
def ty_Wa : Nat → FieldType := fun k => match k with
  | 0 => .array .int
  | _ => .array .int
theorem nm_Wa : ∀ a, a < 2 → ∀ b, b < 2 → a ≠ b → (T_Wa a).2.1 ≠ (T_Wa b).2.1 := by decide +kernel
theorem tk_Wa : ∀ k, k < 2 → parseFieldDescriptor (T_Wa k).2.2.1 = some (ty_Wa k) := by decide +kernel
theorem in_Wa : ∀ w ∈ u_ws R_Wa T_Wa 2, w ∈ lw_tbl := by decide +kernel
def R_We : String := "UnlikeCounts$Weigher"
def T_We : u_T := fun k => match k with
  | 0 => ("UnlikeCounts$Weigher", "first", "[I", true)
  | 1 => ("UnlikeCounts$Weigher", "second", "[I", true)
  | 2 => ("UnlikeCounts$Weigher", "weights", "[I", true)
  | 3 => ("UnlikeCounts$Weigher", "ended", "[I", true)
  | 4 => ("UnlikeCounts$Weigher", "sums", "[I", true)
  | 5 => ("UnlikeCounts$Weigher", "edges", "I", false)
  | _ => ("UnlikeCounts$Weigher", "least", "I", false)
def ty_We : Nat → FieldType := fun k => match k with
  | 0 => .array .int
  | 1 => .array .int
  | 2 => .array .int
  | 3 => .array .int
  | 4 => .array .int
  | 5 => .int
  | _ => .int
theorem nm_We : ∀ a, a < 7 → ∀ b, b < 7 → a ≠ b → (T_We a).2.1 ≠ (T_We b).2.1 := by decide +kernel
theorem tk_We : ∀ k, k < 7 → parseFieldDescriptor (T_We k).2.2.1 = some (ty_We k) := by decide +kernel
theorem in_We : ∀ w ∈ u_ws R_We T_We 7, w ∈ lw_tbl := by decide +kernel
def R_Uc : String := "UnlikeCounts"
def T_Uc : u_T := fun k => match k with
  | 0 => ("UnlikeCounts", "now", "LUnlikeCounts$Town;", true)
  | 1 => ("UnlikeCounts", "trial", "LUnlikeCounts$Town;", true)
  | 2 => ("UnlikeCounts", "telling", "LUnlikeCounts$Telling;", true)
  | 3 => ("UnlikeCounts", "maker", "LUnlikeCounts$Maker;", true)
  | 4 => ("UnlikeCounts", "search", "LUnlikeCounts$Search;", true)
  | 5 => ("UnlikeCounts", "weigher", "LUnlikeCounts$Weigher;", true)
  | 6 => ("UnlikeCounts", "ways", "LUnlikeCounts$Ways;", true)
  | 7 => ("UnlikeCounts", "book", "LUnlikeCounts$Book;", true)
  | 8 => ("UnlikeCounts", "imageZero", "LUnlikeCounts$Image;", true)
  | 9 => ("UnlikeCounts", "imageOne", "LUnlikeCounts$Image;", true)
  | _ => ("UnlikeCounts", "seedNow", "I", false)
def ty_Uc : Nat → FieldType := fun k => match k with
  | 0 => .object "UnlikeCounts$Town"
  | 1 => .object "UnlikeCounts$Town"
  | 2 => .object "UnlikeCounts$Telling"
  | 3 => .object "UnlikeCounts$Maker"
  | 4 => .object "UnlikeCounts$Search"
  | 5 => .object "UnlikeCounts$Weigher"
  | 6 => .object "UnlikeCounts$Ways"
  | 7 => .object "UnlikeCounts$Book"
  | 8 => .object "UnlikeCounts$Image"
  | 9 => .object "UnlikeCounts$Image"
  | _ => .int
theorem nm_Uc : ∀ a, a < 11 → ∀ b, b < 11 → a ≠ b → (T_Uc a).2.1 ≠ (T_Uc b).2.1 := by decide +kernel
theorem tk_Uc : ∀ k, k < 11 → parseFieldDescriptor (T_Uc k).2.2.1 = some (ty_Uc k) := by decide +kernel
theorem in_Uc : ∀ w ∈ u_ws R_Uc T_Uc 11, w ∈ lw_tbl := by decide +kernel
def R_Mo : String := "UnlikeCountsModel"
def T_Mo : u_T := fun k => match k with
  | 0 => ("UnlikeCountsModel", "persons", "I", false)
  | 1 => ("UnlikeCountsModel", "town", "I", false)
  | 2 => ("UnlikeCountsModel", "barred", "I", false)
  | 3 => ("UnlikeCountsModel", "must", "I", false)
  | 4 => ("UnlikeCountsModel", "making", "I", false)
  | 5 => ("UnlikeCountsModel", "dropping", "I", false)
  | 6 => ("UnlikeCountsModel", "toldCount", "[I", true)
  | 7 => ("UnlikeCountsModel", "seed", "I", false)
  | 8 => ("UnlikeCountsModel", "counts", "[I", true)
  | 9 => ("UnlikeCountsModel", "text", "[I", true)
  | 10 => ("UnlikeCountsModel", "texted", "I", false)
  | 11 => ("UnlikeCountsModel", "faultPlace", "I", false)
  | 12 => ("UnlikeCountsModel", "at0", "I", false)
  | 13 => ("UnlikeCountsModel", "said", "J", false)
  | 14 => ("UnlikeCountsModel", "wordEnd", "I", false)
  | 15 => ("UnlikeCountsModel", "number", "I", false)
  | 16 => ("UnlikeCountsModel", "numberAt", "I", false)
  | 17 => ("UnlikeCountsModel", "readPersons", "I", false)
  | 18 => ("UnlikeCountsModel", "readTown", "I", false)
  | 19 => ("UnlikeCountsModel", "readBarred", "I", false)
  | 20 => ("UnlikeCountsModel", "readMust", "I", false)
  | 21 => ("UnlikeCountsModel", "readMaking", "I", false)
  | 22 => ("UnlikeCountsModel", "readDropping", "I", false)
  | 23 => ("UnlikeCountsModel", "placeOf", "[I", true)
  | 24 => ("UnlikeCountsModel", "prices", "[I", true)
  | 25 => ("UnlikeCountsModel", "bestPlace", "[I", true)
  | 26 => ("UnlikeCountsModel", "bestWay", "I", false)
  | 27 => ("UnlikeCountsModel", "bestPrice", "I", false)
  | 28 => ("UnlikeCountsModel", "someTown", "I", false)
  | 29 => ("UnlikeCountsModel", "allTown", "I", false)
  | 30 => ("UnlikeCountsModel", "sums", "[I", true)
  | 31 => ("UnlikeCountsModel", "tied", "[I", true)
  | 32 => ("UnlikeCountsModel", "weights", "[I", true)
  | 33 => ("UnlikeCountsModel", "booked", "I", false)
  | 34 => ("UnlikeCountsModel", "bookOne", "[I", true)
  | 35 => ("UnlikeCountsModel", "bookTwo", "[I", true)
  | 36 => ("UnlikeCountsModel", "bookMade", "[Z", true)
  | 37 => ("UnlikeCountsModel", "images", "[I", true)
  | _ => ("UnlikeCountsModel", "isKept", "[Z", true)
def ty_Mo : Nat → FieldType := fun k => match k with
  | 0 => .int
  | 1 => .int
  | 2 => .int
  | 3 => .int
  | 4 => .int
  | 5 => .int
  | 6 => .array .int
  | 7 => .int
  | 8 => .array .int
  | 9 => .array .int
  | 10 => .int
  | 11 => .int
  | 12 => .int
  | 13 => .long
  | 14 => .int
  | 15 => .int
  | 16 => .int
  | 17 => .int
  | 18 => .int
  | 19 => .int
  | 20 => .int
  | 21 => .int
  | 22 => .int
  | 23 => .array .int
  | 24 => .array .int
  | 25 => .array .int
  | 26 => .int
  | 27 => .int
  | 28 => .int
  | 29 => .int
  | 30 => .array .int
  | 31 => .array .int
  | 32 => .array .int
  | 33 => .int
  | 34 => .array .int
  | 35 => .array .int
  | 36 => .array .boolean
  | 37 => .array .int
  | _ => .array .boolean
theorem nm_Mo : ∀ a, a < 39 → ∀ b, b < 39 → a ≠ b → (T_Mo a).2.1 ≠ (T_Mo b).2.1 := by decide +kernel
theorem tk_Mo : ∀ k, k < 39 → parseFieldDescriptor (T_Mo k).2.2.1 = some (ty_Mo k) := by decide +kernel
theorem in_Mo : ∀ w ∈ u_ws R_Mo T_Mo 39, w ∈ lw_tbl := by decide +kernel
def R_In : String := "java/lang/Integer"
def R_Ma : String := "java/lang/Math"
def R_Sg : String := "java/lang/String"
def R_Sl : String := "java/lang/StringLatin1"
def R_Ob : String := "java/lang/Object"
def R_Lw : String := "UnlikeCountsLaw"
def R_Su : String := "java/lang/StringUTF16"
def R_Pr : String := "jdk/internal/util/Preconditions"
abbrev classes : List vw_C := [(R_Bk, T_Bk, 4), (R_Im, T_Im, 3), (R_Mk, T_Mk, 5), (R_Se, T_Se, 17), (R_Te, T_Te, 7), (R_To, T_To, 7), (R_Wa, T_Wa, 2), (R_We, T_We, 7), (R_Uc, T_Uc, 11), (R_Mo, T_Mo, 39)]
def nf : Nat → Nat := fun c => match c with
  | 0 => 4
  | 1 => 3
  | 2 => 5
  | 3 => 17
  | 4 => 7
  | 5 => 7
  | 6 => 2
  | 7 => 7
  | 8 => 11
  | 9 => 39
  | _ => 0
def fty : Nat → Nat → FieldType := fun c => match c with
  | 0 => ty_Bk
  | 1 => ty_Im
  | 2 => ty_Mk
  | 3 => ty_Se
  | 4 => ty_Te
  | 5 => ty_To
  | 6 => ty_Wa
  | 7 => ty_We
  | 8 => ty_Uc
  | 9 => ty_Mo
  | _ => fun _ => .int
abbrev c_Uc_init : ByteArray := prog_1_method_1_code
abbrev y_Uc_init : MethodName := ⟨R_Uc, "<init>", "()V"⟩
abbrev c_Uc_feed : ByteArray := prog_1_method_2_code
abbrev y_Uc_feed : MethodName := ⟨R_Uc, "feed", "(IJ)I"⟩
abbrev c_Uc_town : ByteArray := prog_1_method_3_code
abbrev y_Uc_town : MethodName := ⟨R_Uc, "town", "()I"⟩
abbrev c_Uc_fault : ByteArray := prog_1_method_4_code
abbrev y_Uc_fault : MethodName := ⟨R_Uc, "fault", "()I"⟩
abbrev c_Uc_told : ByteArray := prog_1_method_5_code
abbrev y_Uc_told : MethodName := ⟨R_Uc, "told", "(I)I"⟩
abbrev c_Uc_count : ByteArray := prog_1_method_6_code
abbrev y_Uc_count : MethodName := ⟨R_Uc, "count", "(I)I"⟩
abbrev c_Uc_friends : ByteArray := prog_1_method_7_code
abbrev y_Uc_friends : MethodName := ⟨R_Uc, "friends", "(I)I"⟩
abbrev c_Uc_alike : ByteArray := prog_1_method_8_code
abbrev y_Uc_alike : MethodName := ⟨R_Uc, "alike", "(I)I"⟩
abbrev c_Uc_pair : ByteArray := prog_1_method_9_code
abbrev y_Uc_pair : MethodName := ⟨R_Uc, "pair", "(II)I"⟩
abbrev c_Uc_tie : ByteArray := prog_1_method_10_code
abbrev y_Uc_tie : MethodName := ⟨R_Uc, "tie", "(IIZ)I"⟩
abbrev c_Uc_bar : ByteArray := prog_1_method_11_code
abbrev y_Uc_bar : MethodName := ⟨R_Uc, "bar", "(III)I"⟩
abbrev c_Uc_birth : ByteArray := prog_1_method_12_code
abbrev y_Uc_birth : MethodName := ⟨R_Uc, "birth", "()I"⟩
abbrev c_Uc_death : ByteArray := prog_1_method_13_code
abbrev y_Uc_death : MethodName := ⟨R_Uc, "death", "(I)I"⟩
abbrev c_Uc_made : ByteArray := prog_1_method_14_code
abbrev y_Uc_made : MethodName := ⟨R_Uc, "made", "(IIII)I"⟩
abbrev c_Uc_good : ByteArray := prog_1_method_15_code
abbrev y_Uc_good : MethodName := ⟨R_Uc, "good", "(I)I"⟩
abbrev c_Uc_born : ByteArray := prog_1_method_16_code
abbrev y_Uc_born : MethodName := ⟨R_Uc, "born", "()I"⟩
abbrev c_Uc_dies : ByteArray := prog_1_method_17_code
abbrev y_Uc_dies : MethodName := ⟨R_Uc, "dies", "(I)I"⟩
abbrev c_Uc_nearest : ByteArray := prog_1_method_18_code
abbrev y_Uc_nearest : MethodName := ⟨R_Uc, "nearest", "(I)I"⟩
abbrev c_Uc_even : ByteArray := prog_1_method_19_code
abbrev y_Uc_even : MethodName := ⟨R_Uc, "even", "(II)I"⟩
abbrev c_Uc_tell : ByteArray := prog_1_method_20_code
abbrev y_Uc_tell : MethodName := ⟨R_Uc, "tell", "(II)I"⟩
abbrev c_Uc_canBe : ByteArray := prog_1_method_21_code
abbrev y_Uc_canBe : MethodName := ⟨R_Uc, "canBe", "()I"⟩
abbrev c_Uc_sure : ByteArray := prog_1_method_22_code
abbrev y_Uc_sure : MethodName := ⟨R_Uc, "sure", "(II)I"⟩
abbrev c_Uc_liar : ByteArray := prog_1_method_23_code
abbrev y_Uc_liar : MethodName := ⟨R_Uc, "liar", "()I"⟩
abbrev c_Uc_weight : ByteArray := prog_1_method_24_code
abbrev y_Uc_weight : MethodName := ⟨R_Uc, "weight", "(II)I"⟩
abbrev c_Uc_sides : ByteArray := prog_1_method_25_code
abbrev y_Uc_sides : MethodName := ⟨R_Uc, "sides", "(II)I"⟩
abbrev c_Uc_sorts : ByteArray := prog_1_method_26_code
abbrev y_Uc_sorts : MethodName := ⟨R_Uc, "sorts", "(I)I"⟩
abbrev c_Uc_write : ByteArray := prog_1_method_27_code
abbrev y_Uc_write : MethodName := ⟨R_Uc, "write", "(IIZ)I"⟩
abbrev c_Uc_tear : ByteArray := prog_1_method_28_code
abbrev y_Uc_tear : MethodName := ⟨R_Uc, "tear", "()I"⟩
abbrev c_Uc_judge : ByteArray := prog_1_method_29_code
abbrev y_Uc_judge : MethodName := ⟨R_Uc, "judge", "(I)I"⟩
abbrev c_Uc_drift : ByteArray := prog_1_method_30_code
abbrev y_Uc_drift : MethodName := ⟨R_Uc, "drift", "(I)I"⟩
abbrev c_Uc_seed : ByteArray := prog_1_method_31_code
abbrev y_Uc_seed : MethodName := ⟨R_Uc, "seed", "(I)I"⟩
abbrev c_Uc_keep : ByteArray := prog_1_method_32_code
abbrev y_Uc_keep : MethodName := ⟨R_Uc, "keep", "(I)I"⟩
abbrev c_Uc_goBack : ByteArray := prog_1_method_33_code
abbrev y_Uc_goBack : MethodName := ⟨R_Uc, "goBack", "(I)I"⟩
abbrev c_Uc_liveWeek : ByteArray := prog_1_method_34_code
abbrev y_Uc_liveWeek : MethodName := ⟨R_Uc, "liveWeek", "()V"⟩
abbrev c_Uc_changePair : ByteArray := prog_1_method_35_code
abbrev y_Uc_changePair : MethodName := ⟨R_Uc, "changePair", "(I)V"⟩
abbrev c_Uc_draw : ByteArray := prog_1_method_36_code
abbrev y_Uc_draw : MethodName := ⟨R_Uc, "draw", "(I)I"⟩
abbrev c_Uc_placesTied : ByteArray := prog_1_method_37_code
abbrev y_Uc_placesTied : MethodName := ⟨R_Uc, "placesTied", "(IIII)Z"⟩
abbrev c_Mo_init : ByteArray := prog_11_method_1_code
abbrev y_Mo_init : MethodName := ⟨R_Mo, "<init>", "()V"⟩
abbrev c_Mo_in : ByteArray := prog_11_method_3_code
abbrev y_Mo_in : MethodName := ⟨R_Mo, "in", "(JJJ)Z"⟩
abbrev c_Mo_has : ByteArray := prog_11_method_4_code
abbrev y_Mo_has : MethodName := ⟨R_Mo, "has", "(II)Z"⟩
abbrev c_Mo_bits : ByteArray := prog_11_method_5_code
abbrev y_Mo_bits : MethodName := ⟨R_Mo, "bits", "(I)I"⟩
abbrev c_Mo_isPerson : ByteArray := prog_11_method_6_code
abbrev y_Mo_isPerson : MethodName := ⟨R_Mo, "isPerson", "(I)Z"⟩
abbrev c_Mo_areTwo : ByteArray := prog_11_method_7_code
abbrev y_Mo_areTwo : MethodName := ⟨R_Mo, "areTwo", "(II)Z"⟩
abbrev c_Mo_pairs : ByteArray := prog_11_method_8_code
abbrev y_Mo_pairs : MethodName := ⟨R_Mo, "pairs", "(I)I"⟩
abbrev c_Mo_pairOf : ByteArray := prog_11_method_9_code
abbrev y_Mo_pairOf : MethodName := ⟨R_Mo, "pairOf", "(III)I"⟩
abbrev c_Mo_countIn : ByteArray := prog_11_method_10_code
abbrev y_Mo_countIn : MethodName := ⟨R_Mo, "countIn", "(III)I"⟩
abbrev c_Mo_findCounts : ByteArray := prog_11_method_11_code
abbrev y_Mo_findCounts : MethodName := ⟨R_Mo, "findCounts", "(II)V"⟩
abbrev c_Mo_alikeIn : ByteArray := prog_11_method_12_code
abbrev y_Mo_alikeIn : MethodName := ⟨R_Mo, "alikeIn", "(II)I"⟩
abbrev c_Mo_tellCounts : ByteArray := prog_11_method_13_code
abbrev y_Mo_tellCounts : MethodName := ⟨R_Mo, "tellCounts", "()V"⟩
abbrev c_Mo_feed : ByteArray := prog_11_method_14_code
abbrev y_Mo_feed : MethodName := ⟨R_Mo, "feed", "(IJ)I"⟩
abbrev c_Mo_here : ByteArray := prog_11_method_15_code
abbrev y_Mo_here : MethodName := ⟨R_Mo, "here", "()I"⟩
abbrev c_Mo_fails : ByteArray := prog_11_method_16_code
abbrev y_Mo_fails : MethodName := ⟨R_Mo, "fails", "(II)I"⟩
abbrev c_Mo_readWord : ByteArray := prog_11_method_17_code
abbrev y_Mo_readWord : MethodName := ⟨R_Mo, "readWord", "()V"⟩
abbrev c_Mo_code : ByteArray := prog_11_method_18_code
abbrev y_Mo_code : MethodName := ⟨R_Mo, "code", "(IIII)J"⟩
abbrev c_Mo_longer : ByteArray := prog_11_method_19_code
abbrev y_Mo_longer : MethodName := ⟨R_Mo, "longer", "(JII)J"⟩
abbrev c_Mo_takeNumber : ByteArray := prog_11_method_20_code
abbrev y_Mo_takeNumber : MethodName := ⟨R_Mo, "takeNumber", "(II)I"⟩
abbrev c_Mo_takeTwo : ByteArray := prog_11_method_21_code
abbrev y_Mo_takeTwo : MethodName := ⟨R_Mo, "takeTwo", "(I)I"⟩
abbrev c_Mo_takeKind : ByteArray := prog_11_method_22_code
abbrev y_Mo_takeKind : MethodName := ⟨R_Mo, "takeKind", "(I)I"⟩
abbrev c_Mo_takeClause : ByteArray := prog_11_method_23_code
abbrev y_Mo_takeClause : MethodName := ⟨R_Mo, "takeClause", "()I"⟩
abbrev c_Mo_town : ByteArray := prog_11_method_24_code
abbrev y_Mo_town : MethodName := ⟨R_Mo, "town", "()I"⟩
abbrev c_Mo_fault : ByteArray := prog_11_method_25_code
abbrev y_Mo_fault : MethodName := ⟨R_Mo, "fault", "()I"⟩
abbrev c_Mo_told : ByteArray := prog_11_method_26_code
abbrev y_Mo_told : MethodName := ⟨R_Mo, "told", "(I)I"⟩
abbrev c_Mo_count : ByteArray := prog_11_method_27_code
abbrev y_Mo_count : MethodName := ⟨R_Mo, "count", "(I)I"⟩
abbrev c_Mo_friendsIn : ByteArray := prog_11_method_28_code
abbrev y_Mo_friendsIn : MethodName := ⟨R_Mo, "friendsIn", "(III)I"⟩
abbrev c_Mo_friends : ByteArray := prog_11_method_29_code
abbrev y_Mo_friends : MethodName := ⟨R_Mo, "friends", "(I)I"⟩
abbrev c_Mo_alike : ByteArray := prog_11_method_30_code
abbrev y_Mo_alike : MethodName := ⟨R_Mo, "alike", "(I)I"⟩
abbrev c_Mo_pair : ByteArray := prog_11_method_31_code
abbrev y_Mo_pair : MethodName := ⟨R_Mo, "pair", "(II)I"⟩
abbrev c_Mo_tie : ByteArray := prog_11_method_32_code
abbrev y_Mo_tie : MethodName := ⟨R_Mo, "tie", "(IIZ)I"⟩
abbrev c_Mo_bar : ByteArray := prog_11_method_33_code
abbrev y_Mo_bar : MethodName := ⟨R_Mo, "bar", "(III)I"⟩
abbrev c_Mo_withMore : ByteArray := prog_11_method_34_code
abbrev y_Mo_withMore : MethodName := ⟨R_Mo, "withMore", "(II)I"⟩
abbrev c_Mo_without : ByteArray := prog_11_method_35_code
abbrev y_Mo_without : MethodName := ⟨R_Mo, "without", "(III)I"⟩
abbrev c_Mo_birth : ByteArray := prog_11_method_36_code
abbrev y_Mo_birth : MethodName := ⟨R_Mo, "birth", "()I"⟩
abbrev c_Mo_death : ByteArray := prog_11_method_37_code
abbrev y_Mo_death : MethodName := ⟨R_Mo, "death", "(I)I"⟩
abbrev c_Mo_isMade : ByteArray := prog_11_method_38_code
abbrev y_Mo_isMade : MethodName := ⟨R_Mo, "isMade", "(IIII)Z"⟩
abbrev c_Mo_made : ByteArray := prog_11_method_39_code
abbrev y_Mo_made : MethodName := ⟨R_Mo, "made", "(IIII)I"⟩
abbrev c_Mo_priceOf : ByteArray := prog_11_method_40_code
abbrev y_Mo_priceOf : MethodName := ⟨R_Mo, "priceOf", "(II)I"⟩
abbrev c_Mo_priceAt : ByteArray := prog_11_method_41_code
abbrev y_Mo_priceAt : MethodName := ⟨R_Mo, "priceAt", "(IIIIII)I"⟩
abbrev c_Mo_isTaken : ByteArray := prog_11_method_42_code
abbrev y_Mo_isTaken : MethodName := ⟨R_Mo, "isTaken", "(I)Z"⟩
abbrev c_Mo_findPlaces : ByteArray := prog_11_method_43_code
abbrev y_Mo_findPlaces : MethodName := ⟨R_Mo, "findPlaces", "(IIIII)V"⟩
abbrev c_Mo_makeGood : ByteArray := prog_11_method_44_code
abbrev y_Mo_makeGood : MethodName := ⟨R_Mo, "makeGood", "(IIII)I"⟩
abbrev c_Mo_bestTown : ByteArray := prog_11_method_45_code
abbrev y_Mo_bestTown : MethodName := ⟨R_Mo, "bestTown", "()I"⟩
abbrev c_Mo_good : ByteArray := prog_11_method_46_code
abbrev y_Mo_good : MethodName := ⟨R_Mo, "good", "(I)I"⟩
abbrev c_Mo_born : ByteArray := prog_11_method_47_code
abbrev y_Mo_born : MethodName := ⟨R_Mo, "born", "()I"⟩
abbrev c_Mo_dies : ByteArray := prog_11_method_48_code
abbrev y_Mo_dies : MethodName := ⟨R_Mo, "dies", "(I)I"⟩
abbrev c_Mo_keepsBars : ByteArray := prog_11_method_49_code
abbrev y_Mo_keepsBars : MethodName := ⟨R_Mo, "keepsBars", "(I)Z"⟩
abbrev c_Mo_nearest : ByteArray := prog_11_method_50_code
abbrev y_Mo_nearest : MethodName := ⟨R_Mo, "nearest", "(I)I"⟩
abbrev c_Mo_even : ByteArray := prog_11_method_51_code
abbrev y_Mo_even : MethodName := ⟨R_Mo, "even", "(II)I"⟩
abbrev c_Mo_tell : ByteArray := prog_11_method_52_code
abbrev y_Mo_tell : MethodName := ⟨R_Mo, "tell", "(II)I"⟩
abbrev c_Mo_countTowns : ByteArray := prog_11_method_53_code
abbrev y_Mo_countTowns : MethodName := ⟨R_Mo, "countTowns", "()I"⟩
abbrev c_Mo_canBe : ByteArray := prog_11_method_54_code
abbrev y_Mo_canBe : MethodName := ⟨R_Mo, "canBe", "()I"⟩
abbrev c_Mo_sure : ByteArray := prog_11_method_55_code
abbrev y_Mo_sure : MethodName := ⟨R_Mo, "sure", "(II)I"⟩
abbrev c_Mo_liarIn : ByteArray := prog_11_method_56_code
abbrev y_Mo_liarIn : MethodName := ⟨R_Mo, "liarIn", "(I)I"⟩
abbrev c_Mo_liar : ByteArray := prog_11_method_57_code
abbrev y_Mo_liar : MethodName := ⟨R_Mo, "liar", "()I"⟩
abbrev c_Mo_areUnlike : ByteArray := prog_11_method_58_code
abbrev y_Mo_areUnlike : MethodName := ⟨R_Mo, "areUnlike", "(I)Z"⟩
abbrev c_Mo_isWeighed : ByteArray := prog_11_method_59_code
abbrev y_Mo_isWeighed : MethodName := ⟨R_Mo, "isWeighed", "(III)Z"⟩
abbrev c_Mo_findWeights : ByteArray := prog_11_method_60_code
abbrev y_Mo_findWeights : MethodName := ⟨R_Mo, "findWeights", "()I"⟩
abbrev c_Mo_weight : ByteArray := prog_11_method_61_code
abbrev y_Mo_weight : MethodName := ⟨R_Mo, "weight", "(II)I"⟩
abbrev c_Mo_sides : ByteArray := prog_11_method_62_code
abbrev y_Mo_sides : MethodName := ⟨R_Mo, "sides", "(II)I"⟩
abbrev c_Mo_sorts : ByteArray := prog_11_method_63_code
abbrev y_Mo_sorts : MethodName := ⟨R_Mo, "sorts", "(I)I"⟩
abbrev c_Mo_write : ByteArray := prog_11_method_64_code
abbrev y_Mo_write : MethodName := ⟨R_Mo, "write", "(IIZ)I"⟩
abbrev c_Mo_tear : ByteArray := prog_11_method_65_code
abbrev y_Mo_tear : MethodName := ⟨R_Mo, "tear", "()I"⟩
abbrev c_Mo_judge : ByteArray := prog_11_method_66_code
abbrev y_Mo_judge : MethodName := ⟨R_Mo, "judge", "(I)I"⟩
abbrev c_Mo_draw : ByteArray := prog_11_method_67_code
abbrev y_Mo_draw : MethodName := ⟨R_Mo, "draw", "(I)I"⟩
abbrev c_Mo_weekNow : ByteArray := prog_11_method_68_code
abbrev y_Mo_weekNow : MethodName := ⟨R_Mo, "weekNow", "()V"⟩
abbrev c_Mo_drift : ByteArray := prog_11_method_69_code
abbrev y_Mo_drift : MethodName := ⟨R_Mo, "drift", "(I)I"⟩
abbrev c_Mo_seed : ByteArray := prog_11_method_70_code
abbrev y_Mo_seed : MethodName := ⟨R_Mo, "seed", "(I)I"⟩
abbrev c_Mo_keep : ByteArray := prog_11_method_71_code
abbrev y_Mo_keep : MethodName := ⟨R_Mo, "keep", "(I)I"⟩
abbrev c_Mo_goBack : ByteArray := prog_11_method_72_code
abbrev y_Mo_goBack : MethodName := ⟨R_Mo, "goBack", "(I)I"⟩
abbrev c_Bk_init : ByteArray := prog_2_method_1_code
abbrev y_Bk_init : MethodName := ⟨R_Bk, "<init>", "()V"⟩
abbrev c_Bk_empty : ByteArray := prog_2_method_2_code
abbrev y_Bk_empty : MethodName := ⟨R_Bk, "empty", "()V"⟩
abbrev c_Bk_add : ByteArray := prog_2_method_3_code
abbrev y_Bk_add : MethodName := ⟨R_Bk, "add", "(IIZ)V"⟩
abbrev c_Bk_tryOn : ByteArray := prog_2_method_4_code
abbrev y_Bk_tryOn : MethodName := ⟨R_Bk, "tryOn", "(LUnlikeCounts$Town;)I"⟩
abbrev c_Im_init : ByteArray := prog_3_method_1_code
abbrev y_Im_init : MethodName := ⟨R_Im, "<init>", "()V"⟩
abbrev c_Mk_init : ByteArray := prog_4_method_1_code
abbrev y_Mk_init : MethodName := ⟨R_Mk, "<init>", "()V"⟩
abbrev c_Mk_solve : ByteArray := prog_4_method_2_code
abbrev y_Mk_solve : MethodName := ⟨R_Mk, "solve", "(LUnlikeCounts$Town;)V"⟩
abbrev c_Mk_placeOf : ByteArray := prog_4_method_3_code
abbrev y_Mk_placeOf : MethodName := ⟨R_Mk, "placeOf", "(I)I"⟩
abbrev c_Mk_townMade : ByteArray := prog_4_method_4_code
abbrev y_Mk_townMade : MethodName := ⟨R_Mk, "townMade", "()I"⟩
abbrev c_Mk_shiftOf : ByteArray := prog_4_method_5_code
abbrev y_Mk_shiftOf : MethodName := ⟨R_Mk, "shiftOf", "(I)I"⟩
abbrev c_Mk_leastByWay : ByteArray := prog_4_method_6_code
abbrev y_Mk_leastByWay : MethodName := ⟨R_Mk, "leastByWay", "(LUnlikeCounts$Town;I)J"⟩
abbrev c_Mk_withNext : ByteArray := prog_4_method_7_code
abbrev y_Mk_withNext : MethodName := ⟨R_Mk, "withNext", "(LUnlikeCounts$Town;IIZI)J"⟩
abbrev c_Se_init : ByteArray := prog_5_method_1_code
abbrev y_Se_init : MethodName := ⟨R_Se, "<init>", "()V"⟩
abbrev c_Se_findNearest : ByteArray := prog_5_method_2_code
abbrev y_Se_findNearest : MethodName := ⟨R_Se, "findNearest", "(LUnlikeCounts$Town;)V"⟩
abbrev c_Se_findEven : ByteArray := prog_5_method_3_code
abbrev y_Se_findEven : MethodName := ⟨R_Se, "findEven", "(LUnlikeCounts$Town;I)V"⟩
abbrev c_Se_findTold : ByteArray := prog_5_method_4_code
abbrev y_Se_findTold : MethodName := ⟨R_Se, "findTold", "(LUnlikeCounts$Town;I)V"⟩
abbrev c_Se_begin : ByteArray := prog_5_method_5_code
abbrev y_Se_begin : MethodName := ⟨R_Se, "begin", "(LUnlikeCounts$Town;)V"⟩
abbrev c_Se_layOutPairs : ByteArray := prog_5_method_6_code
abbrev y_Se_layOutPairs : MethodName := ⟨R_Se, "layOutPairs", "()V"⟩
abbrev c_Se_nearestFrom : ByteArray := prog_5_method_7_code
abbrev y_Se_nearestFrom : MethodName := ⟨R_Se, "nearestFrom", "(LUnlikeCounts$Search;III)V"⟩
abbrev c_Se_evenFrom : ByteArray := prog_5_method_8_code
abbrev y_Se_evenFrom : MethodName := ⟨R_Se, "evenFrom", "(LUnlikeCounts$Search;III)V"⟩
abbrev c_Se_toldFrom : ByteArray := prog_5_method_9_code
abbrev y_Se_toldFrom : MethodName := ⟨R_Se, "toldFrom", "(LUnlikeCounts$Search;III)V"⟩
abbrev c_Se_rowsOf : ByteArray := prog_5_method_10_code
abbrev y_Se_rowsOf : MethodName := ⟨R_Se, "rowsOf", "(I)I"⟩
abbrev c_Se_noteTold : ByteArray := prog_5_method_11_code
abbrev y_Se_noteTold : MethodName := ⟨R_Se, "noteTold", "(II)V"⟩
abbrev c_Se_take : ByteArray := prog_5_method_12_code
abbrev y_Se_take : MethodName := ⟨R_Se, "take", "(II)V"⟩
abbrev c_Se_canWin : ByteArray := prog_5_method_13_code
abbrev y_Se_canWin : MethodName := ⟨R_Se, "canWin", "(III)Z"⟩
abbrev c_Se_countIn : ByteArray := prog_5_method_14_code
abbrev y_Se_countIn : MethodName := ⟨R_Se, "countIn", "(II)I"⟩
abbrev c_Se_alikeBelow : ByteArray := prog_5_method_15_code
abbrev y_Se_alikeBelow : MethodName := ⟨R_Se, "alikeBelow", "(II)I"⟩
abbrev c_Se_settled : ByteArray := prog_5_method_16_code
abbrev y_Se_settled : MethodName := ⟨R_Se, "settled", "(I)I"⟩
abbrev c_Se_keepsBars : ByteArray := prog_5_method_17_code
abbrev y_Se_keepsBars : MethodName := ⟨R_Se, "keepsBars", "(II)Z"⟩
abbrev c_Se_priceTo : ByteArray := prog_5_method_18_code
abbrev y_Se_priceTo : MethodName := ⟨R_Se, "priceTo", "(II)I"⟩
abbrev c_Te_init : ByteArray := prog_6_method_1_code
abbrev y_Te_init : MethodName := ⟨R_Te, "<init>", "()V"⟩
abbrev c_Te_length : ByteArray := prog_6_method_2_code
abbrev y_Te_length : MethodName := ⟨R_Te, "length", "()I"⟩
abbrev c_Te_draftTown : ByteArray := prog_6_method_3_code
abbrev y_Te_draftTown : MethodName := ⟨R_Te, "draftTown", "()LUnlikeCounts$Town;"⟩
abbrev c_Te_faultKind : ByteArray := prog_6_method_4_code
abbrev y_Te_faultKind : MethodName := ⟨R_Te, "faultKind", "()I"⟩
abbrev c_Te_faultPlace : ByteArray := prog_6_method_5_code
abbrev y_Te_faultPlace : MethodName := ⟨R_Te, "faultPlace", "()I"⟩
abbrev c_Te_append : ByteArray := prog_6_method_6_code
abbrev y_Te_append : MethodName := ⟨R_Te, "append", "(IJ)V"⟩
abbrev c_Te_read : ByteArray := prog_6_method_7_code
abbrev y_Te_read : MethodName := ⟨R_Te, "read", "()V"⟩
abbrev c_Te_readClause : ByteArray := prog_6_method_8_code
abbrev y_Te_readClause : MethodName := ⟨R_Te, "readClause", "()V"⟩
abbrev c_Te_wordFault : ByteArray := prog_6_method_9_code
abbrev y_Te_wordFault : MethodName := ⟨R_Te, "wordFault", "(I)I"⟩
abbrev c_Te_readPeople : ByteArray := prog_6_method_10_code
abbrev y_Te_readPeople : MethodName := ⟨R_Te, "readPeople", "()V"⟩
abbrev c_Te_readCost : ByteArray := prog_6_method_11_code
abbrev y_Te_readCost : MethodName := ⟨R_Te, "readCost", "()V"⟩
abbrev c_Te_readTwo : ByteArray := prog_6_method_12_code
abbrev y_Te_readTwo : MethodName := ⟨R_Te, "readTwo", "(I)V"⟩
abbrev c_Te_readEnd : ByteArray := prog_6_method_13_code
abbrev y_Te_readEnd : MethodName := ⟨R_Te, "readEnd", "()V"⟩
abbrev c_Te_readWord : ByteArray := prog_6_method_14_code
abbrev y_Te_readWord : MethodName := ⟨R_Te, "readWord", "()I"⟩
abbrev c_Te_stands : ByteArray := prog_6_method_15_code
abbrev y_Te_stands : MethodName := ⟨R_Te, "stands", "(Ljava/lang/String;I)Z"⟩
abbrev c_Te_readNumber : ByteArray := prog_6_method_16_code
abbrev y_Te_readNumber : MethodName := ⟨R_Te, "readNumber", "(II)I"⟩
abbrev c_Te_skipBlanks : ByteArray := prog_6_method_17_code
abbrev y_Te_skipBlanks : MethodName := ⟨R_Te, "skipBlanks", "()V"⟩
abbrev c_Te_blame : ByteArray := prog_6_method_18_code
abbrev y_Te_blame : MethodName := ⟨R_Te, "blame", "(II)V"⟩
abbrev c_To_init : ByteArray := prog_7_method_1_code
abbrev y_To_init : MethodName := ⟨R_To, "<init>", "()V"⟩
abbrev c_To_clear : ByteArray := prog_7_method_2_code
abbrev y_To_clear : MethodName := ⟨R_To, "clear", "()V"⟩
abbrev c_To_forget : ByteArray := prog_7_method_3_code
abbrev y_To_forget : MethodName := ⟨R_To, "forget", "(I)V"⟩
abbrev c_To_copyFrom : ByteArray := prog_7_method_4_code
abbrev y_To_copyFrom : MethodName := ⟨R_To, "copyFrom", "(LUnlikeCounts$Town;)V"⟩
abbrev c_To_has : ByteArray := prog_7_method_5_code
abbrev y_To_has : MethodName := ⟨R_To, "has", "(I)Z"⟩
abbrev c_To_hasTwo : ByteArray := prog_7_method_6_code
abbrev y_To_hasTwo : MethodName := ⟨R_To, "hasTwo", "(II)Z"⟩
abbrev c_To_areFriends : ByteArray := prog_7_method_7_code
abbrev y_To_areFriends : MethodName := ⟨R_To, "areFriends", "(II)Z"⟩
abbrev c_To_countOf : ByteArray := prog_7_method_8_code
abbrev y_To_countOf : MethodName := ⟨R_To, "countOf", "(I)I"⟩
abbrev c_To_friendships : ByteArray := prog_7_method_9_code
abbrev y_To_friendships : MethodName := ⟨R_To, "friendships", "()I"⟩
abbrev c_To_pairNumber : ByteArray := prog_7_method_10_code
abbrev y_To_pairNumber : MethodName := ⟨R_To, "pairNumber", "(II)I"⟩
abbrev c_To_asNumber : ByteArray := prog_7_method_11_code
abbrev y_To_asNumber : MethodName := ⟨R_To, "asNumber", "([I)I"⟩
abbrev c_To_friendsIn : ByteArray := prog_7_method_12_code
abbrev y_To_friendsIn : MethodName := ⟨R_To, "friendsIn", "(II)I"⟩
abbrev c_To_alikeWith : ByteArray := prog_7_method_13_code
abbrev y_To_alikeWith : MethodName := ⟨R_To, "alikeWith", "(I)I"⟩
abbrev c_To_alikePairs : ByteArray := prog_7_method_14_code
abbrev y_To_alikePairs : MethodName := ⟨R_To, "alikePairs", "()I"⟩
abbrev c_To_mark : ByteArray := prog_7_method_15_code
abbrev y_To_mark : MethodName := ⟨R_To, "mark", "([IIIZ)V"⟩
abbrev c_To_barOf : ByteArray := prog_7_method_16_code
abbrev y_To_barOf : MethodName := ⟨R_To, "barOf", "(II)I"⟩
abbrev c_To_setBar : ByteArray := prog_7_method_17_code
abbrev y_To_setBar : MethodName := ⟨R_To, "setBar", "(III)V"⟩
abbrev c_To_allows : ByteArray := prog_7_method_18_code
abbrev y_To_allows : MethodName := ⟨R_To, "allows", "(IIZ)Z"⟩
abbrev c_To_addPerson : ByteArray := prog_7_method_19_code
abbrev y_To_addPerson : MethodName := ⟨R_To, "addPerson", "()V"⟩
abbrev c_To_removePerson : ByteArray := prog_7_method_20_code
abbrev y_To_removePerson : MethodName := ⟨R_To, "removePerson", "(I)V"⟩
abbrev c_To_closeGap : ByteArray := prog_7_method_21_code
abbrev y_To_closeGap : MethodName := ⟨R_To, "closeGap", "([II)V"⟩
abbrev c_To_sayCounts : ByteArray := prog_7_method_22_code
abbrev y_To_sayCounts : MethodName := ⟨R_To, "sayCounts", "()V"⟩
abbrev c_Wa_init : ByteArray := prog_8_method_1_code
abbrev y_Wa_init : MethodName := ⟨R_Wa, "<init>", "()V"⟩
abbrev c_Wa_acrossSides : ByteArray := prog_8_method_2_code
abbrev y_Wa_acrossSides : MethodName := ⟨R_Wa, "acrossSides", "(II)I"⟩
abbrev c_Wa_ofTwoSorts : ByteArray := prog_8_method_3_code
abbrev y_Wa_ofTwoSorts : MethodName := ⟨R_Wa, "ofTwoSorts", "(I)I"⟩
abbrev c_Wa_acrossFrom : ByteArray := prog_8_method_4_code
abbrev y_Wa_acrossFrom : MethodName := ⟨R_Wa, "acrossFrom", "(IIIII)I"⟩
abbrev c_Wa_spread : ByteArray := prog_8_method_5_code
abbrev y_Wa_spread : MethodName := ⟨R_Wa, "spread", "(II)I"⟩
abbrev c_Wa_sortedFrom : ByteArray := prog_8_method_6_code
abbrev y_Wa_sortedFrom : MethodName := ⟨R_Wa, "sortedFrom", "(IIII)I"⟩
abbrev c_Wa_allUnlike : ByteArray := prog_8_method_7_code
abbrev y_Wa_allUnlike : MethodName := ⟨R_Wa, "allUnlike", "(III)Z"⟩
abbrev c_Wa_unlikeBelow : ByteArray := prog_8_method_8_code
abbrev y_Wa_unlikeBelow : MethodName := ⟨R_Wa, "unlikeBelow", "(III)Z"⟩
abbrev c_We_init : ByteArray := prog_9_method_1_code
abbrev y_We_init : MethodName := ⟨R_We, "<init>", "()V"⟩
abbrev c_We_solve : ByteArray := prog_9_method_2_code
abbrev y_We_solve : MethodName := ⟨R_We, "solve", "(LUnlikeCounts$Town;)V"⟩
abbrev c_We_weightOf : ByteArray := prog_9_method_3_code
abbrev y_We_weightOf : MethodName := ⟨R_We, "weightOf", "(II)I"⟩
abbrev c_We_listFriendships : ByteArray := prog_9_method_4_code
abbrev y_We_listFriendships : MethodName := ⟨R_We, "listFriendships", "(LUnlikeCounts$Town;)V"⟩
abbrev c_We_weighFrom : ByteArray := prog_9_method_5_code
abbrev y_We_weighFrom : MethodName := ⟨R_We, "weighFrom", "(LUnlikeCounts$Weigher;III)Z"⟩
abbrev c_We_putWeight : ByteArray := prog_9_method_6_code
abbrev y_We_putWeight : MethodName := ⟨R_We, "putWeight", "(II)V"⟩
abbrev c_We_sumsDiffer : ByteArray := prog_9_method_7_code
abbrev y_We_sumsDiffer : MethodName := ⟨R_We, "sumsDiffer", "(II)Z"⟩
abbrev c_We_hasTwin : ByteArray := prog_9_method_8_code
abbrev y_We_hasTwin : MethodName := ⟨R_We, "hasTwin", "(II)Z"⟩
abbrev c_Ob_init : ByteArray := object_method_1_code
abbrev y_Ob_init : MethodName := ⟨R_Ob, "<init>", "()V"⟩
abbrev c_In_bitCount : ByteArray := prog_12_method_49_code
abbrev y_In_bitCount : MethodName := ⟨R_In, "bitCount", "(I)I"⟩
abbrev c_Ma_max : ByteArray := prog_13_method_65_code
abbrev y_Ma_max : MethodName := ⟨R_Ma, "max", "(II)I"⟩
abbrev c_Ma_min_II : ByteArray := prog_13_method_69_code
abbrev y_Ma_min_II : MethodName := ⟨R_Ma, "min", "(II)I"⟩
abbrev c_Ma_min_JJ : ByteArray := prog_13_method_70_code
abbrev y_Ma_min_JJ : MethodName := ⟨R_Ma, "min", "(JJ)J"⟩
abbrev c_Sg_charAt : ByteArray := prog_14_method_56_code
abbrev y_Sg_charAt : MethodName := ⟨R_Sg, "charAt", "(I)C"⟩
abbrev c_Sg_checkIndex : ByteArray := prog_14_method_155_code
abbrev y_Sg_checkIndex : MethodName := ⟨R_Sg, "checkIndex", "(II)V"⟩
abbrev c_Sg_coder : ByteArray := prog_14_method_152_code
abbrev y_Sg_coder : MethodName := ⟨R_Sg, "coder", "()B"⟩
abbrev c_Sg_isLatin1 : ByteArray := prog_14_method_154_code
abbrev y_Sg_isLatin1 : MethodName := ⟨R_Sg, "isLatin1", "()Z"⟩
abbrev c_Sg_length : ByteArray := prog_14_method_54_code
abbrev y_Sg_length : MethodName := ⟨R_Sg, "length", "()I"⟩
abbrev c_Sl_charAt : ByteArray := prog_15_method_2_code
abbrev y_Sl_charAt : MethodName := ⟨R_Sl, "charAt", "([BI)C"⟩
abbrev c_Su_charAt : ByteArray := prog_16_method_83_code
abbrev y_Su_charAt : MethodName := ⟨R_Su, "charAt", "([BI)C"⟩
abbrev c_Su_checkIndex : ByteArray := prog_16_method_91_code
abbrev y_Su_checkIndex : MethodName := ⟨R_Su, "checkIndex", "(I[B)V"⟩
abbrev c_Su_getChar : ByteArray := prog_16_method_5_code
abbrev y_Su_getChar : MethodName := ⟨R_Su, "getChar", "([BI)C"⟩
abbrev c_Su_length : ByteArray := prog_16_method_6_code
abbrev y_Su_length : MethodName := ⟨R_Su, "length", "([B)I"⟩
end
section
/-! THE VIRTUAL WORLD: 64 cells at places 0 .. 63, their shapes fixed; a memory says what ints and longs they hold -/
abbrev Mm : Type := (Nat → Nat → Int32) × (Nat → Nat → Int64)
abbrev GT : Type := Launch × Nat × (Nat → Nat) × va_G × (Nat → ClassId) × Nat × (Nat → Int32)
def g_l (G : GT) : Launch := G.1
def g_b (G : GT) : Nat := G.2.1
def g_ad (G : GT) : Nat → Nat := G.2.2.1
def g_D (G : GT) : va_G := G.2.2.2.1
def g_ct (G : GT) : Nat → ClassId := G.2.2.2.2.1
def g_n (G : GT) : Nat := G.2.2.2.2.2.1
def g_xs (G : GT) : Nat → Int32 := G.2.2.2.2.2.2
def g_A (G : GT) : Nat → Prop := fun q => g_b G ≤ q
def tv (G : GT) (v : Value) : Value := match v with
  | .ref a => .ref (g_ad G a)
  | .int x => .int x
  | .long x => .long x
  | w => w
def tyL (G : GT) : List (ClassId × FieldType) := [(g_ct G 0, .int), (g_ct G 1, .boolean), (g_ct G 2, .byte), (g_ct G 3, .long)]
def shL : List (Nat × Nat) := [(8, 0), (5, 0), (10, 8), (10, 8), (10, 8), (10, 8), (5, 0), (10, 8), (10, 8), (10, 8), (10, 8), (4, 0), (12, 400), (5, 0), (10, 8), (10, 8), (10, 8), (10, 8), (2, 0), (13, 256), (3, 0), (10, 6), (10, 7), (10, 6), (7, 0), (10, 8), (10, 8), (10, 8), (10, 8), (10, 8), (6, 0), (10, 25), (10, 6), (0, 0), (10, 30), (10, 30), (11, 30), (1, 0), (5, 0), (10, 8), (10, 8), (10, 8), (10, 8), (1, 0), (5, 0), (10, 8), (10, 8), (10, 8), (10, 8), (9, 0), (10, 8), (10, 8), (10, 400), (10, 8), (10, 9), (10, 8), (10, 8), (10, 8), (10, 8), (10, 30), (10, 30), (11, 30), (10, 40), (11, 2)]
def sh (k : Nat) : Nat × Nat := shL.getD k (99, 0)
def rfL : List (List Nat) := [[1, 6, 11, 18, 20, 24, 30, 33, 37, 43, 0], [0, 0, 0, 2, 3, 4, 5], [], [], [], [], [0, 0, 0, 7, 8, 9, 10], [], [], [], [], [12, 13, 0, 0, 0, 0, 0], [], [0, 0, 0, 14, 15, 16, 17], [], [], [], [], [19, 0, 0, 0, 0], [], [21, 22, 23, 0, 0, 0, 0, 0, 0, 0, 0, 0, 0, 0, 0, 0, 0], [], [], [], [25, 26, 27, 28, 29, 0, 0], [], [], [], [], [], [31, 32], [], [], [34, 35, 36, 0], [], [], [], [38, 0, 0], [0, 0, 0, 39, 40, 41, 42], [], [], [], [], [44, 0, 0], [0, 0, 0, 45, 46, 47, 48], [], [], [], [], [0, 0, 0, 0, 0, 0, 50, 0, 51, 52, 0, 0, 0, 0, 0, 0, 0, 0, 0, 0, 0, 0, 0, 53, 54, 55, 0, 0, 0, 0, 56, 57, 58, 0, 59, 60, 61, 62, 63], [], [], [], [], [], [], [], [], [], [], [], [], [], []]
def rf (a j : Nat) : Nat := (rfL.getD a []).getD j 0
def NC : Nat := 64

def kix (i : Nat) : Nat := [108, 114, 116, 118, 120].getD i 0
def ktx (i : Nat) : String := ["people", "friends", "barred", "must", "cost"].getD i ""
def klen : List Nat := [6, 7, 6, 4, 4]
def kbyt : List (List Int32) := [[112, 101, 111, 112, 108, 101], [102, 114, 105, 101, 110, 100, 115], [98, 97, 114, 114, 101, 100], [109, 117, 115, 116], [99, 111, 115, 116]]
def fv (G : GT) (M : Mm) (a c j : Nat) : Value := match fty c j with
  | .long => .long (M.2 a j)
  | .array _ => .ref (g_ad G (rf a j))
  | .object _ => .ref (g_ad G (rf a j))
  | _ => .int (M.1 a j)
def ent (G : GT) (M : Mm) (k : Nat) : va_E := if (sh k).1 < 10 then .inr ((sh k).1, (List.range (nf (sh k).1)).map (fv G M k (sh k).1)) else .inl (g_ct G ((sh k).1 - 10), ((sh k).2, if (sh k).1 = 13 then .inr (.inl (M.2 k)) else .inl (M.1 k)))
def wsOf (G : GT) (M : Mm) : va_W := (List.range NC).map (fun k => (g_ad G k, ent G M k))
def GOK (G : GT) : Prop := (∀ i j, i < NC → j < NC → g_ad G i = g_ad G j → i = j) ∧ ∀ i, i < NC → g_A G (g_ad G i)
def nestW : Cond → Bool
  | .fieldLinkNest .. => true
  | .methodLinkNest .. => true
  | _ => false
def ntw : List Cond := lw_tbl.filter nestW
def tw : List Cond := lw_tbl.filter goodWord
def KK (G : GT) (U : State) : Prop :=
  va_K (g_D G) classes (tyL G) U ∧ GOK G ∧ (∀ i, i < 5 → vk_R R_Te (kix i) (ktx i) (g_ad G (100 + i)) U) ∧ vk_S 5 klen kbyt (fun i => g_ad G (100 + i)) (fun i => g_ad G (110 + i)) (g_A G) U U.heap ∧ va_Z "java/lang/String" "COMPACT_STRINGS" "Z" (.int 1) (g_A G) U U.heap ∧ va_X (g_ad G 200) (g_n G) (g_xs G) U U.heap ∧ g_ad G 200 < U.heap.size ∧ ¬ g_A G (g_ad G 200) ∧ ∀ w ∈ ntw, va_Nw w U
theorem nest_warm {w : Cond} (hn : nestW w = true) {s U : State} (hW : s.WarmedH U.vm) (h : va_Nw w s) : va_Nw w U := by
  cases w <;> first | (cases hn; done) | exact va_Nw.warmF hW h | exact va_Nw.warmM hW h
theorem nest_same {w : Cond} (hn : nestW w = true) {s U : State} (hv : U.vm = s.vm) (h : va_Nw w s) : va_Nw w U := by
  cases w <;> first | (cases hn; done) | exact va_Nw.same rfl hv.symm h
theorem KK.go {G : GT} {s U : State} {locs : List Loc} (h : KK G s) (hW : s.WarmedH U.vm) (hS : va_S (g_A G) s.heap U.heap locs) : KK G U := by
  obtain ⟨h1, h2, h3, h4, h5, h6, h7, h8, h9⟩ := h
  exact ⟨va_K.moved hW.alike h1, h2, fun i hi => (h3 i hi).warm hW, (h4.moved hW.alike).kept hS.2.1, (h5.moved hW.alike).kept hS.2.1, (h6.moved hW.alike).kept (hS.2.1 _ h7 h8), Nat.lt_of_lt_of_le h7 hS.1, h8, fun w hw => nest_warm (List.mem_filter.mp hw).2 hW (h9 w hw)⟩
theorem KK.same {G : GT} {s U : State} (h : KK G s) (hv : U.vm = s.vm) (hh : U.heap = s.heap) : KK G U := by
  obtain ⟨h1, h2, h3, h4, h5, h6, h7, h8, h9⟩ := h
  have ha : s.vm.Alike U.vm := by rw [hv]; exact Vm.Alike.refl _
  exact ⟨va_K.moved ha h1, h2, fun i hi => (h3 i hi).same hv, by rw [hh]; exact h4.moved ha, by rw [hh]; exact h5.moved ha, by rw [hh]; exact h6.moved ha, by rw [hh]; exact h7, h8, fun w hw => nest_same (List.mem_filter.mp hw).2 hv (h9 w hw)⟩
theorem tv_cat (G : GT) (v : Value) : (tv G v).category = v.category := by cases v <;> rfl
/-! locals, by their places -/
def lvl (G : GT) : Nat → List (Option Value) → List (Nat × Value)
  | _, [] => []
  | i, none :: r => lvl G (i + 1) r
  | i, some v :: r => (i, tv G v) :: lvl G (i + 1) r
theorem lvl_mem {G : GT} {q : Nat × Value} : ∀ {i : Nat} {lv : List (Option Value)}, q ∈ lvl G i lv ↔ ∃ (j : Nat) (v : Value), lv[j]? = some (some v) ∧ q = (i + j, tv G v)
  | i, [] => by simp [lvl]
  | i, none :: r => by
    rw [lvl, lvl_mem (i := i + 1) (lv := r)]
    constructor
    · rintro ⟨j, v, h, rfl⟩
      exact ⟨j + 1, v, h, by rw [Nat.add_assoc, Nat.add_comm 1 j]⟩
    · rintro ⟨j, v, h, rfl⟩
      cases j with
      | zero => simp at h
      | succ j => exact ⟨j, v, h, by rw [Nat.add_assoc, Nat.add_comm 1 j]⟩
  | i, some w :: r => by
    rw [lvl, List.mem_cons, lvl_mem (i := i + 1) (lv := r)]
    constructor
    · rintro (rfl | ⟨j, v, h, rfl⟩)
      · exact ⟨0, w, rfl, rfl⟩
      · exact ⟨j + 1, v, h, by rw [Nat.add_assoc, Nat.add_comm 1 j]⟩
    · rintro ⟨j, v, h, rfl⟩
      cases j with
      | zero => simp at h; subst h; exact Or.inl rfl
      | succ j => exact Or.inr ⟨j, v, h, by rw [Nat.add_assoc, Nat.add_comm 1 j]⟩
def LV (G : GT) (ls : Array Slot) (nL : Nat) (lv : List (Option Value)) : Prop := lv_has ls nL (lvl G 0 lv)
theorem LV.at {G : GT} {ls : Array Slot} {nL : Nat} {lv : List (Option Value)} (h : LV G ls nL lv) {i : Nat} {v : Value} (hi : lv[i]? = some (some v)) : ls[i]? = some (.val (tv G v)) :=
  h.2.2 (i, tv G v) (lvl_mem.mpr ⟨i, v, hi, by rw [Nat.zero_add]⟩)
def isc2 : Option Value → Bool
  | some v => v.category == 2
  | none => false
def clr (lv : List (Option Value)) (i : Nat) : List (Option Value) := match i with
  | 0 => lv
  | j + 1 => if isc2 (lv.getD j none) = true then lv.set j none else lv
def st1 (lv : List (Option Value)) (i : Nat) (v : Value) : List (Option Value) := (clr lv i).set i (some v)
def st2 (lv : List (Option Value)) (i : Nat) (v : Value) : List (Option Value) := ((clr lv i).set (i + 1) none).set i (some v)
theorem clr_get {lv : List (Option Value)} {i j : Nat} {v : Value} (h : (clr lv i)[j]? = some (some v)) : lv[j]? = some (some v) ∧ ¬ (j + 1 = i ∧ v.category = 2) := by
  cases i with
  | zero => exact ⟨h, by omega⟩
  | succ i =>
    by_cases hc : isc2 (lv.getD i none) = true
    · rw [show clr lv (i + 1) = lv.set i none from if_pos hc] at h
      by_cases hj : j = i
      · subst hj
        rw [List.getElem?_set] at h
        split at h
        · split at h <;> simp at h
        · omega
      · rw [List.getElem?_set_ne (Ne.symm hj)] at h
        exact ⟨h, by omega⟩
    · rw [show clr lv (i + 1) = lv from if_neg hc] at h
      refine ⟨h, fun ⟨h1, h2⟩ => hc ?_⟩
      have : j = i := by omega
      subst this
      simp [List.getD, h, isc2, h2]
theorem LV.sto1 {G : GT} {ls : Array Slot} {nL : Nat} {lv : List (Option Value)} {i : Nat} {v : Value} (h : lv_has ls nL ((i, tv G v) :: (lvl G 0 lv).filter (fun q => !(q.1 == i) && !(q.1 + 1 == i && q.2.category == 2)))) : LV G ls nL (st1 lv i v) := by
  refine ⟨h.1, h.2.1, fun q hq => h.2.2 q ?_⟩
  obtain ⟨j, w, hj, rfl⟩ := lvl_mem.mp hq
  rw [Nat.zero_add]
  unfold st1 at hj
  by_cases hji : j = i
  · subst hji
    rw [List.getElem?_set] at hj
    split at hj
    · split at hj
      · simp at hj; subst hj; exact List.mem_cons_self
      · simp at hj
    · omega
  · rw [List.getElem?_set_ne (Ne.symm hji)] at hj
    obtain ⟨h1, h2⟩ := clr_get hj
    refine List.mem_cons_of_mem _ (List.mem_filter.mpr ⟨lvl_mem.mpr ⟨j, w, h1, by rw [Nat.zero_add]⟩, ?_⟩)
    simp only [Bool.and_eq_true, Bool.not_eq_true', beq_eq_false_iff_ne, Bool.and_eq_false_iff, ne_eq, tv_cat]
    refine ⟨hji, ?_⟩
    by_cases e : j + 1 = i
    · exact Or.inr (fun z => h2 ⟨e, z⟩)
    · exact Or.inl e
theorem LV.sto2 {G : GT} {ls : Array Slot} {nL : Nat} {lv : List (Option Value)} {i : Nat} {v : Value} (h : lv_has ls nL ((i, tv G v) :: (lvl G 0 lv).filter (fun q => !(q.1 == i) && (!(q.1 == i + 1) && !(q.1 + 1 == i && q.2.category == 2))))) : LV G ls nL (st2 lv i v) := by
  refine ⟨h.1, h.2.1, fun q hq => h.2.2 q ?_⟩
  obtain ⟨j, w, hj, rfl⟩ := lvl_mem.mp hq
  rw [Nat.zero_add]
  unfold st2 at hj
  by_cases hji : j = i
  · subst hji
    rw [List.getElem?_set] at hj
    split at hj
    · split at hj
      · simp at hj; subst hj; exact List.mem_cons_self
      · simp at hj
    · omega
  · rw [List.getElem?_set_ne (Ne.symm hji)] at hj
    by_cases hji2 : j = i + 1
    · subst hji2
      rw [List.getElem?_set] at hj
      split at hj
      · split at hj <;> simp at hj
      · omega
    · rw [List.getElem?_set_ne (Ne.symm hji2)] at hj
      obtain ⟨h1, h2⟩ := clr_get hj
      refine List.mem_cons_of_mem _ (List.mem_filter.mpr ⟨lvl_mem.mpr ⟨j, w, h1, by rw [Nat.zero_add]⟩, ?_⟩)
      simp only [Bool.and_eq_true, Bool.not_eq_true', beq_eq_false_iff_ne, Bool.and_eq_false_iff, ne_eq, tv_cat]
      refine ⟨hji, hji2, ?_⟩
      by_cases e : j + 1 = i
      · exact Or.inr (fun z => h2 ⟨e, z⟩)
      · exact Or.inl e
/-! the judgement over the virtual world: from here the method comes to its end with the answer and the memory R -/
theorem ntw_mem {w : Cond} (i : Nat) (h : lw_tbl[i]? = some w) (g : nestW w = true) : w ∈ ntw := List.mem_filter.mpr ⟨List.mem_of_getElem? h, g⟩
theorem tw_mem {w : Cond} (i : Nat) (h : lw_tbl[i]? = some w) (g : goodWord w = true) : w ∈ tw := List.mem_filter.mpr ⟨List.mem_of_getElem? h, g⟩
theorem tw_good : GoodIn tw tw := fun w h => ⟨h, good_of_word (List.mem_filter.mp h).2⟩
def RetI (ret : Option FieldType) (i : Instr) (v : Option Value) : Prop :=
  (i = .ireturn ∧ ∃ (x : Int32) (ty : FieldType), v = some (.int x) ∧ ret = some ty ∧ narrow ty (.int x) = .int x) ∨ (i = .lreturn ∧ ∃ x : Int64, v = some (.long x) ∧ ret = some .long) ∨ (i = .return_ ∧ v = none ∧ ret = none) ∨ (i = .areturn ∧ ∃ (a : Nat) (n : String), v = some (.ref a) ∧ ret = some (.object n))
def Cx (G : GT) (d : Nat) (cc : ByteArray) (own : String) (nL : Nat) (ret : Option FieldType) (R : Option Value × Mm) (p : Program) (e : Env) (Rm : Room) (s : State) (m : MethodId) (args : Array Value) (below : List Frame) (meth : Method) (c : Code) (cells slots : Nat) (Q : State → Prop) : Prop :=
  p.tables.exec = Jvm.exec ∧ c.code = cc ∧ c.maxLocals = nL ∧ s.vm.findClass own = some m.cls ∧ (∀ w ∈ tw, w.before args s = true) ∧ KK G s ∧ (d ≤ Rm.frames ∧ 64 * d ≤ Rm.locals ∧ cells ≤ Rm.cells ∧ slots ≤ Rm.slots) ∧
  ∀ (H : Heap) (locs : List Loc) (ls : Array Slot) (pc : Nat) (i : Instr), va_P (g_D G) classes (wsOf G R.2) H → va_S (g_A G) s.heap H locs → RetI ret i R.1 → decode cc pc = .ok (i, 1) → W p (g_l G) e Rm s m args below meth c H locs cells slots Q (F0 m pc ls (R.1.toList.map (tv G)))
def SW (G : GT) (d : Nat) (cc : ByteArray) (own : String) (nL : Nat) (ret : Option FieldType) (R : Option Value × Mm) (M : Mm) (pc : Nat) (lv : List (Option Value)) (st : List Value) : Prop :=
  ∀ (p : Program) (e : Env) (Rm : Room) (s : State) (m : MethodId) (args : Array Value) (below : List Frame) (meth : Method) (c : Code) (cells slots : Nat) (Q : State → Prop), Cx G d cc own nL ret R p e Rm s m args below meth c cells slots Q →
    ∀ (H : Heap) (locs : List Loc) (ls : Array Slot), va_P (g_D G) classes (wsOf G M) H → va_S (g_A G) s.heap H locs → LV G ls nL lv → W p (g_l G) e Rm s m args below meth c H locs cells slots Q (F0 m pc ls (st.map (tv G)))
section SWR
variable {G : GT} {d : Nat} {cc : ByteArray} {own : String} {nL : Nat} {ret : Option FieldType} {R : Option Value × Mm} {M : Mm} {pc : Nat} {lv : List (Option Value)} {st : List Value}
theorem SW.lift {pc' : Nat} {st' : List Value} (f : ∀ (p : Program) (e : Env) (Rm : Room) (s : State) (m : MethodId) (args : Array Value) (below : List Frame) (meth : Method) (c : Code) (cells slots : Nat) (Q : State → Prop) (H : Heap) (locs : List Loc) (ls : Array Slot), p.tables.exec = Jvm.exec → c.code = cc → W p (g_l G) e Rm s m args below meth c H locs cells slots Q (F0 m pc' ls (st'.map (tv G))) → W p (g_l G) e Rm s m args below meth c H locs cells slots Q (F0 m pc ls (st.map (tv G)))) (k : SW G d cc own nL ret R M pc' lv st') : SW G d cc own nL ret R M pc lv st :=
  fun p e Rm s m args below meth c cells slots Q C H locs ls hP hS hL => f p e Rm s m args below meth c cells slots Q H locs ls C.1 C.2.1 (k p e Rm s m args below meth c cells slots Q C H locs ls hP hS hL)

theorem r_iadd {x y : Int32} (hd : decode cc pc = .ok (.iadd, 1))  (k : SW G d cc own nL ret R M (pc + 1) lv (.int (x + y) :: st)) : SW G d cc own nL ret R M pc lv (.int y :: .int x :: st) := SW.lift (fun _ _ _ _ _ _ _ _ _ _ _ _ _ _ _ hx hb w => lv_iadd hx hb hd w) k
theorem r_isub {x y : Int32} (hd : decode cc pc = .ok (.isub, 1))  (k : SW G d cc own nL ret R M (pc + 1) lv (.int (x - y) :: st)) : SW G d cc own nL ret R M pc lv (.int y :: .int x :: st) := SW.lift (fun _ _ _ _ _ _ _ _ _ _ _ _ _ _ _ hx hb w => lv_isub hx hb hd w) k
theorem r_imul {x y : Int32} (hd : decode cc pc = .ok (.imul, 1))  (k : SW G d cc own nL ret R M (pc + 1) lv (.int (x * y) :: st)) : SW G d cc own nL ret R M pc lv (.int y :: .int x :: st) := SW.lift (fun _ _ _ _ _ _ _ _ _ _ _ _ _ _ _ hx hb w => lv_imul hx hb hd w) k
theorem r_iand {x y : Int32} (hd : decode cc pc = .ok (.iand, 1))  (k : SW G d cc own nL ret R M (pc + 1) lv (.int (x &&& y) :: st)) : SW G d cc own nL ret R M pc lv (.int y :: .int x :: st) := SW.lift (fun _ _ _ _ _ _ _ _ _ _ _ _ _ _ _ hx hb w => lv_iand hx hb hd w) k
theorem r_ior {x y : Int32} (hd : decode cc pc = .ok (.ior, 1))  (k : SW G d cc own nL ret R M (pc + 1) lv (.int (x ||| y) :: st)) : SW G d cc own nL ret R M pc lv (.int y :: .int x :: st) := SW.lift (fun _ _ _ _ _ _ _ _ _ _ _ _ _ _ _ hx hb w => lv_ior hx hb hd w) k
theorem r_ixor {x y : Int32} (hd : decode cc pc = .ok (.ixor, 1))  (k : SW G d cc own nL ret R M (pc + 1) lv (.int (x ^^^ y) :: st)) : SW G d cc own nL ret R M pc lv (.int y :: .int x :: st) := SW.lift (fun _ _ _ _ _ _ _ _ _ _ _ _ _ _ _ hx hb w => lv_ixor hx hb hd w) k
theorem r_ishl {x y : Int32} (hd : decode cc pc = .ok (.ishl, 1))  (k : SW G d cc own nL ret R M (pc + 1) lv (.int (x <<< (y &&& 31)) :: st)) : SW G d cc own nL ret R M pc lv (.int y :: .int x :: st) := SW.lift (fun _ _ _ _ _ _ _ _ _ _ _ _ _ _ _ hx hb w => lv_ishl hx hb hd w) k
theorem r_ishr {x y : Int32} (hd : decode cc pc = .ok (.ishr, 1))  (k : SW G d cc own nL ret R M (pc + 1) lv (.int (x >>> (y &&& 31)) :: st)) : SW G d cc own nL ret R M pc lv (.int y :: .int x :: st) := SW.lift (fun _ _ _ _ _ _ _ _ _ _ _ _ _ _ _ hx hb w => lv_ishr hx hb hd w) k
theorem r_idiv {x y : Int32} (hd : decode cc pc = .ok (.idiv, 1)) (hne : ¬ y = 0) (k : SW G d cc own nL ret R M (pc + 1) lv (.int (x / y) :: st)) : SW G d cc own nL ret R M pc lv (.int y :: .int x :: st) := SW.lift (fun _ _ _ _ _ _ _ _ _ _ _ _ _ _ _ hx hb w => lv_idiv hx hb hd hne w) k
theorem r_irem {x y : Int32} (hd : decode cc pc = .ok (.irem, 1)) (hne : ¬ y = 0) (k : SW G d cc own nL ret R M (pc + 1) lv (.int (x - x / y * y) :: st)) : SW G d cc own nL ret R M pc lv (.int y :: .int x :: st) := SW.lift (fun _ _ _ _ _ _ _ _ _ _ _ _ _ _ _ hx hb w => lv_irem hx hb hd hne w) k
theorem r_ladd {x y : Int64} (hd : decode cc pc = .ok (.ladd, 1))  (k : SW G d cc own nL ret R M (pc + 1) lv (.long (x + y) :: st)) : SW G d cc own nL ret R M pc lv (.long y :: .long x :: st) := SW.lift (fun _ _ _ _ _ _ _ _ _ _ _ _ _ _ _ hx hb w => lv_ladd hx hb hd w) k
theorem r_lsub {x y : Int64} (hd : decode cc pc = .ok (.lsub, 1))  (k : SW G d cc own nL ret R M (pc + 1) lv (.long (x - y) :: st)) : SW G d cc own nL ret R M pc lv (.long y :: .long x :: st) := SW.lift (fun _ _ _ _ _ _ _ _ _ _ _ _ _ _ _ hx hb w => lv_lsub hx hb hd w) k
theorem r_lmul {x y : Int64} (hd : decode cc pc = .ok (.lmul, 1))  (k : SW G d cc own nL ret R M (pc + 1) lv (.long (x * y) :: st)) : SW G d cc own nL ret R M pc lv (.long y :: .long x :: st) := SW.lift (fun _ _ _ _ _ _ _ _ _ _ _ _ _ _ _ hx hb w => lv_lmul hx hb hd w) k
theorem r_land {x y : Int64} (hd : decode cc pc = .ok (.land, 1))  (k : SW G d cc own nL ret R M (pc + 1) lv (.long (x &&& y) :: st)) : SW G d cc own nL ret R M pc lv (.long y :: .long x :: st) := SW.lift (fun _ _ _ _ _ _ _ _ _ _ _ _ _ _ _ hx hb w => lv_land hx hb hd w) k
theorem r_lor {x y : Int64} (hd : decode cc pc = .ok (.lor, 1))  (k : SW G d cc own nL ret R M (pc + 1) lv (.long (x ||| y) :: st)) : SW G d cc own nL ret R M pc lv (.long y :: .long x :: st) := SW.lift (fun _ _ _ _ _ _ _ _ _ _ _ _ _ _ _ hx hb w => lv_lor hx hb hd w) k
theorem r_lrem {x y : Int64} (hd : decode cc pc = .ok (.lrem, 1)) (hne : ¬ y = 0) (k : SW G d cc own nL ret R M (pc + 1) lv (.long (x - x / y * y) :: st)) : SW G d cc own nL ret R M pc lv (.long y :: .long x :: st) := SW.lift (fun _ _ _ _ _ _ _ _ _ _ _ _ _ _ _ hx hb w => lv_lrem hx hb hd hne w) k
theorem r_iushr {x y : Int32} (hd : decode cc pc = .ok (.iushr, 1))  (k : SW G d cc own nL ret R M (pc + 1) lv (.int ((x.toUInt32 >>> (y.toUInt32 &&& Int32.toUInt32 31)).toInt32) :: st)) : SW G d cc own nL ret R M pc lv (.int y :: .int x :: st) := SW.lift (fun _ _ _ _ _ _ _ _ _ _ _ _ _ _ _ hx hb w => lv_iushr hx hb hd rfl w) k
theorem r_lshl {x : Int64} {y : Int32} (hd : decode cc pc = .ok (.lshl, 1))  (k : SW G d cc own nL ret R M (pc + 1) lv (.long (x <<< (y.toInt64 &&& 63)) :: st)) : SW G d cc own nL ret R M pc lv (.int y :: .long x :: st) := SW.lift (fun _ _ _ _ _ _ _ _ _ _ _ _ _ _ _ hx hb w => lv_lshl hx hb hd rfl w) k
theorem r_lshr {x : Int64} {y : Int32} (hd : decode cc pc = .ok (.lshr, 1))  (k : SW G d cc own nL ret R M (pc + 1) lv (.long (x >>> (y.toInt64 &&& 63)) :: st)) : SW G d cc own nL ret R M pc lv (.int y :: .long x :: st) := SW.lift (fun _ _ _ _ _ _ _ _ _ _ _ _ _ _ _ hx hb w => lv_lshr hx hb hd rfl w) k
theorem r_lcmp {x y : Int64} (hd : decode cc pc = .ok (.lcmp, 1))  (k : SW G d cc own nL ret R M (pc + 1) lv (.int (lg_cmp x y) :: st)) : SW G d cc own nL ret R M pc lv (.long y :: .long x :: st) := SW.lift (fun _ _ _ _ _ _ _ _ _ _ _ _ _ _ _ hx hb w => W.lcmp hx hb hd w) k
theorem r_i2l {x : Int32} (hd : decode cc pc = .ok (.i2l, 1))  (k : SW G d cc own nL ret R M (pc + 1) lv (.long x.toInt64 :: st)) : SW G d cc own nL ret R M pc lv (.int x :: st) := SW.lift (fun _ _ _ _ _ _ _ _ _ _ _ _ _ _ _ hx hb w => lv_i2l hx hb hd rfl w) k
theorem r_l2i {x : Int64} (hd : decode cc pc = .ok (.l2i, 1))  (k : SW G d cc own nL ret R M (pc + 1) lv (.int x.toInt32 :: st)) : SW G d cc own nL ret R M pc lv (.long x :: st) := SW.lift (fun _ _ _ _ _ _ _ _ _ _ _ _ _ _ _ hx hb w => lv_l2i hx hb hd rfl w) k
theorem r_i2b {x : Int32} (hd : decode cc pc = .ok (.i2b, 1))  (k : SW G d cc own nL ret R M (pc + 1) lv (.int x.toInt8.toInt32 :: st)) : SW G d cc own nL ret R M pc lv (.int x :: st) := SW.lift (fun _ _ _ _ _ _ _ _ _ _ _ _ _ _ _ hx hb w => lv_i2b hx hb hd rfl w) k
theorem r_i2c {x : Int32} (hd : decode cc pc = .ok (.i2c, 1))  (k : SW G d cc own nL ret R M (pc + 1) lv (.int (x.toUInt32 % 65536).toInt32 :: st)) : SW G d cc own nL ret R M pc lv (.int x :: st) := SW.lift (fun _ _ _ _ _ _ _ _ _ _ _ _ _ _ _ hx hb w => lv_i2c hx hb hd rfl w) k
theorem r_iconst {n : Int} {v : Int32} (hd : decode cc pc = .ok (.iconst n, 1)) (hv : Int32.ofInt n = v) (k : SW G d cc own nL ret R M (pc + 1) lv (.int v :: st)) : SW G d cc own nL ret R M pc lv st := SW.lift (fun _ _ _ _ _ _ _ _ _ _ _ _ _ _ _ hx hb w => lv_iconst hx hb hd hv w) k
theorem r_bipush {n : Int} {v : Int32} (hd : decode cc pc = .ok (.bipush n, 2)) (hv : (Int8.ofInt n).toInt32 = v) (k : SW G d cc own nL ret R M (pc + 2) lv (.int v :: st)) : SW G d cc own nL ret R M pc lv st := SW.lift (fun _ _ _ _ _ _ _ _ _ _ _ _ _ _ _ hx hb w => lv_bipush hx hb hd hv w) k
theorem r_sipush {n : Int} {v : Int32} (hd : decode cc pc = .ok (.sipush n, 3)) (hv : (Int16.ofInt n).toInt32 = v) (k : SW G d cc own nL ret R M (pc + 3) lv (.int v :: st)) : SW G d cc own nL ret R M pc lv st := SW.lift (fun _ _ _ _ _ _ _ _ _ _ _ _ _ _ _ hx hb w => lv_sipush hx hb hd hv w) k
theorem r_lconst {n : Fin 2} {v : Int64} (hd : decode cc pc = .ok (.lconst n, 1)) (hv : Int64.ofNat (n : Nat) = v) (k : SW G d cc own nL ret R M (pc + 1) lv (.long v :: st)) : SW G d cc own nL ret R M pc lv st := SW.lift (fun _ _ _ _ _ _ _ _ _ _ _ _ _ _ _ hx hb w => lv_lconst hx hb hd hv w) k
theorem r_dup {va : Value} (hd : decode cc pc = .ok (.dup, 1)) (h1 : va.category = 1) (k : SW G d cc own nL ret R M (pc + 1) lv (va :: va :: st)) : SW G d cc own nL ret R M pc lv (va :: st) := SW.lift (fun _ _ _ _ _ _ _ _ _ _ _ _ _ _ _ hx hb w => lv_dup hx hb hd ((tv_cat G va).trans h1) w) k
theorem r_pop {va : Value} (hd : decode cc pc = .ok (.pop, 1)) (h1 : va.category = 1) (k : SW G d cc own nL ret R M (pc + 1) lv (st)) : SW G d cc own nL ret R M pc lv (va :: st) := SW.lift (fun _ _ _ _ _ _ _ _ _ _ _ _ _ _ _ hx hb w => lv_pop hx hb hd ((tv_cat G va).trans h1) w) k
theorem r_dup_x1 {va vb : Value} (hd : decode cc pc = .ok (.dup_x1, 1)) (h1 : va.category = 1) (h2 : vb.category = 1) (k : SW G d cc own nL ret R M (pc + 1) lv (va :: vb :: va :: st)) : SW G d cc own nL ret R M pc lv (va :: vb :: st) := SW.lift (fun _ _ _ _ _ _ _ _ _ _ _ _ _ _ _ hx hb w => lv_dup_x1 hx hb hd ((tv_cat G va).trans h1) ((tv_cat G vb).trans h2) w) k
theorem r_dup2 {va vb : Value} (hd : decode cc pc = .ok (.dup2, 1)) (h1 : va.category = 1) (h2 : vb.category = 1) (k : SW G d cc own nL ret R M (pc + 1) lv (va :: vb :: va :: vb :: st)) : SW G d cc own nL ret R M pc lv (va :: vb :: st) := SW.lift (fun _ _ _ _ _ _ _ _ _ _ _ _ _ _ _ hx hb w => lv_dup2_11 hx hb hd ((tv_cat G va).trans h1) ((tv_cat G vb).trans h2) w) k
theorem r_if_eq {x : Int32} {off : Int} (tgt : Nat) (hd : decode cc pc = .ok (.ifCond .eq off, 3)) (ht : (pc : Int) + off = (tgt : Int)) (kt : x = 0 → SW G d cc own nL ret R M tgt lv st) (kf : ¬ x = 0 → SW G d cc own nL ret R M (pc + 3) lv st) : SW G d cc own nL ret R M pc lv (.int x :: st) :=
  fun p e Rm s m args below meth c cells slots Q C H locs ls hP hS hL => lv_if_eq C.1 C.2.1 hd ht (fun q => kt q p e Rm s m args below meth c cells slots Q C H locs ls hP hS hL) (fun q => kf q p e Rm s m args below meth c cells slots Q C H locs ls hP hS hL)
theorem r_icmp_eq {x y : Int32} {off : Int} (tgt : Nat) (hd : decode cc pc = .ok (.if_icmp .eq off, 3)) (ht : (pc : Int) + off = (tgt : Int)) (kt : x = y → SW G d cc own nL ret R M tgt lv st) (kf : ¬ x = y → SW G d cc own nL ret R M (pc + 3) lv st) : SW G d cc own nL ret R M pc lv (.int y :: .int x :: st) :=
  fun p e Rm s m args below meth c cells slots Q C H locs ls hP hS hL => lv_icmp_eq C.1 C.2.1 hd ht (fun q => kt q p e Rm s m args below meth c cells slots Q C H locs ls hP hS hL) (fun q => kf q p e Rm s m args below meth c cells slots Q C H locs ls hP hS hL)
theorem r_if_ne {x : Int32} {off : Int} (tgt : Nat) (hd : decode cc pc = .ok (.ifCond .ne off, 3)) (ht : (pc : Int) + off = (tgt : Int)) (kt : ¬ x = 0 → SW G d cc own nL ret R M tgt lv st) (kf : x = 0 → SW G d cc own nL ret R M (pc + 3) lv st) : SW G d cc own nL ret R M pc lv (.int x :: st) :=
  fun p e Rm s m args below meth c cells slots Q C H locs ls hP hS hL => lv_if_ne C.1 C.2.1 hd ht (fun q => kt q p e Rm s m args below meth c cells slots Q C H locs ls hP hS hL) (fun q => kf q p e Rm s m args below meth c cells slots Q C H locs ls hP hS hL)
theorem r_icmp_ne {x y : Int32} {off : Int} (tgt : Nat) (hd : decode cc pc = .ok (.if_icmp .ne off, 3)) (ht : (pc : Int) + off = (tgt : Int)) (kt : ¬ x = y → SW G d cc own nL ret R M tgt lv st) (kf : x = y → SW G d cc own nL ret R M (pc + 3) lv st) : SW G d cc own nL ret R M pc lv (.int y :: .int x :: st) :=
  fun p e Rm s m args below meth c cells slots Q C H locs ls hP hS hL => lv_icmp_ne C.1 C.2.1 hd ht (fun q => kt q p e Rm s m args below meth c cells slots Q C H locs ls hP hS hL) (fun q => kf q p e Rm s m args below meth c cells slots Q C H locs ls hP hS hL)
theorem r_if_lt {x : Int32} {off : Int} (tgt : Nat) (hd : decode cc pc = .ok (.ifCond .lt off, 3)) (ht : (pc : Int) + off = (tgt : Int)) (kt : x < 0 → SW G d cc own nL ret R M tgt lv st) (kf : ¬ x < 0 → SW G d cc own nL ret R M (pc + 3) lv st) : SW G d cc own nL ret R M pc lv (.int x :: st) :=
  fun p e Rm s m args below meth c cells slots Q C H locs ls hP hS hL => lv_if_lt C.1 C.2.1 hd ht (fun q => kt q p e Rm s m args below meth c cells slots Q C H locs ls hP hS hL) (fun q => kf q p e Rm s m args below meth c cells slots Q C H locs ls hP hS hL)
theorem r_icmp_lt {x y : Int32} {off : Int} (tgt : Nat) (hd : decode cc pc = .ok (.if_icmp .lt off, 3)) (ht : (pc : Int) + off = (tgt : Int)) (kt : x < y → SW G d cc own nL ret R M tgt lv st) (kf : ¬ x < y → SW G d cc own nL ret R M (pc + 3) lv st) : SW G d cc own nL ret R M pc lv (.int y :: .int x :: st) :=
  fun p e Rm s m args below meth c cells slots Q C H locs ls hP hS hL => lv_icmp_lt C.1 C.2.1 hd ht (fun q => kt q p e Rm s m args below meth c cells slots Q C H locs ls hP hS hL) (fun q => kf q p e Rm s m args below meth c cells slots Q C H locs ls hP hS hL)
theorem r_if_ge {x : Int32} {off : Int} (tgt : Nat) (hd : decode cc pc = .ok (.ifCond .ge off, 3)) (ht : (pc : Int) + off = (tgt : Int)) (kt : 0 ≤ x → SW G d cc own nL ret R M tgt lv st) (kf : ¬ 0 ≤ x → SW G d cc own nL ret R M (pc + 3) lv st) : SW G d cc own nL ret R M pc lv (.int x :: st) :=
  fun p e Rm s m args below meth c cells slots Q C H locs ls hP hS hL => lv_if_ge C.1 C.2.1 hd ht (fun q => kt q p e Rm s m args below meth c cells slots Q C H locs ls hP hS hL) (fun q => kf q p e Rm s m args below meth c cells slots Q C H locs ls hP hS hL)
theorem r_icmp_ge {x y : Int32} {off : Int} (tgt : Nat) (hd : decode cc pc = .ok (.if_icmp .ge off, 3)) (ht : (pc : Int) + off = (tgt : Int)) (kt : y ≤ x → SW G d cc own nL ret R M tgt lv st) (kf : ¬ y ≤ x → SW G d cc own nL ret R M (pc + 3) lv st) : SW G d cc own nL ret R M pc lv (.int y :: .int x :: st) :=
  fun p e Rm s m args below meth c cells slots Q C H locs ls hP hS hL => lv_icmp_ge C.1 C.2.1 hd ht (fun q => kt q p e Rm s m args below meth c cells slots Q C H locs ls hP hS hL) (fun q => kf q p e Rm s m args below meth c cells slots Q C H locs ls hP hS hL)
theorem r_if_gt {x : Int32} {off : Int} (tgt : Nat) (hd : decode cc pc = .ok (.ifCond .gt off, 3)) (ht : (pc : Int) + off = (tgt : Int)) (kt : 0 < x → SW G d cc own nL ret R M tgt lv st) (kf : ¬ 0 < x → SW G d cc own nL ret R M (pc + 3) lv st) : SW G d cc own nL ret R M pc lv (.int x :: st) :=
  fun p e Rm s m args below meth c cells slots Q C H locs ls hP hS hL => lv_if_gt C.1 C.2.1 hd ht (fun q => kt q p e Rm s m args below meth c cells slots Q C H locs ls hP hS hL) (fun q => kf q p e Rm s m args below meth c cells slots Q C H locs ls hP hS hL)
theorem r_icmp_gt {x y : Int32} {off : Int} (tgt : Nat) (hd : decode cc pc = .ok (.if_icmp .gt off, 3)) (ht : (pc : Int) + off = (tgt : Int)) (kt : y < x → SW G d cc own nL ret R M tgt lv st) (kf : ¬ y < x → SW G d cc own nL ret R M (pc + 3) lv st) : SW G d cc own nL ret R M pc lv (.int y :: .int x :: st) :=
  fun p e Rm s m args below meth c cells slots Q C H locs ls hP hS hL => lv_icmp_gt C.1 C.2.1 hd ht (fun q => kt q p e Rm s m args below meth c cells slots Q C H locs ls hP hS hL) (fun q => kf q p e Rm s m args below meth c cells slots Q C H locs ls hP hS hL)
theorem r_if_le {x : Int32} {off : Int} (tgt : Nat) (hd : decode cc pc = .ok (.ifCond .le off, 3)) (ht : (pc : Int) + off = (tgt : Int)) (kt : x ≤ 0 → SW G d cc own nL ret R M tgt lv st) (kf : ¬ x ≤ 0 → SW G d cc own nL ret R M (pc + 3) lv st) : SW G d cc own nL ret R M pc lv (.int x :: st) :=
  fun p e Rm s m args below meth c cells slots Q C H locs ls hP hS hL => lv_if_le C.1 C.2.1 hd ht (fun q => kt q p e Rm s m args below meth c cells slots Q C H locs ls hP hS hL) (fun q => kf q p e Rm s m args below meth c cells slots Q C H locs ls hP hS hL)
theorem r_icmp_le {x y : Int32} {off : Int} (tgt : Nat) (hd : decode cc pc = .ok (.if_icmp .le off, 3)) (ht : (pc : Int) + off = (tgt : Int)) (kt : x ≤ y → SW G d cc own nL ret R M tgt lv st) (kf : ¬ x ≤ y → SW G d cc own nL ret R M (pc + 3) lv st) : SW G d cc own nL ret R M pc lv (.int y :: .int x :: st) :=
  fun p e Rm s m args below meth c cells slots Q C H locs ls hP hS hL => lv_icmp_le C.1 C.2.1 hd ht (fun q => kt q p e Rm s m args below meth c cells slots Q C H locs ls hP hS hL) (fun q => kf q p e Rm s m args below meth c cells slots Q C H locs ls hP hS hL)
theorem r_iload_n {q : Fin 4} {x : Int32} (i : Nat) (hd : decode cc pc = .ok (.iload_n q, 1)) (hi : (q : Nat) = i) (hl : lv[i]? = some (some (.int x))) (k : SW G d cc own nL ret R M (pc + 1) lv (.int x :: st)) : SW G d cc own nL ret R M pc lv st :=
  fun p e Rm s m args below meth c cells slots Q C H locs ls hP hS hL => lv_iload_n C.1 C.2.1 hd hi (hL.at hl) (k p e Rm s m args below meth c cells slots Q C H locs ls hP hS hL)
theorem r_iload {x : Int32} {i : Nat} (hd : decode cc pc = .ok (.iload i, 2)) (hl : lv[i]? = some (some (.int x))) (k : SW G d cc own nL ret R M (pc + 2) lv (.int x :: st)) : SW G d cc own nL ret R M pc lv st :=
  fun p e Rm s m args below meth c cells slots Q C H locs ls hP hS hL => lv_iload C.1 C.2.1 hd (hL.at hl) (k p e Rm s m args below meth c cells slots Q C H locs ls hP hS hL)
theorem r_istore_n {q : Fin 4} {x : Int32} {lv' : List (Option Value)} (i : Nat) (hd : decode cc pc = .ok (.istore_n q, 1)) (hi : (q : Nat) = i) (hn : i < nL) (hl : st1 lv i (.int x) = lv') (k : SW G d cc own nL ret R M (pc + 1) lv' st) : SW G d cc own nL ret R M pc lv (.int x :: st) :=
  fun p e Rm s m args below meth c cells slots Q C H locs ls hP hS hL => lv_istore_n C.1 C.2.1 hd hi hL hn rfl (fun ls' hL' => k p e Rm s m args below meth c cells slots Q C H locs ls' hP hS (hl ▸ LV.sto1 (v := .int x) hL'))
theorem r_istore {x : Int32} {i : Nat} {lv' : List (Option Value)} (hd : decode cc pc = .ok (.istore i, 2)) (hn : i < nL) (hl : st1 lv i (.int x) = lv') (k : SW G d cc own nL ret R M (pc + 2) lv' st) : SW G d cc own nL ret R M pc lv (.int x :: st) :=
  fun p e Rm s m args below meth c cells slots Q C H locs ls hP hS hL => lv_istore C.1 C.2.1 hd hL hn rfl (fun ls' hL' => k p e Rm s m args below meth c cells slots Q C H locs ls' hP hS (hl ▸ LV.sto1 (v := .int x) hL'))
theorem r_lload_n {q : Fin 4} {x : Int64} (i : Nat) (hd : decode cc pc = .ok (.lload_n q, 1)) (hi : (q : Nat) = i) (hl : lv[i]? = some (some (.long x))) (k : SW G d cc own nL ret R M (pc + 1) lv (.long x :: st)) : SW G d cc own nL ret R M pc lv st :=
  fun p e Rm s m args below meth c cells slots Q C H locs ls hP hS hL => lv_lload_n C.1 C.2.1 hd hi (hL.at hl) (k p e Rm s m args below meth c cells slots Q C H locs ls hP hS hL)
theorem r_lload {x : Int64} {i : Nat} (hd : decode cc pc = .ok (.lload i, 2)) (hl : lv[i]? = some (some (.long x))) (k : SW G d cc own nL ret R M (pc + 2) lv (.long x :: st)) : SW G d cc own nL ret R M pc lv st :=
  fun p e Rm s m args below meth c cells slots Q C H locs ls hP hS hL => lv_lload C.1 C.2.1 hd (hL.at hl) (k p e Rm s m args below meth c cells slots Q C H locs ls hP hS hL)
theorem r_lstore_n {q : Fin 4} {x : Int64} {lv' : List (Option Value)} (i : Nat) (hd : decode cc pc = .ok (.lstore_n q, 1)) (hi : (q : Nat) = i) (hn : i + 1 < nL) (hl : st2 lv i (.long x) = lv') (k : SW G d cc own nL ret R M (pc + 1) lv' st) : SW G d cc own nL ret R M pc lv (.long x :: st) :=
  fun p e Rm s m args below meth c cells slots Q C H locs ls hP hS hL => lv_lstore_n C.1 C.2.1 hd hi hL hn rfl (fun ls' hL' => k p e Rm s m args below meth c cells slots Q C H locs ls' hP hS (hl ▸ LV.sto2 (v := .long x) hL'))
theorem r_lstore {x : Int64} {i : Nat} {lv' : List (Option Value)} (hd : decode cc pc = .ok (.lstore i, 2)) (hn : i + 1 < nL) (hl : st2 lv i (.long x) = lv') (k : SW G d cc own nL ret R M (pc + 2) lv' st) : SW G d cc own nL ret R M pc lv (.long x :: st) :=
  fun p e Rm s m args below meth c cells slots Q C H locs ls hP hS hL => lv_lstore C.1 C.2.1 hd hL hn rfl (fun ls' hL' => k p e Rm s m args below meth c cells slots Q C H locs ls' hP hS (hl ▸ LV.sto2 (v := .long x) hL'))
theorem r_aload_n {q : Fin 4} {x : Nat} (i : Nat) (hd : decode cc pc = .ok (.aload_n q, 1)) (hi : (q : Nat) = i) (hl : lv[i]? = some (some (.ref x))) (k : SW G d cc own nL ret R M (pc + 1) lv (.ref x :: st)) : SW G d cc own nL ret R M pc lv st :=
  fun p e Rm s m args below meth c cells slots Q C H locs ls hP hS hL => lv_aload_n C.1 C.2.1 hd hi (hL.at hl) (k p e Rm s m args below meth c cells slots Q C H locs ls hP hS hL)
theorem r_aload {x : Nat} {i : Nat} (hd : decode cc pc = .ok (.aload i, 2)) (hl : lv[i]? = some (some (.ref x))) (k : SW G d cc own nL ret R M (pc + 2) lv (.ref x :: st)) : SW G d cc own nL ret R M pc lv st :=
  fun p e Rm s m args below meth c cells slots Q C H locs ls hP hS hL => lv_aload C.1 C.2.1 hd (hL.at hl) (k p e Rm s m args below meth c cells slots Q C H locs ls hP hS hL)
theorem r_astore_n {q : Fin 4} {x : Nat} {lv' : List (Option Value)} (i : Nat) (hd : decode cc pc = .ok (.astore_n q, 1)) (hi : (q : Nat) = i) (hn : i < nL) (hl : st1 lv i (.ref x) = lv') (k : SW G d cc own nL ret R M (pc + 1) lv' st) : SW G d cc own nL ret R M pc lv (.ref x :: st) :=
  fun p e Rm s m args below meth c cells slots Q C H locs ls hP hS hL => lv_astore_n C.1 C.2.1 hd hi hL hn rfl (fun ls' hL' => k p e Rm s m args below meth c cells slots Q C H locs ls' hP hS (hl ▸ LV.sto1 (v := .ref x) hL'))
theorem r_astore {x : Nat} {i : Nat} {lv' : List (Option Value)} (hd : decode cc pc = .ok (.astore i, 2)) (hn : i < nL) (hl : st1 lv i (.ref x) = lv') (k : SW G d cc own nL ret R M (pc + 2) lv' st) : SW G d cc own nL ret R M pc lv (.ref x :: st) :=
  fun p e Rm s m args below meth c cells slots Q C H locs ls hP hS hL => lv_astore C.1 C.2.1 hd hL hn rfl (fun ls' hL' => k p e Rm s m args below meth c cells slots Q C H locs ls' hP hS (hl ▸ LV.sto1 (v := .ref x) hL'))
theorem r_iinc {i : Nat} {n : Int} {x v : Int32} {lv' : List (Option Value)} (hd : decode cc pc = .ok (.iinc i n, 3)) (hl : lv[i]? = some (some (.int x))) (hv : x + Int32.ofInt n = v) (hn : i < nL) (h' : st1 lv i (.int v) = lv') (k : SW G d cc own nL ret R M (pc + 3) lv' st) : SW G d cc own nL ret R M pc lv st :=
  fun p e Rm s m args below meth c cells slots Q C H locs ls hP hS hL => by
    obtain ⟨j, hj⟩ := List.getElem?_of_mem (lvl_mem (G := G) (i := 0) (lv := lv) (q := (i, .int x)) |>.mpr ⟨i, .int x, hl, by rw [Nat.zero_add]; rfl⟩)
    exact lv_iinc C.1 C.2.1 hd hL hj hv hn rfl (fun ls' hL' => k p e Rm s m args below meth c cells slots Q C H locs ls' hP hS (h' ▸ LV.sto1 (v := .int v) hL'))
theorem r_goto {off : Int} (tgt : Nat) (hd : decode cc pc = .ok (.goto off, 3)) (ht : (pc : Int) + off = (tgt : Int)) (k : SW G d cc own nL ret R M tgt lv st) : SW G d cc own nL ret R M pc lv st :=
  SW.lift (fun _ _ _ _ _ _ _ _ _ _ _ _ _ _ _ hx hb w => lv_goto hx hb hd ht w) k
theorem r_ldc {index : Nat} {v : Int32} (hd : decode cc pc = .ok (.ldc index, 2)) (hc : Cond.constant own index v ∈ tw) (k : SW G d cc own nL ret R M (pc + 2) lv (.int v :: st)) : SW G d cc own nL ret R M pc lv st :=
  fun p e Rm s m args below meth c cells slots Q C H locs ls hP hS hL => lv_ldc C.1 C.2.1 C.2.2.2.1 (C.2.2.2.2.1 _ hc) hd (k p e Rm s m args below meth c cells slots Q C H locs ls hP hS hL)
theorem r_ldc_w {index : Nat} {v : Int32} (hd : decode cc pc = .ok (.ldc_w index, 3)) (hc : Cond.constant own index v ∈ tw) (k : SW G d cc own nL ret R M (pc + 3) lv (.int v :: st)) : SW G d cc own nL ret R M pc lv st :=
  fun p e Rm s m args below meth c cells slots Q C H locs ls hP hS hL => lv_ldcw C.1 C.2.1 C.2.2.2.1 (C.2.2.2.2.1 _ hc) hd (k p e Rm s m args below meth c cells slots Q C H locs ls hP hS hL)
theorem r_ldc2_w {index : Nat} {v : Int64} (hd : decode cc pc = .ok (.ldc2_w index, 3)) (hc : Cond.constantLong own index v ∈ tw) (k : SW G d cc own nL ret R M (pc + 3) lv (.long v :: st)) : SW G d cc own nL ret R M pc lv st :=
  fun p e Rm s m args below meth c cells slots Q C H locs ls hP hS hL => lv_ldc2 C.1 C.2.1 C.2.2.2.1 (C.2.2.2.2.1 _ hc) hd (k p e Rm s m args below meth c cells slots Q C H locs ls hP hS hL)
theorem r_ldcS {j : Nat} (hd : decode cc pc = .ok (.ldc (kix j), 2)) (ho : own = R_Te) (hj : j < 5) (k : SW G d cc own nL ret R M (pc + 2) lv (.ref (100 + j) :: st)) : SW G d cc own nL ret R M pc lv st :=
  fun p e Rm s m args below meth c cells slots Q C H locs ls hP hS hL => va_ldcS C.1 C.2.1 C.2.2.2.1 (ho ▸ C.2.2.2.2.2.1.2.2.1 j hj) hd (k p e Rm s m args below meth c cells slots Q C H locs ls hP hS hL)
theorem r_tabIn {dflt lo hi : Int} {offs : Array Int} {len : Nat} {x : Int32} {off : Int} (tgt : Nat) (hd : decode cc pc = .ok (.tableswitch dflt lo hi offs, len)) (h1 : ¬ x.toInt < lo) (h2 : ¬ hi < x.toInt) (ho : offs[(x.toInt - lo).toNat]? = some off) (ht : (pc : Int) + off = (tgt : Int)) (k : SW G d cc own nL ret R M tgt lv st) : SW G d cc own nL ret R M pc lv (.int x :: st) :=
  SW.lift (fun _ _ _ _ _ _ _ _ _ _ _ _ _ _ _ hx hb w => lv_tableIn hx hb hd h1 h2 ho ht w) k
theorem r_tabOut {dflt lo hi : Int} {offs : Array Int} {len : Nat} {x : Int32} (tgt : Nat) (hd : decode cc pc = .ok (.tableswitch dflt lo hi offs, len)) (h : x.toInt < lo ∨ hi < x.toInt) (ht : (pc : Int) + dflt = (tgt : Int)) (k : SW G d cc own nL ret R M tgt lv st) : SW G d cc own nL ret R M pc lv (.int x :: st) :=
  SW.lift (fun _ _ _ _ _ _ _ _ _ _ _ _ _ _ _ hx hb w => lv_tableOut hx hb hd h ht w) k
theorem r_lookup {dflt : Int} {ps : Array (Int × Int)} {len : Nat} {x : Int32} {off : Int} (tgt : Nat) (hd : decode cc pc = .ok (.lookupswitch dflt ps, len)) (hp : (ps.toList.zip (ps.toList.drop 1)).all (fun (a, next) => a.1 < next.1) = true) (ho : Op.lookupswitch.offset ps.toList dflt x.toInt = off) (ht : (pc : Int) + off = (tgt : Int)) (k : SW G d cc own nL ret R M tgt lv st) : SW G d cc own nL ret R M pc lv (.int x :: st) :=
  SW.lift (fun _ _ _ _ _ _ _ _ _ _ _ _ _ _ _ hx hb w => lv_lookup hx hb hd hp ho ht w) k
/-! returns -/
theorem r_ret {i : Instr} {v : Option Value} (hd : decode cc pc = .ok (i, 1)) (hi : RetI ret i v) (hR : R = (v, M)) (hst : st = v.toList) : SW G d cc own nL ret R M pc lv st := by
  subst hR; subst hst
  exact fun p e Rm s m args below meth c cells slots Q C H locs ls hP hS hL => C.2.2.2.2.2.2.2 H locs ls pc i hP hS hi hd
theorem r_ireturn {x : Int32} (hd : decode cc pc = .ok (.ireturn, 1)) (hr : ret = some .int) (hR : (some (Value.int x), M) = R) : SW G d cc own nL ret R M pc lv [.int x] :=
  r_ret (v := some (.int x)) hd (Or.inl ⟨rfl, x, .int, rfl, hr, rfl⟩) hR.symm rfl
theorem r_zreturn {x : Int32} (hd : decode cc pc = .ok (.ireturn, 1)) (hr : ret = some .boolean) (hz : x = 0 ∨ x = 1) (hR : (some (Value.int x), M) = R) : SW G d cc own nL ret R M pc lv [.int x] :=
  r_ret (v := some (.int x)) hd (Or.inl ⟨rfl, x, .boolean, rfl, hr, by rcases hz with rfl | rfl <;> decide⟩) hR.symm rfl
theorem r_lreturn {x : Int64} (hd : decode cc pc = .ok (.lreturn, 1)) (hr : ret = some .long) (hR : (some (Value.long x), M) = R) : SW G d cc own nL ret R M pc lv [.long x] :=
  r_ret (v := some (.long x)) hd (Or.inr (Or.inl ⟨rfl, x, rfl, hr⟩)) hR.symm rfl
theorem r_return (hd : decode cc pc = .ok (.return_, 1)) (hr : ret = none) (hR : (none, M) = R) : SW G d cc own nL ret R M pc lv [] :=
  r_ret (v := none) hd (Or.inr (Or.inr (Or.inl ⟨rfl, rfl, hr⟩))) hR.symm rfl
theorem r_areturn {a : Nat} (n : String) (hd : decode cc pc = .ok (.areturn, 1)) (hr : ret = some (.object n)) (hR : (some (Value.ref a), M) = R) : SW G d cc own nL ret R M pc lv [.ref a] :=
  r_ret (v := some (.ref a)) hd (Or.inr (Or.inr (Or.inr ⟨rfl, a, n, rfl, hr⟩))) hR.symm rfl
/-! the world's cells -/
theorem ws_get {a : Nat} (ha : a < NC) : (wsOf G M)[a]? = some (g_ad G a, ent G M a) := by
  unfold wsOf
  rw [List.getElem?_map, List.getElem?_range ha]; rfl
theorem ws_obj {a ci n : Nat} (ha : a < NC) (hs : sh a = (ci, n)) (hc : ci < 10) : (wsOf G M)[a]? = some (g_ad G a, .inr (ci, (List.range (nf ci)).map (fv G M a ci))) := by
  rw [ws_get ha]
  unfold ent
  rw [hs]
  simp only [hc, if_true]
theorem ws_arr {a t n : Nat} (ha : a < NC) (hs : sh a = (10 + t, n)) (ht : t ≠ 3) : (wsOf G M)[a]? = some (g_ad G a, .inl (g_ct G t, (n, .inl (M.1 a)))) := by
  rw [ws_get ha]
  unfold ent
  rw [hs]
  simp only [show ¬ (10 + t < 10) by omega, if_false, show ¬ (10 + t = 13) by omega, Nat.add_sub_cancel_left]
theorem ws_arrL {a n : Nat} (ha : a < NC) (hs : sh a = (13, n)) : (wsOf G M)[a]? = some (g_ad G a, .inl (g_ct G 3, (n, .inr (.inl (M.2 a))))) := by
  rw [ws_get ha]
  unfold ent
  rw [hs]
  rfl
theorem sh_lt {a c n : Nat} (h : sh a = (c, n)) (hc : c < 99) : a < NC := by
  rcases Nat.lt_or_ge a NC with q | q
  · exact q
  · exfalso
    have : sh a = (99, 0) := by
      unfold sh
      rw [List.getD_eq_getElem?_getD, List.getElem?_eq_none (by exact q)]
      rfl
    rw [this] at h
    have := congrArg Prod.fst h
    simp at this
    omega
def si (M : Mm) (a k : Nat) (x : Int32) : Mm := (fun b j => if b = a ∧ j = k then x else M.1 b j, M.2)
def sl (M : Mm) (a k : Nat) (x : Int64) : Mm := (M.1, fun b j => if b = a ∧ j = k then x else M.2 b j)
theorem ws_set {M' : Mm} {a : Nat} {E : va_E} (ha : a < NC) (hE : ent G M' a = E) (ho : ∀ b, b ≠ a → ent G M' b = ent G M b) : (wsOf G M).set a (g_ad G a, E) = wsOf G M' := by
  apply List.ext_getElem?
  intro b
  by_cases hb : b = a
  · subst hb
    rw [List.getElem?_set_self (by unfold wsOf; simpa using ha), ws_get ha, hE]
  · rw [List.getElem?_set_ne (Ne.symm hb)]
    rcases Nat.lt_or_ge b NC with q | q
    · rw [ws_get q, ws_get q, ho b hb]
    · rw [List.getElem?_eq_none (by unfold wsOf; simpa using q), List.getElem?_eq_none (by unfold wsOf; simpa using q)]
theorem fv_si {a k b c j : Nat} {x : Int32} (h : ¬ (b = a ∧ j = k)) : fv G (si M a k x) b c j = fv G M b c j := by
  unfold fv si
  dsimp only
  rw [if_neg h]
theorem fv_sl {a k b c j : Nat} {x : Int64} (h : ¬ (b = a ∧ j = k)) : fv G (sl M a k x) b c j = fv G M b c j := by
  unfold fv sl
  dsimp only
  rw [if_neg h]
theorem ent_si {a k b : Nat} {x : Int32} (h : b ≠ a) : ent G (si M a k x) b = ent G M b := by
  unfold ent
  rw [show fv G (si M a k x) b (sh b).1 = fv G M b (sh b).1 from funext fun j => fv_si (fun q => h q.1)]
  rw [show (si M a k x).1 b = M.1 b from funext fun j => if_neg (fun q => h q.1)]
  rfl
theorem ent_sl {a k b : Nat} {x : Int64} (h : b ≠ a) : ent G (sl M a k x) b = ent G M b := by
  unfold ent
  rw [show fv G (sl M a k x) b (sh b).1 = fv G M b (sh b).1 from funext fun j => fv_sl (fun q => h q.1)]
  rw [show (sl M a k x).2 b = M.2 b from funext fun j => if_neg (fun q => h q.1)]
  rfl
theorem range_set {f g : Nat → Value} {n k : Nat} {v : Value} (hk : k < n) (h1 : g k = v) (h2 : ∀ j, j ≠ k → g j = f j) : ((List.range n).map f).set k v = (List.range n).map g := by
  apply List.ext_getElem?
  intro j
  by_cases hj : j = k
  · subst hj
    rw [List.getElem?_set_self (by simpa using hk), List.getElem?_map, List.getElem?_range hk]
    simp [h1]
  · rw [List.getElem?_set_ne (Ne.symm hj), List.getElem?_map, List.getElem?_map]
    rcases Nat.lt_or_ge j n with q | q
    · rw [List.getElem?_range q]; simp [h2 j hj]
    · rw [List.getElem?_eq_none (by simpa using q)]; rfl
theorem ws_D (h : GOK G) : va_D (g_A G) (wsOf G M) := by
  have key : ∀ (k : Nat) (q : Nat × va_E), (wsOf G M)[k]? = some q → k < NC ∧ q.1 = g_ad G k := by
    intro k q hk
    have hl : k < NC := by
      have := (List.getElem?_eq_some_iff.mp hk).1
      unfold wsOf at this
      simpa using this
    rw [ws_get hl] at hk
    cases hk
    exact ⟨hl, rfl⟩
  refine ⟨fun i j x y hi hj hxy => ?_, fun k q hk => ?_⟩
  · obtain ⟨h1, h2⟩ := key i x hi
    obtain ⟨h3, h4⟩ := key j y hj
    exact h.1 i j h1 h3 (by rw [← h2, ← h4, hxy])
  · obtain ⟨h1, h2⟩ := key k q hk
    rw [h2]
    exact h.2 k h1
/-! fields -/
def Tcl (c : Nat) : u_T := match c with
  | 0 => T_Bk | 1 => T_Im | 2 => T_Mk | 3 => T_Se | 4 => T_Te | 5 => T_To | 6 => T_Wa | 7 => T_We | 8 => T_Uc | _ => T_Mo
def Rcl (c : Nat) : String := match c with
  | 0 => R_Bk | 1 => R_Im | 2 => R_Mk | 3 => R_Se | 4 => R_Te | 5 => R_To | 6 => R_Wa | 7 => R_We | 8 => R_Uc | _ => R_Mo
theorem cl_at {c : Nat} (h : c < 10) : classes[c]? = some (Rcl c, Tcl c, nf c) := by
  rcases (show c = 0 ∨ c = 1 ∨ c = 2 ∨ c = 3 ∨ c = 4 ∨ c = 5 ∨ c = 6 ∨ c = 7 ∨ c = 8 ∨ c = 9 by omega) with rfl | rfl | rfl | rfl | rfl | rfl | rfl | rfl | rfl | rfl <;> rfl
theorem cl_in {c : Nat} (h : c < 10) : ∀ w ∈ u_ws (Rcl c) (Tcl c) (nf c), w ∈ lw_tbl := by
  rcases (show c = 0 ∨ c = 1 ∨ c = 2 ∨ c = 3 ∨ c = 4 ∨ c = 5 ∨ c = 6 ∨ c = 7 ∨ c = 8 ∨ c = 9 by omega) with rfl | rfl | rfl | rfl | rfl | rfl | rfl | rfl | rfl | rfl
  · exact in_Bk
  · exact in_Im
  · exact in_Mk
  · exact in_Se
  · exact in_Te
  · exact in_To
  · exact in_Wa
  · exact in_We
  · exact in_Uc
  · exact in_Mo
theorem cl_tw {c : Nat} (h : c < 10) : ∀ w ∈ u_ws (Rcl c) (Tcl c) (nf c), w ∈ tw := by
  intro w hw
  refine List.mem_filter.mpr ⟨cl_in h w hw, ?_⟩
  obtain ⟨k, -, rfl⟩ := List.mem_map.mp hw
  unfold u_lay
  split <;> simp [goodWord, Cond.onTables, Cond.keeps, Cond.steady]
theorem cl_ty {c : Nat} (h : c < 10) : ∀ k, k < nf c → parseFieldDescriptor (Tcl c k).2.2.1 = some (fty c k) := by
  rcases (show c = 0 ∨ c = 1 ∨ c = 2 ∨ c = 3 ∨ c = 4 ∨ c = 5 ∨ c = 6 ∨ c = 7 ∨ c = 8 ∨ c = 9 by omega) with rfl | rfl | rfl | rfl | rfl | rfl | rfl | rfl | rfl | rfl
  · exact tk_Bk
  · exact tk_Im
  · exact tk_Mk
  · exact tk_Se
  · exact tk_Te
  · exact tk_To
  · exact tk_Wa
  · exact tk_We
  · exact tk_Uc
  · exact tk_Mo
theorem cl_nm {c : Nat} (h : c < 10) : ∀ a, a < nf c → ∀ b, b < nf c → a ≠ b → (Tcl c a).2.1 ≠ (Tcl c b).2.1 := by
  rcases (show c = 0 ∨ c = 1 ∨ c = 2 ∨ c = 3 ∨ c = 4 ∨ c = 5 ∨ c = 6 ∨ c = 7 ∨ c = 8 ∨ c = 9 by omega) with rfl | rfl | rfl | rfl | rfl | rfl | rfl | rfl | rfl | rfl
  · exact nm_Bk
  · exact nm_Im
  · exact nm_Mk
  · exact nm_Se
  · exact nm_Te
  · exact nm_To
  · exact nm_Wa
  · exact nm_We
  · exact nm_Uc
  · exact nm_Mo
/-- own's constant number index is the field k of the class c -/
def FL (own : String) (index c k : Nat) : Prop := c < 10 ∧ k < nf c ∧ (Cond.fieldLink own index (Tcl c k).1 (Tcl c k).2.1 (Tcl c k).2.2.1 ∈ tw ∨ ∃ host, Cond.fieldLinkNest own index (Tcl c k).1 (Tcl c k).2.1 (Tcl c k).2.2.1 host ∈ ntw)
theorem r_get {a c n k index : Nat} {v : Value} (hd : decode cc pc = .ok (.getfield index, 3)) (hf : FL own index c k) (hs : sh a = (c, n)) (hv : fv G M a c k = tv G v) (kk : SW G d cc own nL ret R M (pc + 3) lv (v :: st)) : SW G d cc own nL ret R M pc lv (.ref a :: st) := by
  intro p e Rm s m args below meth co cells slots Q C H locs ls hP hS hL
  obtain ⟨hx, hb, hml, hown, hts, hK, hroom, hret⟩ := id C
  obtain ⟨hc, hk, hl⟩ := hf
  have ha := sh_lt hs (by omega)
  have hv' : ((List.range (nf c)).map (fv G M a c))[k]? = some (tv G v) := by rw [List.getElem?_map, List.getElem?_range hk, ← hv]; rfl
  have kk' := kk p e Rm s m args below meth co cells slots Q C H locs ls hP hS hL
  rcases hl with hl | ⟨host, hl⟩
  · exact va_get hx hb hts (cl_tw hc) hown hK.1 hP a (ws_obj ha hs hc) (cl_at hc) k hk (hts _ hl) (fun _ z => z) hv' hd kk'
  · exact va_getN hx hb hts (cl_tw hc) hown hK.1 hP a (ws_obj ha hs hc) (cl_at hc) k hk (va_Nw.use rfl (hK.2.2.2.2.2.2.2.2 _ hl)) (fun _ z => z) hv' hd kk'
theorem r_getI {a c n k index : Nat} (hd : decode cc pc = .ok (.getfield index, 3)) (hf : FL own index c k) (hs : sh a = (c, n)) (ht : fty c k = .int ∨ fty c k = .boolean) (kk : SW G d cc own nL ret R M (pc + 3) lv (.int (M.1 a k) :: st)) : SW G d cc own nL ret R M pc lv (.ref a :: st) :=
  r_get (v := .int (M.1 a k)) hd hf hs (by rcases ht with h | h <;> (unfold fv; rw [h]; rfl)) kk
theorem r_getL {a c n k index : Nat} (hd : decode cc pc = .ok (.getfield index, 3)) (hf : FL own index c k) (hs : sh a = (c, n)) (ht : fty c k = .long) (kk : SW G d cc own nL ret R M (pc + 3) lv (.long (M.2 a k) :: st)) : SW G d cc own nL ret R M pc lv (.ref a :: st) :=
  r_get (v := .long (M.2 a k)) hd hf hs (by unfold fv; rw [ht]; rfl) kk
def isRefT : FieldType → Bool
  | .array _ => true
  | .object _ => true
  | _ => false
theorem r_getR {a c n k index : Nat} (b : Nat) (hd : decode cc pc = .ok (.getfield index, 3)) (hf : FL own index c k) (hs : sh a = (c, n)) (ht : isRefT (fty c k) = true) (hb : rf a k = b) (kk : SW G d cc own nL ret R M (pc + 3) lv (.ref b :: st)) : SW G d cc own nL ret R M pc lv (.ref a :: st) :=
  r_get (v := .ref b) hd hf hs (by
    subst hb
    unfold fv
    cases h : fty c k <;> first | rfl | (rw [h] at ht; cases ht)) kk
theorem r_putI {a c n k index : Nat} {x : Int32} (hd : decode cc pc = .ok (.putfield index, 3)) (hf : FL own index c k) (hs : sh a = (c, n)) (ht : fty c k = .int ∨ (fty c k = .boolean ∧ (x = 0 ∨ x = 1))) (hfin : (Tcl c k).2.2.2 = false) (kk : SW G d cc own nL ret R (si M a k x) (pc + 3) lv st) : SW G d cc own nL ret R M pc lv (.int x :: .ref a :: st) := by
  intro p e Rm s m args below meth co cells slots Q C H locs ls hP hS hL
  obtain ⟨hx, hb, hml, hown, hts, hK, hroom, hret⟩ := id C
  obtain ⟨hc, hk, hl⟩ := hf
  have ha := sh_lt hs (by omega)
  have hfx : ∀ j, fv G (si M a k x) a c j = if j = k then .int x else fv G M a c j := by
    intro j
    by_cases hj : j = k
    · subst hj
      rw [if_pos rfl]
      rcases ht with h | ⟨h, -⟩ <;> (unfold fv; rw [h]; simp [si])
    · rw [if_neg hj]
      exact fv_si (fun q => hj q.2)
  have hset : (wsOf G M).set a (g_ad G a, .inr (c, ((List.range (nf c)).map (fv G M a c)).set k (.int x))) = wsOf G (si M a k x) := by
    refine ws_set ha ?_ (fun b hb' => ent_si hb')
    unfold ent
    rw [hs]
    simp only [hc, if_true]
    rw [range_set (g := fv G (si M a k x) a c) hk (by rw [hfx]; simp) (fun j hj => by rw [hfx, if_neg hj])]
  have hn : narrow (fty c k) (.int x) = .int x := by
    rcases ht with h | ⟨h, h0 | h0⟩
    · rw [h]; rfl
    · rw [h, h0]; decide
    · rw [h, h0]; decide
  have hfit : fits (fty c k) (.int x) = true := by
    rcases ht with h | ⟨h, h0 | h0⟩
    · rw [h]; rfl
    · rw [h, h0]; decide
    · rw [h, h0]; decide
  have key : ∀ (H1 : Heap) (locs1 : List Loc), va_P (g_D G) classes ((wsOf G M).set a (g_ad G a, .inr (c, ((List.range (nf c)).map (fv G M a c)).set k (.int x)))) H1 → va_D (g_A G) ((wsOf G M).set a (g_ad G a, .inr (c, ((List.range (nf c)).map (fv G M a c)).set k (.int x)))) → va_S (g_A G) s.heap H1 locs1 → W p (g_l G) e Rm s m args below meth co H1 locs1 cells slots Q (F0 m (pc + 3) ls (st.map (tv G))) := by
    intro H1 locs1 h1 h2 h3
    rw [hset] at h1
    exact kk p e Rm s m args below meth co cells slots Q C H1 locs1 ls h1 h3 hL
  rcases hl with hl | ⟨host, hl⟩
  · exact va_put hx hb hts (cl_tw hc) (fty c) (cl_ty hc) (cl_nm hc) hown hK.1 hP (ws_D hK.2.1) hS a (ws_obj ha hs hc) (cl_at hc) k hk (hts _ hl) (fun _ z => z) hfin (cl_ty hc k hk) hn hfit (by simpa using hk) hd key
  · exact va_putN hx hb hts (cl_tw hc) (fty c) (cl_ty hc) (cl_nm hc) hown hK.1 hP (ws_D hK.2.1) hS a (ws_obj ha hs hc) (cl_at hc) k hk (va_Nw.use rfl (hK.2.2.2.2.2.2.2.2 _ hl)) (fun _ z => z) hfin (cl_ty hc k hk) hn hfit (by simpa using hk) hd key
theorem r_putL {a c n k index : Nat} {x : Int64} (hd : decode cc pc = .ok (.putfield index, 3)) (hf : FL own index c k) (hs : sh a = (c, n)) (ht : fty c k = .long) (hfin : (Tcl c k).2.2.2 = false) (kk : SW G d cc own nL ret R (sl M a k x) (pc + 3) lv st) : SW G d cc own nL ret R M pc lv (.long x :: .ref a :: st) := by
  intro p e Rm s m args below meth co cells slots Q C H locs ls hP hS hL
  obtain ⟨hx, hb, hml, hown, hts, hK, hroom, hret⟩ := id C
  obtain ⟨hc, hk, hl⟩ := hf
  have ha := sh_lt hs (by omega)
  have hfx : ∀ j, fv G (sl M a k x) a c j = if j = k then .long x else fv G M a c j := by
    intro j
    by_cases hj : j = k
    · subst hj
      rw [if_pos rfl]
      unfold fv; rw [ht]; simp [sl]
    · rw [if_neg hj]
      exact fv_sl (fun q => hj q.2)
  have hset : (wsOf G M).set a (g_ad G a, .inr (c, ((List.range (nf c)).map (fv G M a c)).set k (.long x))) = wsOf G (sl M a k x) := by
    refine ws_set ha ?_ (fun b hb' => ent_sl hb')
    unfold ent
    rw [hs]
    simp only [hc, if_true]
    rw [range_set (g := fv G (sl M a k x) a c) hk (by rw [hfx]; simp) (fun j hj => by rw [hfx, if_neg hj])]
  have hn : narrow (fty c k) (.long x) = .long x := by rw [ht]; rfl
  have hfit : fits (fty c k) (.long x) = true := by rw [ht]; rfl
  have key : ∀ (H1 : Heap) (locs1 : List Loc), va_P (g_D G) classes ((wsOf G M).set a (g_ad G a, .inr (c, ((List.range (nf c)).map (fv G M a c)).set k (.long x)))) H1 → va_D (g_A G) ((wsOf G M).set a (g_ad G a, .inr (c, ((List.range (nf c)).map (fv G M a c)).set k (.long x)))) → va_S (g_A G) s.heap H1 locs1 → W p (g_l G) e Rm s m args below meth co H1 locs1 cells slots Q (F0 m (pc + 3) ls (st.map (tv G))) := by
    intro H1 locs1 h1 h2 h3
    rw [hset] at h1
    exact kk p e Rm s m args below meth co cells slots Q C H1 locs1 ls h1 h3 hL
  rcases hl with hl | ⟨host, hl⟩
  · exact va_put hx hb hts (cl_tw hc) (fty c) (cl_ty hc) (cl_nm hc) hown hK.1 hP (ws_D hK.2.1) hS a (ws_obj ha hs hc) (cl_at hc) k hk (hts _ hl) (fun _ z => z) hfin (cl_ty hc k hk) hn hfit (by simpa using hk) hd key
  · exact va_putN hx hb hts (cl_tw hc) (fty c) (cl_ty hc) (cl_nm hc) hown hK.1 hP (ws_D hK.2.1) hS a (ws_obj ha hs hc) (cl_at hc) k hk (va_Nw.use rfl (hK.2.2.2.2.2.2.2.2 _ hl)) (fun _ z => z) hfin (cl_ty hc k hk) hn hfit (by simpa using hk) hd key
/-! arrays -/
theorem r_iald {a n : Nat} {i : Int32} (hd : decode cc pc = .ok (.iaload, 1)) (hs : sh a = (10, n)) (hi : vp_in i n) (kk : SW G d cc own nL ret R M (pc + 1) lv (.int (M.1 a i.toNatClampNeg) :: st)) : SW G d cc own nL ret R M pc lv (.int i :: .ref a :: st) :=
  fun p e Rm s m args below meth c cells slots Q C H locs ls hP hS hL => va_iald C.1 C.2.1 C.2.2.2.2.2.1.1 hP a 0 (ws_arr (t := 0) (sh_lt hs (by omega)) hs (by decide)) rfl hi hd (kk p e Rm s m args below meth c cells slots Q C H locs ls hP hS hL)
theorem r_zald {a n : Nat} {i : Int32} (hd : decode cc pc = .ok (.baload, 1)) (hs : sh a = (11, n)) (hi : vp_in i n) (kk : SW G d cc own nL ret R M (pc + 1) lv (.int (M.1 a i.toNatClampNeg) :: st)) : SW G d cc own nL ret R M pc lv (.int i :: .ref a :: st) :=
  fun p e Rm s m args below meth c cells slots Q C H locs ls hP hS hL => va_zald C.1 C.2.1 C.2.2.2.2.2.1.1 hP a 1 (ws_arr (t := 1) (sh_lt hs (by omega)) hs (by decide)) rfl hi hd (kk p e Rm s m args below meth c cells slots Q C H locs ls hP hS hL)
theorem r_bald {a n : Nat} {i : Int32} (hd : decode cc pc = .ok (.baload, 1)) (hs : sh a = (12, n)) (hi : vp_in i n) (kk : SW G d cc own nL ret R M (pc + 1) lv (.int (M.1 a i.toNatClampNeg) :: st)) : SW G d cc own nL ret R M pc lv (.int i :: .ref a :: st) :=
  fun p e Rm s m args below meth c cells slots Q C H locs ls hP hS hL => va_bald C.1 C.2.1 C.2.2.2.2.2.1.1 hP a 2 (ws_arr (t := 2) (sh_lt hs (by omega)) hs (by decide)) rfl hi hd (kk p e Rm s m args below meth c cells slots Q C H locs ls hP hS hL)
theorem r_lald {a n : Nat} {i : Int32} (hd : decode cc pc = .ok (.laload, 1)) (hs : sh a = (13, n)) (hi : vp_in i n) (kk : SW G d cc own nL ret R M (pc + 1) lv (.long (M.2 a i.toNatClampNeg) :: st)) : SW G d cc own nL ret R M pc lv (.int i :: .ref a :: st) :=
  fun p e Rm s m args below meth c cells slots Q C H locs ls hP hS hL => va_lald C.1 C.2.1 C.2.2.2.2.2.1.1 hP a 3 (ws_arrL (sh_lt hs (by omega)) hs) rfl hi hd (kk p e Rm s m args below meth c cells slots Q C H locs ls hP hS hL)
theorem upd_si {a k : Nat} {x : Int32} : (si M a k x).1 a = upd (M.1 a) k x := by
  funext j
  simp [si, upd]
theorem updL_sl {a k : Nat} {x : Int64} : (sl M a k x).2 a = vp_updL (M.2 a) k x := by
  funext j
  simp [sl, vp_updL]
theorem set_arr {a n t k : Nat} {x : Int32} (ha : a < NC) (hs : sh a = (10 + t, n)) (ht : t ≠ 3) : (wsOf G M).set a (g_ad G a, .inl (g_ct G t, n, .inl (upd (M.1 a) k x))) = wsOf G (si M a k x) := by
  refine ws_set ha ?_ (fun b hb' => ent_si hb')
  unfold ent
  rw [hs]
  simp only [show ¬ (10 + t < 10) by omega, if_false, show ¬ (10 + t = 13) by omega, Nat.add_sub_cancel_left, upd_si]
theorem set_arrL {a n k : Nat} {x : Int64} (ha : a < NC) (hs : sh a = (13, n)) : (wsOf G M).set a (g_ad G a, .inl (g_ct G 3, n, .inr (.inl (vp_updL (M.2 a) k x)))) = wsOf G (sl M a k x) := by
  refine ws_set ha ?_ (fun b hb' => ent_sl hb')
  unfold ent
  rw [hs, updL_sl]
  rfl
theorem r_iast {a n : Nat} {i x : Int32} (hd : decode cc pc = .ok (.iastore, 1)) (hs : sh a = (10, n)) (hi : vp_in i n) (kk : SW G d cc own nL ret R (si M a i.toNatClampNeg x) (pc + 1) lv st) : SW G d cc own nL ret R M pc lv (.int x :: .int i :: .ref a :: st) :=
  fun p e Rm s m args below meth c cells slots Q C H locs ls hP hS hL => va_iast C.1 C.2.1 C.2.2.2.2.2.1.1 hP (ws_D C.2.2.2.2.2.1.2.1) hS a 0 (ws_arr (t := 0) (sh_lt hs (by omega)) hs (by decide)) rfl hi hd (fun H1 locs1 h1 h2 h3 => kk p e Rm s m args below meth c cells slots Q C H1 locs1 ls (set_arr (t := 0) (sh_lt hs (by omega)) hs (by decide) ▸ h1) h3 hL)
theorem r_zast {a n : Nat} {i x : Int32} (hd : decode cc pc = .ok (.bastore, 1)) (hs : sh a = (11, n)) (hi : vp_in i n) (kk : SW G d cc own nL ret R (si M a i.toNatClampNeg (vp_nar .boolean x)) (pc + 1) lv st) : SW G d cc own nL ret R M pc lv (.int x :: .int i :: .ref a :: st) :=
  fun p e Rm s m args below meth c cells slots Q C H locs ls hP hS hL => va_zast C.1 C.2.1 C.2.2.2.2.2.1.1 hP (ws_D C.2.2.2.2.2.1.2.1) hS a 1 (ws_arr (t := 1) (sh_lt hs (by omega)) hs (by decide)) rfl hi hd (fun H1 locs1 h1 h2 h3 => kk p e Rm s m args below meth c cells slots Q C H1 locs1 ls (set_arr (t := 1) (sh_lt hs (by omega)) hs (by decide) ▸ h1) h3 hL)
theorem r_bast {a n : Nat} {i x : Int32} (hd : decode cc pc = .ok (.bastore, 1)) (hs : sh a = (12, n)) (hi : vp_in i n) (kk : SW G d cc own nL ret R (si M a i.toNatClampNeg (vp_nar .byte x)) (pc + 1) lv st) : SW G d cc own nL ret R M pc lv (.int x :: .int i :: .ref a :: st) :=
  fun p e Rm s m args below meth c cells slots Q C H locs ls hP hS hL => va_bast C.1 C.2.1 C.2.2.2.2.2.1.1 hP (ws_D C.2.2.2.2.2.1.2.1) hS a 2 (ws_arr (t := 2) (sh_lt hs (by omega)) hs (by decide)) rfl hi hd (fun H1 locs1 h1 h2 h3 => kk p e Rm s m args below meth c cells slots Q C H1 locs1 ls (set_arr (t := 2) (sh_lt hs (by omega)) hs (by decide) ▸ h1) h3 hL)
theorem r_last {a n : Nat} {i : Int32} {x : Int64} (hd : decode cc pc = .ok (.lastore, 1)) (hs : sh a = (13, n)) (hi : vp_in i n) (kk : SW G d cc own nL ret R (sl M a i.toNatClampNeg x) (pc + 1) lv st) : SW G d cc own nL ret R M pc lv (.long x :: .int i :: .ref a :: st) :=
  fun p e Rm s m args below meth c cells slots Q C H locs ls hP hS hL => va_last C.1 C.2.1 C.2.2.2.2.2.1.1 hP (ws_D C.2.2.2.2.2.1.2.1) hS a 3 (ws_arrL (sh_lt hs (by omega)) hs) rfl hi hd (fun H1 locs1 h1 h2 h3 => kk p e Rm s m args below meth c cells slots Q C H1 locs1 ls (set_arrL (sh_lt hs (by omega)) hs ▸ h1) h3 hL)
/-! the law's script, at the virtual place 200 -/
theorem r_sld {i : Int32} (hd : decode cc pc = .ok (.iaload, 1)) (hi : vp_in i (g_n G)) (kk : SW G d cc own nL ret R M (pc + 1) lv (.int (g_xs G i.toNatClampNeg) :: st)) : SW G d cc own nL ret R M pc lv (.int i :: .ref 200 :: st) :=
  fun p e Rm s m args below meth c cells slots Q C H locs ls hP hS hL => va_sld C.1 C.2.1 C.2.2.2.2.2.1.2.2.2.2.2.1 C.2.2.2.2.2.1.2.2.2.2.2.2.1 C.2.2.2.2.2.1.2.2.2.2.2.2.2.1 hS hi hd (kk p e Rm s m args below meth c cells slots Q C H locs ls hP hS hL)
theorem r_slen (hd : decode cc pc = .ok (.arraylength, 1)) (kk : SW G d cc own nL ret R M (pc + 1) lv (.int (Int32.ofNat (g_n G)) :: st)) : SW G d cc own nL ret R M pc lv (.ref 200 :: st) :=
  fun p e Rm s m args below meth c cells slots Q C H locs ls hP hS hL => va_slen C.1 C.2.1 C.2.2.2.2.2.1.2.2.2.2.2.1 C.2.2.2.2.2.1.2.2.2.2.2.2.1 C.2.2.2.2.2.1.2.2.2.2.2.2.2.1 hS hd (kk p e Rm s m args below meth c cells slots Q C H locs ls hP hS hL)
/-! calls -/
def rm (d : Nat) : Room := { frames := d, cells := 0, slots := 0, locals := 64 * d }
def Qc (G : GT) (R : Option Value × Mm) : Array Value → State → Outcome → State → Prop := fun _ st o t => o = .returned (R.1.map (tv G)) ∧ va_P (g_D G) classes (wsOf G R.2) t.heap ∧ va_F (g_A G) st t
def Pv (G : GT) (M : Mm) (vs : List Value) : Array Value → State → Prop := va_Pc (vs.map (tv G)) (fun U => va_P (g_D G) classes (wsOf G M) U.heap ∧ KK G U)
/-- THE CONTRACT of a method over the virtual world: with the arguments vs and the memory M it ends with R -/
def CM (G : GT) (d : Nat) (y : MethodName) (cy : ByteArray) (nLy : Nat) (rety : Option FieldType) (R : Option Value × Mm) (M : Mm) (vs : List Value) : Prop :=
  Met (g_l G) y (Cond.code y cy nLy rety :: tw) (rm d) (Pv G M vs) (Qc G R) 0 0 (g_A G)
theorem Pv_blind {vs : List Value} : FrameBlind (Pv G M vs) := fun a U g mk h => ⟨h.1, h.2.1, KK.same h.2.2 rfl rfl⟩
theorem CM.of {y : MethodName} {vs : List Value} (hy : plainName y.cls = true) (ho : y.cls = own) (hn : (lg_sl (vs.map (tv G))).length ≤ nL) (hl : lvl G 0 lv = lv_args 0 (vs.map (tv G))) (h : SW G d cc own nL ret R M 0 lv []) : CM G d y cc nL ret R M vs := by
  refine Met.ofW (cc := cc) (maxL := nL) (ret := ret) hy rfl ?_
  intro p e s m args below meth c s₁ B hml hv
  obtain ⟨rfl, hP, hK⟩ := hv
  have hts := atoms_spec (ws := Cond.code y cc nL ret :: tw) B.pre
  have hl2 := lv_entry (vs.map (tv G)) (n := nL) hn
  rw [lg_entry_eq]
  refine h p e _ s m _ below meth c 0 0 _ ⟨B.exec, B.bytes, hml, by rw [← ho]; exact findClass_of_methodNamed B.named, fun w hw => hts w (List.mem_cons_of_mem _ hw), hK, ⟨Nat.le_refl _, Nat.le_refl _, Nat.le_refl _, Nat.le_refl _⟩, ?_⟩ s.heap [] _ hP va_S.rf (by unfold LV; rw [hl]; exact hl2)
  intro H locs ls pc i hP hS hi hd
  have hlocks := B.notSynchronized
  have hr := B.returns
  obtain ⟨v, M2⟩ := R
  have hq : ∀ t : State, t.heap = H → s.WarmedH t.vm → Qc G (v, M2) ((vs.map (tv G)).toArray) s (.returned (v.map (tv G))) t := fun t ht _ => ⟨rfl, by rw [ht]; exact hP, hS.F ht⟩
  rcases hi with ⟨rfl, x, ty, hv, hr2, hn2⟩ | ⟨rfl, x, hv, hr2⟩ | ⟨rfl, hv, hr2⟩ | ⟨rfl, a, n, hv, hr2⟩
  · cases hv
    exact W.zret B.exec B.bytes (hr.trans hr2) hn2 hq hS.2.2 hd
  · cases hv
    exact W.lret B.exec B.bytes (hr.trans hr2) hq hS.2.2 hd
  · cases hv
    exact W.vret B.exec B.bytes (hr.trans hr2) hq hS.2.2 hd
  · cases hv
    exact W.aret B.exec B.bytes (hr.trans hr2) (Or.inl ⟨n, rfl⟩) (Or.inr ⟨_, rfl⟩) hq hS.2.2 hd
/-- own's constant number index is the method y, an instance method of the class number c, of np parameters -/
def LkV (own : String) (index : Nat) (y : MethodName) (cy : ByteArray) (nLy : Nat) (rety : Option FieldType) (c np : Nat) : Prop :=
  c < 10 ∧ y.cls = Rcl c ∧ nLy ≤ 45 ∧ Cond.methodLink own index y ∈ tw ∧ Cond.instanceMethod y ∈ tw ∧ Cond.selects y.cls y y ∈ tw ∧ Cond.initialized y.cls ∈ tw ∧ Cond.code y cy nLy rety ∈ tw ∧ y.cls ≠ "java/lang/invoke/MethodHandle" ∧ y.cls ≠ "java/lang/invoke/VarHandle" ∧ (parseMethodDescriptor y.desc).map (fun d => d.parameters.length) = some np
def LkS (own : String) (index : Nat) (y : MethodName) (cy : ByteArray) (nLy : Nat) (rety : Option FieldType) (np : Nat) : Prop :=
  (Cond.methodLink own index y ∈ tw ∨ ∃ host, Cond.methodLinkNest own index y host ∈ ntw) ∧ nLy ≤ 45 ∧ Cond.static y ∈ tw ∧ Cond.initialized y.cls ∈ tw ∧ Cond.code y cy nLy rety ∈ tw ∧ y.cls ≠ "java/lang/invoke/MethodHandle" ∧ y.cls ≠ "java/lang/invoke/VarHandle" ∧ (parseMethodDescriptor y.desc).map (fun d => d.parameters.length) = some np
theorem good_ct {y : MethodName} {cy : ByteArray} {nLy : Nat} {rety : Option FieldType} (h : Cond.code y cy nLy rety ∈ tw) : GoodIn tw (Cond.code y cy nLy rety :: tw) := fun w hw => (List.mem_cons.mp hw).elim (fun e => e ▸ tw_good _ h) (fun h2 => tw_good w h2)
/-- behind a call -/
theorem r_back {p : Program} {e : Env} {Rm : Room} {s : State} {m : MethodId} {args : Array Value} {below : List Frame} {meth : Method} {c : Code} {cells slots : Nat} {Q : State → Prop} {H : Heap} {locs : List Loc} {ls : Array Slot} {R' : Option Value × Mm} {st0 : List Value} {a : Array Value} (C : Cx G d cc own nL ret R p e Rm s m args below meth c cells slots Q) (hS : va_S (g_A G) s.heap H locs) (hL : LV G ls nL lv)
    (hr : va_Run p (g_l G) e Rm s m args below meth c H locs cells slots 0 0 (F0 m pc ls st0) (st.map (tv G)) (Qc G R' a) (g_A G)) (kk : SW G d cc own nL ret R R'.2 (pc + 3) lv (R'.1.toList ++ st)) : W p (g_l G) e Rm s m args below meth c H locs cells slots Q (F0 m pc ls st0) := by
  intro T hT X
  obtain ⟨v, st₀, t, T', L, h0, X', hL', e1, e2, ⟨hv, hP', hz, hk⟩, st'⟩ := hr T hT X
  obtain ⟨w, M2⟩ := R'
  cases hv
  rw [h0] at hz hk
  have hS' : va_S (g_A G) s.heap T'.heap (locs ++ L) := ⟨Nat.le_trans hS.1 (by rw [e1]; exact hz), fun q h1 h2 => by rw [e1, hk q (Nat.lt_of_lt_of_le h1 hS.1) h2]; exact hS.2.1 q h1 h2, fun q hq => by
      rcases List.mem_append.mp hq with h | h
      · exact hS.2.2 q h
      · exact hL' q h⟩
  have hst : (w.toList ++ st).map (tv G) = (w.map (tv G)).toList ++ st.map (tv G) := by cases w <;> rfl
  have k2 := kk p e Rm s m args below meth c cells slots Q C T'.heap (locs ++ L) ls (by rw [e1]; exact hP') hS' hL
  rw [hst] at k2
  obtain ⟨t2, a1, b1⟩ := k2 T' rfl X'
  exact ⟨t2, st' t2 a1, b1⟩
theorem r_callV {a c n idx d' nLy np : Nat} {y : MethodName} {cy : ByteArray} {rety : Option FieldType} {R' : Option Value × Mm} {st0 : List Value} (As : List Value) (hd : decode cc pc = .ok (.invokevirtual idx, 3)) (hk : LkV own idx y cy nLy rety c np) (hs : sh a = (c, n)) (hM : CM G d' y cy nLy rety R' M (.ref a :: As)) (hdd : d' < d) (hn : As.length = np) (hst : st0 = As.reverse ++ .ref a :: st) (hsz : (st.map fun v => v.category).sum ≤ 8) (kk : SW G d cc own nL ret R R'.2 (pc + 3) lv (R'.1.toList ++ st)) : SW G d cc own nL ret R M pc lv st0 := by
  intro p e Rm s m args below meth co cells slots Q C H locs ls hP hS hL
  obtain ⟨hx, hb, hml, hown, hts, hK, ⟨hr1, hr2, hr3, hr4⟩, hret⟩ := id C
  obtain ⟨hc, hyc, hnL, k1, k2, k3, k4, k5, k6, k7, k8⟩ := hk
  refine r_back (R' := R') C hS hL (va_runV (As := As.map (tv G)) (b := g_ad G a) ⟨hx, hb, hml, hown, hts⟩ hM ⟨callB_of np hts (good_ct k5) rfl rfl rfl (hts _ k4) (hts _ k1) ⟨k6, k7, k8⟩ ⟨by show d' + 1 ≤ _; omega, by show 8 + (nLy + 11) + 64 * d' ≤ _; omega⟩, hts _ k2, hts _ k3⟩ ⟨Pv_blind, ?_, fun U hU hW => ⟨rfl, by rw [hU]; exact hP, KK.go hK hW (hU ▸ hS)⟩⟩ rfl (by simpa using hn) hL.1 (by rw [hst]; simp [tv]) ?_ hd ⟨hr3, hr4⟩) kk
  · rw [hyc]
    exact va_recv hK.1 hP (cl_at hc) (ws_obj (sh_lt hs (by omega)) hs hc)
  · have : ((st.map (tv G)).map fun v => v.category) = st.map fun v => v.category := by
      rw [List.map_map]
      exact List.map_congr_left (fun v _ => tv_cat G v)
    exact lv_room (by rw [this]; exact hsz)
theorem r_callS {idx d' nLy np : Nat} {y : MethodName} {cy : ByteArray} {rety : Option FieldType} {R' : Option Value × Mm} {st0 : List Value} (As : List Value) (hd : decode cc pc = .ok (.invokestatic idx, 3)) (hk : LkS own idx y cy nLy rety np) (hM : CM G d' y cy nLy rety R' M As) (hdd : d' < d) (hn : As.length = np) (hst : st0 = As.reverse ++ st) (hsz : (st.map fun v => v.category).sum ≤ 8) (kk : SW G d cc own nL ret R R'.2 (pc + 3) lv (R'.1.toList ++ st)) : SW G d cc own nL ret R M pc lv st0 := by
  intro p e Rm s m args below meth co cells slots Q C H locs ls hP hS hL
  obtain ⟨hx, hb, hml, hown, hts, hK, ⟨hr1, hr2, hr3, hr4⟩, hret⟩ := id C
  obtain ⟨k1, hnL, k2, k4, k5, k6, k7, k8⟩ := hk
  have hcs : 2 * (F0 m pc ls (st0.map (tv G))).monitorRoom + ((st.map (tv G)).map fun v => v.category).sum ≤ 8 := by
    have : ((st.map (tv G)).map fun v => v.category) = st.map fun v => v.category := by
      rw [List.map_map]
      exact List.map_congr_left (fun v _ => tv_cat G v)
    exact lv_room (by rw [this]; exact hsz)
  have hp : PreS s H (Pv G M As) (As.map (tv G)) := ⟨Pv_blind, fun U hU hW => ⟨rfl, by rw [hU]; exact hP, KK.go hK hW (hU ▸ hS)⟩⟩
  rcases k1 with k1 | ⟨host, k1⟩
  · exact r_back (R' := R') C hS hL (va_runS (As := As.map (tv G)) ⟨hx, hb, hml, hown, hts⟩ hM ⟨callB_of np hts (good_ct k5) rfl rfl rfl (hts _ k4) (hts _ k1) ⟨k6, k7, k8⟩ ⟨by show d' + 1 ≤ _; omega, by show 8 + (nLy + 11) + 64 * d' ≤ _; omega⟩, hts _ k2⟩ hp rfl (by simpa using hn) hL.1 (by rw [hst]; simp) hcs hd ⟨hr3, hr4⟩) kk
  · exact r_back (R' := R') C hS hL (va_runSN (As := As.map (tv G)) (host := host) ⟨hx, hb, hml, hown, hts⟩ hM ⟨va_cnB np hts (good_ct k5) rfl rfl rfl (hK.2.2.2.2.2.2.2.2 _ k1) (hts _ k4) ⟨k6, k7, k8⟩ ⟨by show d' + 1 ≤ _; omega, by show 8 + (nLy + 11) + 64 * d' ≤ _; omega⟩, hts _ k2, trivial⟩ hp rfl (by simpa using hn) hL.1 (by rw [hst]; simp) hcs hd ⟨hr3, hr4⟩) kk
end SWR
end
section
/-! helpers of the printed walks -/
def lt {α β : Type} (e : α) (k : α → β) : β := k e
theorem lt_of {α β : Type} {e x : α} {k : α → β} {r : β} (hx : x = e) (hf : lt e k = r) : k x = r := by subst hx; exact hf
theorem lt_ex {α β : Type} {e : α} {k : α → β} {r : β} (hf : lt e k = r) : ∃ x, x = e ∧ k x = r := ⟨e, rfl, hf⟩
theorem ip {c : Prop} [Decidable c] {α : Type} {a b r : α} (q : c) (hf : (if c then a else b) = r) : a = r := (if_pos q).symm.trans hf
theorem im {c : Prop} [Decidable c] {α : Type} {a b r : α} (q : ¬ c) (hf : (if c then a else b) = r) : b = r := (if_neg q).symm.trans hf
def inb (i : Int32) (n : Nat) : Bool := decide (¬ (i < 0 ∨ n ≤ i.toNatClampNeg))
theorem inb_iff {i : Int32} {n : Nat} : inb i n = true ↔ vp_in i n := by unfold inb vp_in; exact decide_eq_true_iff
theorem ck {α : Type} {i : Int32} {n : Nat} {A : Option α} {r : α} (hf : (if inb i n = true then A else none) = some r) : vp_in i n ∧ A = some r := by
  by_cases h : inb i n = true
  · rw [if_pos h] at hf; exact ⟨inb_iff.mp h, hf⟩
  · rw [if_neg h] at hf; cases hf
theorem ckp {α : Type} {c : Prop} [Decidable c] {A : Option α} {r : α} (hf : (if c then A else none) = some r) : c ∧ A = some r := by
  by_cases h : c
  · rw [if_pos h] at hf; exact ⟨h, hf⟩
  · rw [if_neg h] at hf; cases hf
theorem ckz {α : Type} {c : Prop} [Decidable c] {A : Option α} {r : α} (hf : (if c then A else none) = some r) : c ∧ A = some r := ckp hf
theorem bnd {α β : Type} {x : Option α} {k : α → Option β} {r : β} (hf : x.bind k = some r) : ∃ v, x = some v ∧ k v = some r := by
  cases x with
  | none => cases hf
  | some v => exact ⟨v, rfl, hf⟩
section SWX
variable {G : GT} {d : Nat} {cc : ByteArray} {own : String} {nL : Nat} {ret : Option FieldType} {R : Option Value × Mm} {M : Mm} {pc : Nat} {lv : List (Option Value)} {st : List Value}
theorem nmI {x : Int32} (k : ∀ y : Int32, y = x → SW G d cc own nL ret R M pc lv (.int y :: st)) : SW G d cc own nL ret R M pc lv (.int x :: st) := k x rfl
theorem nmL {x : Int64} (k : ∀ y : Int64, y = x → SW G d cc own nL ret R M pc lv (.long y :: st)) : SW G d cc own nL ret R M pc lv (.long x :: st) := k x rfl
theorem nmM (k : ∀ M' : Mm, M' = M → SW G d cc own nL ret R M' pc lv st) : SW G d cc own nL ret R M pc lv st := k M rfl
def dropL (lv : List (Option Value)) : List Nat → List (Option Value)
  | [] => lv
  | k :: ks => dropL (lv.set k none) ks
theorem dropL_get {i : Nat} {v : Value} : ∀ {ks : List Nat} {lv : List (Option Value)}, (dropL lv ks)[i]? = some (some v) → lv[i]? = some (some v)
  | [], _, h => h
  | k :: ks, lv, h => by
    have h1 := dropL_get (ks := ks) (lv := lv.set k none) h
    by_cases e : k = i
    · subst e
      rw [List.getElem?_set] at h1
      simp only [if_true] at h1
      split at h1 <;> simp at h1
    · rwa [List.getElem?_set_ne e] at h1
theorem r_weak (ks : List Nat) {lv' : List (Option Value)} (h : dropL lv ks = lv') (k : SW G d cc own nL ret R M pc lv' st) : SW G d cc own nL ret R M pc lv st := by
  intro p e Rm s m args below meth c cells slots Q C H locs ls hP hS hL
  refine k p e Rm s m args below meth c cells slots Q C H locs ls hP hS ⟨hL.1, hL.2.1, fun q hq => ?_⟩
  obtain ⟨j, v, hj, rfl⟩ := lvl_mem.mp hq
  subst h
  exact hL.2.2 _ (lvl_mem.mpr ⟨j, v, dropL_get hj, rfl⟩)
end SWX
theorem to_all : ∀ a, a < 64 → sh a = (5, 0) → (rf a 3 = a + 1 ∧ rf a 4 = a + 2 ∧ rf a 5 = a + 3 ∧ rf a 6 = a + 4) ∧ sh (a + 1) = (10, 8) ∧ sh (a + 2) = (10, 8) ∧ sh (a + 3) = (10, 8) ∧ sh (a + 4) = (10, 8) := by decide +kernel
theorem to_f {a : Nat} (h : sh a = (5, 0)) := to_all a (sh_lt h (by decide)) h
theorem to_r3 {a : Nat} (h : sh a = (5, 0)) : rf a 3 = a + 1 := (to_f h).1.1
theorem to_r4 {a : Nat} (h : sh a = (5, 0)) : rf a 4 = a + 2 := (to_f h).1.2.1
theorem to_r5 {a : Nat} (h : sh a = (5, 0)) : rf a 5 = a + 3 := (to_f h).1.2.2.1
theorem to_r6 {a : Nat} (h : sh a = (5, 0)) : rf a 6 = a + 4 := (to_f h).1.2.2.2
theorem to_s3 {a : Nat} (h : sh a = (5, 0)) : sh (a + 1) = (10, 8) := (to_f h).2.1
theorem to_s4 {a : Nat} (h : sh a = (5, 0)) : sh (a + 2) = (10, 8) := (to_f h).2.2.1
theorem to_s5 {a : Nat} (h : sh a = (5, 0)) : sh (a + 3) = (10, 8) := (to_f h).2.2.2.1
theorem to_s6 {a : Nat} (h : sh a = (5, 0)) : sh (a + 4) = (10, 8) := (to_f h).2.2.2.2
theorem im_all : ∀ a, a < 64 → sh a = (1, 0) → rf a 0 = a + 1 ∧ sh (a + 1) = (5, 0) := by decide +kernel
theorem im_r {a : Nat} (h : sh a = (1, 0)) : rf a 0 = a + 1 := (im_all a (sh_lt h (by decide)) h).1
theorem im_s {a : Nat} (h : sh a = (1, 0)) : sh (a + 1) = (5, 0) := (im_all a (sh_lt h (by decide)) h).2
theorem sh_0 : sh 0 = (8, 0) := by decide
theorem rf_0_0 : rf 0 0 = 1 := by decide
theorem rf_0_1 : rf 0 1 = 6 := by decide
theorem rf_0_2 : rf 0 2 = 11 := by decide
theorem rf_0_3 : rf 0 3 = 18 := by decide
theorem rf_0_4 : rf 0 4 = 20 := by decide
theorem rf_0_5 : rf 0 5 = 24 := by decide
theorem rf_0_6 : rf 0 6 = 30 := by decide
theorem rf_0_7 : rf 0 7 = 33 := by decide
theorem rf_0_8 : rf 0 8 = 37 := by decide
theorem rf_0_9 : rf 0 9 = 43 := by decide
theorem sh_1 : sh 1 = (5, 0) := by decide
theorem rf_1_3 : rf 1 3 = 2 := by decide
theorem rf_1_4 : rf 1 4 = 3 := by decide
theorem rf_1_5 : rf 1 5 = 4 := by decide
theorem rf_1_6 : rf 1 6 = 5 := by decide
theorem sh_2 : sh 2 = (10, 8) := by decide
theorem sh_3 : sh 3 = (10, 8) := by decide
theorem sh_4 : sh 4 = (10, 8) := by decide
theorem sh_5 : sh 5 = (10, 8) := by decide
theorem sh_6 : sh 6 = (5, 0) := by decide
theorem rf_6_3 : rf 6 3 = 7 := by decide
theorem rf_6_4 : rf 6 4 = 8 := by decide
theorem rf_6_5 : rf 6 5 = 9 := by decide
theorem rf_6_6 : rf 6 6 = 10 := by decide
theorem sh_7 : sh 7 = (10, 8) := by decide
theorem sh_8 : sh 8 = (10, 8) := by decide
theorem sh_9 : sh 9 = (10, 8) := by decide
theorem sh_10 : sh 10 = (10, 8) := by decide
theorem sh_11 : sh 11 = (4, 0) := by decide
theorem rf_11_0 : rf 11 0 = 12 := by decide
theorem rf_11_1 : rf 11 1 = 13 := by decide
theorem sh_12 : sh 12 = (12, 400) := by decide
theorem sh_13 : sh 13 = (5, 0) := by decide
theorem rf_13_3 : rf 13 3 = 14 := by decide
theorem rf_13_4 : rf 13 4 = 15 := by decide
theorem rf_13_5 : rf 13 5 = 16 := by decide
theorem rf_13_6 : rf 13 6 = 17 := by decide
theorem sh_14 : sh 14 = (10, 8) := by decide
theorem sh_15 : sh 15 = (10, 8) := by decide
theorem sh_16 : sh 16 = (10, 8) := by decide
theorem sh_17 : sh 17 = (10, 8) := by decide
theorem sh_18 : sh 18 = (2, 0) := by decide
theorem rf_18_0 : rf 18 0 = 19 := by decide
theorem sh_19 : sh 19 = (13, 256) := by decide
theorem sh_20 : sh 20 = (3, 0) := by decide
theorem rf_20_0 : rf 20 0 = 21 := by decide
theorem rf_20_1 : rf 20 1 = 22 := by decide
theorem rf_20_2 : rf 20 2 = 23 := by decide
theorem sh_21 : sh 21 = (10, 6) := by decide
theorem sh_22 : sh 22 = (10, 7) := by decide
theorem sh_23 : sh 23 = (10, 6) := by decide
theorem sh_24 : sh 24 = (7, 0) := by decide
theorem rf_24_0 : rf 24 0 = 25 := by decide
theorem rf_24_1 : rf 24 1 = 26 := by decide
theorem rf_24_2 : rf 24 2 = 27 := by decide
theorem rf_24_3 : rf 24 3 = 28 := by decide
theorem rf_24_4 : rf 24 4 = 29 := by decide
theorem sh_25 : sh 25 = (10, 8) := by decide
theorem sh_26 : sh 26 = (10, 8) := by decide
theorem sh_27 : sh 27 = (10, 8) := by decide
theorem sh_28 : sh 28 = (10, 8) := by decide
theorem sh_29 : sh 29 = (10, 8) := by decide
theorem sh_30 : sh 30 = (6, 0) := by decide
theorem rf_30_0 : rf 30 0 = 31 := by decide
theorem rf_30_1 : rf 30 1 = 32 := by decide
theorem sh_31 : sh 31 = (10, 25) := by decide
theorem sh_32 : sh 32 = (10, 6) := by decide
theorem sh_33 : sh 33 = (0, 0) := by decide
theorem rf_33_0 : rf 33 0 = 34 := by decide
theorem rf_33_1 : rf 33 1 = 35 := by decide
theorem rf_33_2 : rf 33 2 = 36 := by decide
theorem sh_34 : sh 34 = (10, 30) := by decide
theorem sh_35 : sh 35 = (10, 30) := by decide
theorem sh_36 : sh 36 = (11, 30) := by decide
theorem sh_37 : sh 37 = (1, 0) := by decide
theorem rf_37_0 : rf 37 0 = 38 := by decide
theorem sh_38 : sh 38 = (5, 0) := by decide
theorem rf_38_3 : rf 38 3 = 39 := by decide
theorem rf_38_4 : rf 38 4 = 40 := by decide
theorem rf_38_5 : rf 38 5 = 41 := by decide
theorem rf_38_6 : rf 38 6 = 42 := by decide
theorem sh_39 : sh 39 = (10, 8) := by decide
theorem sh_40 : sh 40 = (10, 8) := by decide
theorem sh_41 : sh 41 = (10, 8) := by decide
theorem sh_42 : sh 42 = (10, 8) := by decide
theorem sh_43 : sh 43 = (1, 0) := by decide
theorem rf_43_0 : rf 43 0 = 44 := by decide
theorem sh_44 : sh 44 = (5, 0) := by decide
theorem rf_44_3 : rf 44 3 = 45 := by decide
theorem rf_44_4 : rf 44 4 = 46 := by decide
theorem rf_44_5 : rf 44 5 = 47 := by decide
theorem rf_44_6 : rf 44 6 = 48 := by decide
theorem sh_45 : sh 45 = (10, 8) := by decide
theorem sh_46 : sh 46 = (10, 8) := by decide
theorem sh_47 : sh 47 = (10, 8) := by decide
theorem sh_48 : sh 48 = (10, 8) := by decide
theorem sh_49 : sh 49 = (9, 0) := by decide
theorem rf_49_6 : rf 49 6 = 50 := by decide
theorem rf_49_8 : rf 49 8 = 51 := by decide
theorem rf_49_9 : rf 49 9 = 52 := by decide
theorem rf_49_23 : rf 49 23 = 53 := by decide
theorem rf_49_24 : rf 49 24 = 54 := by decide
theorem rf_49_25 : rf 49 25 = 55 := by decide
theorem rf_49_30 : rf 49 30 = 56 := by decide
theorem rf_49_31 : rf 49 31 = 57 := by decide
theorem rf_49_32 : rf 49 32 = 58 := by decide
theorem rf_49_34 : rf 49 34 = 59 := by decide
theorem rf_49_35 : rf 49 35 = 60 := by decide
theorem rf_49_36 : rf 49 36 = 61 := by decide
theorem rf_49_37 : rf 49 37 = 62 := by decide
theorem rf_49_38 : rf 49 38 = 63 := by decide
theorem sh_50 : sh 50 = (10, 8) := by decide
theorem sh_51 : sh 51 = (10, 8) := by decide
theorem sh_52 : sh 52 = (10, 400) := by decide
theorem sh_53 : sh 53 = (10, 8) := by decide
theorem sh_54 : sh 54 = (10, 9) := by decide
theorem sh_55 : sh 55 = (10, 8) := by decide
theorem sh_56 : sh 56 = (10, 8) := by decide
theorem sh_57 : sh 57 = (10, 8) := by decide
theorem sh_58 : sh 58 = (10, 8) := by decide
theorem sh_59 : sh 59 = (10, 30) := by decide
theorem sh_60 : sh 60 = (10, 30) := by decide
theorem sh_61 : sh 61 = (11, 30) := by decide
theorem sh_62 : sh 62 = (10, 40) := by decide
theorem sh_63 : sh 63 = (11, 2) := by decide
theorem k_Uc_71 : Cond.constant R_Uc 71 (-1000000002) ∈ tw := tw_mem 382 (by decide +kernel) rfl
theorem k_Uc_76 : Cond.constant R_Uc 76 (-1000000004) ∈ tw := tw_mem 387 (by decide +kernel) rfl
theorem k_In_265 : Cond.constant R_In 265 (1431655765) ∈ tw := tw_mem 553 (by decide +kernel) rfl
theorem k_In_266 : Cond.constant R_In 266 (858993459) ∈ tw := tw_mem 554 (by decide +kernel) rfl
theorem k_In_267 : Cond.constant R_In 267 (252645135) ∈ tw := tw_mem 555 (by decide +kernel) rfl
theorem k_Uc_149 : Cond.constant R_Uc 149 (-1000000001) ∈ tw := tw_mem 594 (by decide +kernel) rfl
theorem k_Uc_165 : Cond.constant R_Uc 165 (-1000000003) ∈ tw := tw_mem 628 (by decide +kernel) rfl
theorem k_Se_36 : Cond.constant R_Se 36 (1000000) ∈ tw := tw_mem 722 (by decide +kernel) rfl
theorem k_Uc_282 : Cond.constant R_Uc 282 (1103515245) ∈ tw := tw_mem 908 (by decide +kernel) rfl
theorem k_Uc_283 : Cond.constant R_Uc 283 (2147483647) ∈ tw := tw_mem 909 (by decide +kernel) rfl
theorem k_Uc_284 : Cond.constant R_Uc 284 (65536) ∈ tw := tw_mem 910 (by decide +kernel) rfl
theorem k_Mo_94 : Cond.constant R_Mo 94 (-1000000002) ∈ tw := tw_mem 1059 (by decide +kernel) rfl
theorem k_Mo_98 : Cond.constant R_Mo 98 (-1000000004) ∈ tw := tw_mem 1060 (by decide +kernel) rfl
theorem k_Mo_203 : Cond.constant R_Mo 203 (-1000000001) ∈ tw := tw_mem 1149 (by decide +kernel) rfl
theorem k_Mo_210 : Cond.constant R_Mo 210 (-1000000003) ∈ tw := tw_mem 1174 (by decide +kernel) rfl
theorem k_Mo_223 : Cond.constant R_Mo 223 (1000000) ∈ tw := tw_mem 1211 (by decide +kernel) rfl
theorem k_Mo_298 : Cond.constant R_Mo 298 (65536) ∈ tw := tw_mem 1334 (by decide +kernel) rfl
theorem k_Mk_29 : Cond.constantLong R_Mk 29 (4611686018427387904) ∈ tw := tw_mem 678 (by decide +kernel) rfl
theorem k_Mk_34 : Cond.constantLong R_Mk 34 (16777215) ∈ tw := tw_mem 689 (by decide +kernel) rfl
theorem k_Mo_92 : Cond.constantLong R_Mo 92 (8) ∈ tw := tw_mem 1055 (by decide +kernel) rfl
theorem k_Mo_99 : Cond.constantLong R_Mo 99 (255) ∈ tw := tw_mem 1061 (by decide +kernel) rfl
theorem k_Mo_115 : Cond.constantLong R_Mo 115 (97) ∈ tw := tw_mem 1078 (by decide +kernel) rfl
theorem k_Mo_117 : Cond.constantLong R_Mo 117 (122) ∈ tw := tw_mem 1079 (by decide +kernel) rfl
theorem k_Mo_119 : Cond.constantLong R_Mo 119 (100000000000000) ∈ tw := tw_mem 1080 (by decide +kernel) rfl
theorem k_Mo_121 : Cond.constantLong R_Mo 121 (200000000000000) ∈ tw := tw_mem 1081 (by decide +kernel) rfl
theorem k_Mo_123 : Cond.constantLong R_Mo 123 (27) ∈ tw := tw_mem 1082 (by decide +kernel) rfl
theorem k_Mo_125 : Cond.constantLong R_Mo 125 (96) ∈ tw := tw_mem 1083 (by decide +kernel) rfl
theorem k_Mo_177 : Cond.constantLong R_Mo 177 (115) ∈ tw := tw_mem 1090 (by decide +kernel) rfl
theorem k_Mo_127 : Cond.constantLong R_Mo 127 (48) ∈ tw := tw_mem 1103 (by decide +kernel) rfl
theorem k_Mo_129 : Cond.constantLong R_Mo 129 (57) ∈ tw := tw_mem 1104 (by decide +kernel) rfl
theorem k_Mo_211 : Cond.constantLong R_Mo 211 (2) ∈ tw := tw_mem 1179 (by decide +kernel) rfl
theorem k_Mo_241 : Cond.constantLong R_Mo 241 (-3) ∈ tw := tw_mem 1205 (by decide +kernel) rfl
theorem k_Mo_243 : Cond.constantLong R_Mo 243 (-1) ∈ tw := tw_mem 1206 (by decide +kernel) rfl
theorem k_Mo_252 : Cond.constantLong R_Mo 252 (7) ∈ tw := tw_mem 1232 (by decide +kernel) rfl
theorem k_Mo_263 : Cond.constantLong R_Mo 263 (5) ∈ tw := tw_mem 1256 (by decide +kernel) rfl
theorem k_Mo_287 : Cond.constantLong R_Mo 287 (4) ∈ tw := tw_mem 1301 (by decide +kernel) rfl
theorem k_Mo_308 : Cond.constantLong R_Mo 308 (99) ∈ tw := tw_mem 1322 (by decide +kernel) rfl
theorem k_Mo_292 : Cond.constantLong R_Mo 292 (1103515245) ∈ tw := tw_mem 1331 (by decide +kernel) rfl
theorem k_Mo_294 : Cond.constantLong R_Mo 294 (12345) ∈ tw := tw_mem 1332 (by decide +kernel) rfl
theorem k_Mo_296 : Cond.constantLong R_Mo 296 (2147483648) ∈ tw := tw_mem 1333 (by decide +kernel) rfl
theorem k_Lw_13 : Cond.constantLong R_Lw 13 (4294967295) ∈ tw := tw_mem 1349 (by decide +kernel) rfl
theorem fl_To_31 : FL R_To 31 5 0 := ⟨by decide, by decide, Or.inl (tw_mem 91 (by decide +kernel) rfl)⟩
theorem fl_To_9 : FL R_To 9 5 1 := ⟨by decide, by decide, Or.inl (tw_mem 97 (by decide +kernel) rfl)⟩
theorem fl_To_15 : FL R_To 15 5 2 := ⟨by decide, by decide, Or.inl (tw_mem 102 (by decide +kernel) rfl)⟩
theorem fl_To_18 : FL R_To 18 5 3 := ⟨by decide, by decide, Or.inl (tw_mem 107 (by decide +kernel) rfl)⟩
theorem fl_To_22 : FL R_To 22 5 4 := ⟨by decide, by decide, Or.inl (tw_mem 114 (by decide +kernel) rfl)⟩
theorem fl_To_25 : FL R_To 25 5 5 := ⟨by decide, by decide, Or.inl (tw_mem 118 (by decide +kernel) rfl)⟩
theorem fl_To_28 : FL R_To 28 5 6 := ⟨by decide, by decide, Or.inl (tw_mem 122 (by decide +kernel) rfl)⟩
theorem fl_Te_9 : FL R_Te 9 4 0 := ⟨by decide, by decide, Or.inl (tw_mem 149 (by decide +kernel) rfl)⟩
theorem fl_Te_18 : FL R_Te 18 4 1 := ⟨by decide, by decide, Or.inl (tw_mem 150 (by decide +kernel) rfl)⟩
theorem fl_Te_26 : FL R_Te 26 4 2 := ⟨by decide, by decide, Or.inl (tw_mem 151 (by decide +kernel) rfl)⟩
theorem fl_Te_32 : FL R_Te 32 4 3 := ⟨by decide, by decide, Or.inl (tw_mem 152 (by decide +kernel) rfl)⟩
theorem fl_Te_35 : FL R_Te 35 4 4 := ⟨by decide, by decide, Or.inl (tw_mem 153 (by decide +kernel) rfl)⟩
theorem fl_Te_29 : FL R_Te 29 4 5 := ⟨by decide, by decide, Or.inl (tw_mem 154 (by decide +kernel) rfl)⟩
theorem fl_Te_22 : FL R_Te 22 4 6 := ⟨by decide, by decide, Or.inl (tw_mem 155 (by decide +kernel) rfl)⟩
theorem fl_Mk_11 : FL R_Mk 11 2 0 := ⟨by decide, by decide, Or.inl (tw_mem 178 (by decide +kernel) rfl)⟩
theorem fl_Mk_21 : FL R_Mk 21 2 1 := ⟨by decide, by decide, Or.inl (tw_mem 179 (by decide +kernel) rfl)⟩
theorem fl_Mk_31 : FL R_Mk 31 2 2 := ⟨by decide, by decide, Or.inl (tw_mem 180 (by decide +kernel) rfl)⟩
theorem fl_Mk_26 : FL R_Mk 26 2 3 := ⟨by decide, by decide, Or.inl (tw_mem 182 (by decide +kernel) rfl)⟩
theorem fl_Mk_36 : FL R_Mk 36 2 4 := ⟨by decide, by decide, Or.inl (tw_mem 184 (by decide +kernel) rfl)⟩
theorem fl_Se_9 : FL R_Se 9 3 0 := ⟨by decide, by decide, Or.inl (tw_mem 203 (by decide +kernel) rfl)⟩
theorem fl_Se_15 : FL R_Se 15 3 1 := ⟨by decide, by decide, Or.inl (tw_mem 204 (by decide +kernel) rfl)⟩
theorem fl_Se_18 : FL R_Se 18 3 2 := ⟨by decide, by decide, Or.inl (tw_mem 205 (by decide +kernel) rfl)⟩
theorem fl_Se_57 : FL R_Se 57 3 3 := ⟨by decide, by decide, Or.inl (tw_mem 206 (by decide +kernel) rfl)⟩
theorem fl_Se_61 : FL R_Se 61 3 4 := ⟨by decide, by decide, Or.inl (tw_mem 207 (by decide +kernel) rfl)⟩
theorem fl_Se_65 : FL R_Se 65 3 5 := ⟨by decide, by decide, Or.inl (tw_mem 208 (by decide +kernel) rfl)⟩
theorem fl_Se_74 : FL R_Se 74 3 6 := ⟨by decide, by decide, Or.inl (tw_mem 209 (by decide +kernel) rfl)⟩
theorem fl_Se_79 : FL R_Se 79 3 7 := ⟨by decide, by decide, Or.inl (tw_mem 210 (by decide +kernel) rfl)⟩
theorem fl_Se_84 : FL R_Se 84 3 8 := ⟨by decide, by decide, Or.inl (tw_mem 211 (by decide +kernel) rfl)⟩
theorem fl_Se_40 : FL R_Se 40 3 9 := ⟨by decide, by decide, Or.inl (tw_mem 212 (by decide +kernel) rfl)⟩
theorem fl_Se_86 : FL R_Se 86 3 10 := ⟨by decide, by decide, Or.inl (tw_mem 213 (by decide +kernel) rfl)⟩
theorem fl_Se_32 : FL R_Se 32 3 11 := ⟨by decide, by decide, Or.inl (tw_mem 215 (by decide +kernel) rfl)⟩
theorem fl_Se_37 : FL R_Se 37 3 12 := ⟨by decide, by decide, Or.inl (tw_mem 217 (by decide +kernel) rfl)⟩
theorem fl_Se_89 : FL R_Se 89 3 13 := ⟨by decide, by decide, Or.inl (tw_mem 219 (by decide +kernel) rfl)⟩
theorem fl_Se_92 : FL R_Se 92 3 14 := ⟨by decide, by decide, Or.inl (tw_mem 221 (by decide +kernel) rfl)⟩
theorem fl_Se_95 : FL R_Se 95 3 15 := ⟨by decide, by decide, Or.inl (tw_mem 223 (by decide +kernel) rfl)⟩
theorem fl_Se_98 : FL R_Se 98 3 16 := ⟨by decide, by decide, Or.inl (tw_mem 225 (by decide +kernel) rfl)⟩
theorem fl_We_9 : FL R_We 9 7 0 := ⟨by decide, by decide, Or.inl (tw_mem 268 (by decide +kernel) rfl)⟩
theorem fl_We_15 : FL R_We 15 7 1 := ⟨by decide, by decide, Or.inl (tw_mem 269 (by decide +kernel) rfl)⟩
theorem fl_We_18 : FL R_We 18 7 2 := ⟨by decide, by decide, Or.inl (tw_mem 270 (by decide +kernel) rfl)⟩
theorem fl_We_21 : FL R_We 21 7 3 := ⟨by decide, by decide, Or.inl (tw_mem 271 (by decide +kernel) rfl)⟩
theorem fl_We_24 : FL R_We 24 7 4 := ⟨by decide, by decide, Or.inl (tw_mem 272 (by decide +kernel) rfl)⟩
theorem fl_We_56 : FL R_We 56 7 5 := ⟨by decide, by decide, Or.inl (tw_mem 273 (by decide +kernel) rfl)⟩
theorem fl_We_40 : FL R_We 40 7 6 := ⟨by decide, by decide, Or.inl (tw_mem 274 (by decide +kernel) rfl)⟩
theorem fl_Wa_11 : FL R_Wa 11 6 0 := ⟨by decide, by decide, Or.inl (tw_mem 297 (by decide +kernel) rfl)⟩
theorem fl_Wa_15 : FL R_Wa 15 6 1 := ⟨by decide, by decide, Or.inl (tw_mem 298 (by decide +kernel) rfl)⟩
theorem fl_Bk_9 : FL R_Bk 9 0 0 := ⟨by decide, by decide, Or.inl (tw_mem 310 (by decide +kernel) rfl)⟩
theorem fl_Bk_15 : FL R_Bk 15 0 1 := ⟨by decide, by decide, Or.inl (tw_mem 311 (by decide +kernel) rfl)⟩
theorem fl_Bk_18 : FL R_Bk 18 0 2 := ⟨by decide, by decide, Or.inl (tw_mem 312 (by decide +kernel) rfl)⟩
theorem fl_Bk_22 : FL R_Bk 22 0 3 := ⟨by decide, by decide, Or.inl (tw_mem 313 (by decide +kernel) rfl)⟩
theorem fl_Im_10 : FL R_Im 10 1 0 := ⟨by decide, by decide, Or.inl (tw_mem 333 (by decide +kernel) rfl)⟩
theorem fl_Uc_10 : FL R_Uc 10 8 0 := ⟨by decide, by decide, Or.inl (tw_mem 344 (by decide +kernel) rfl)⟩
theorem fl_Uc_16 : FL R_Uc 16 8 1 := ⟨by decide, by decide, Or.inl (tw_mem 345 (by decide +kernel) rfl)⟩
theorem fl_Uc_22 : FL R_Uc 22 8 2 := ⟨by decide, by decide, Or.inl (tw_mem 346 (by decide +kernel) rfl)⟩
theorem fl_Uc_29 : FL R_Uc 29 8 3 := ⟨by decide, by decide, Or.inl (tw_mem 347 (by decide +kernel) rfl)⟩
theorem fl_Uc_36 : FL R_Uc 36 8 4 := ⟨by decide, by decide, Or.inl (tw_mem 348 (by decide +kernel) rfl)⟩
theorem fl_Uc_43 : FL R_Uc 43 8 5 := ⟨by decide, by decide, Or.inl (tw_mem 349 (by decide +kernel) rfl)⟩
theorem fl_Uc_50 : FL R_Uc 50 8 6 := ⟨by decide, by decide, Or.inl (tw_mem 350 (by decide +kernel) rfl)⟩
theorem fl_Uc_57 : FL R_Uc 57 8 7 := ⟨by decide, by decide, Or.inl (tw_mem 351 (by decide +kernel) rfl)⟩
theorem fl_Uc_64 : FL R_Uc 64 8 8 := ⟨by decide, by decide, Or.inl (tw_mem 352 (by decide +kernel) rfl)⟩
theorem fl_Uc_68 : FL R_Uc 68 8 9 := ⟨by decide, by decide, Or.inl (tw_mem 353 (by decide +kernel) rfl)⟩
theorem fl_Uc_267 : FL R_Uc 267 8 10 := ⟨by decide, by decide, Or.inl (tw_mem 354 (by decide +kernel) rfl)⟩
theorem fl_Mo_63 : FL R_Mo 63 9 0 := ⟨by decide, by decide, Or.inl (tw_mem 933 (by decide +kernel) rfl)⟩
theorem fl_Mo_86 : FL R_Mo 86 9 1 := ⟨by decide, by decide, Or.inl (tw_mem 934 (by decide +kernel) rfl)⟩
theorem fl_Mo_185 : FL R_Mo 185 9 2 := ⟨by decide, by decide, Or.inl (tw_mem 935 (by decide +kernel) rfl)⟩
theorem fl_Mo_188 : FL R_Mo 188 9 3 := ⟨by decide, by decide, Or.inl (tw_mem 936 (by decide +kernel) rfl)⟩
theorem fl_Mo_7 : FL R_Mo 7 9 4 := ⟨by decide, by decide, Or.inl (tw_mem 937 (by decide +kernel) rfl)⟩
theorem fl_Mo_13 : FL R_Mo 13 9 5 := ⟨by decide, by decide, Or.inl (tw_mem 938 (by decide +kernel) rfl)⟩
theorem fl_Mo_16 : FL R_Mo 16 9 6 := ⟨by decide, by decide, Or.inl (tw_mem 939 (by decide +kernel) rfl)⟩
theorem fl_Mo_289 : FL R_Mo 289 9 7 := ⟨by decide, by decide, Or.inl (tw_mem 940 (by decide +kernel) rfl)⟩
theorem fl_Mo_20 : FL R_Mo 20 9 8 := ⟨by decide, by decide, Or.inl (tw_mem 941 (by decide +kernel) rfl)⟩
theorem fl_Mo_23 : FL R_Mo 23 9 9 := ⟨by decide, by decide, Or.inl (tw_mem 942 (by decide +kernel) rfl)⟩
theorem fl_Mo_95 : FL R_Mo 95 9 10 := ⟨by decide, by decide, Or.inl (tw_mem 943 (by decide +kernel) rfl)⟩
theorem fl_Mo_26 : FL R_Mo 26 9 11 := ⟨by decide, by decide, Or.inl (tw_mem 944 (by decide +kernel) rfl)⟩
theorem fl_Mo_101 : FL R_Mo 101 9 12 := ⟨by decide, by decide, Or.inl (tw_mem 945 (by decide +kernel) rfl)⟩
theorem fl_Mo_108 : FL R_Mo 108 9 13 := ⟨by decide, by decide, Or.inl (tw_mem 946 (by decide +kernel) rfl)⟩
theorem fl_Mo_112 : FL R_Mo 112 9 14 := ⟨by decide, by decide, Or.inl (tw_mem 947 (by decide +kernel) rfl)⟩
theorem fl_Mo_138 : FL R_Mo 138 9 15 := ⟨by decide, by decide, Or.inl (tw_mem 948 (by decide +kernel) rfl)⟩
theorem fl_Mo_135 : FL R_Mo 135 9 16 := ⟨by decide, by decide, Or.inl (tw_mem 949 (by decide +kernel) rfl)⟩
theorem fl_Mo_141 : FL R_Mo 141 9 17 := ⟨by decide, by decide, Or.inl (tw_mem 950 (by decide +kernel) rfl)⟩
theorem fl_Mo_147 : FL R_Mo 147 9 18 := ⟨by decide, by decide, Or.inl (tw_mem 951 (by decide +kernel) rfl)⟩
theorem fl_Mo_150 : FL R_Mo 150 9 19 := ⟨by decide, by decide, Or.inl (tw_mem 952 (by decide +kernel) rfl)⟩
theorem fl_Mo_153 : FL R_Mo 153 9 20 := ⟨by decide, by decide, Or.inl (tw_mem 953 (by decide +kernel) rfl)⟩
theorem fl_Mo_156 : FL R_Mo 156 9 21 := ⟨by decide, by decide, Or.inl (tw_mem 954 (by decide +kernel) rfl)⟩
theorem fl_Mo_159 : FL R_Mo 159 9 22 := ⟨by decide, by decide, Or.inl (tw_mem 955 (by decide +kernel) rfl)⟩
theorem fl_Mo_29 : FL R_Mo 29 9 23 := ⟨by decide, by decide, Or.inl (tw_mem 956 (by decide +kernel) rfl)⟩
theorem fl_Mo_32 : FL R_Mo 32 9 24 := ⟨by decide, by decide, Or.inl (tw_mem 957 (by decide +kernel) rfl)⟩
theorem fl_Mo_35 : FL R_Mo 35 9 25 := ⟨by decide, by decide, Or.inl (tw_mem 958 (by decide +kernel) rfl)⟩
theorem fl_Mo_234 : FL R_Mo 234 9 26 := ⟨by decide, by decide, Or.inl (tw_mem 959 (by decide +kernel) rfl)⟩
theorem fl_Mo_231 : FL R_Mo 231 9 27 := ⟨by decide, by decide, Or.inl (tw_mem 960 (by decide +kernel) rfl)⟩
theorem fl_Mo_265 : FL R_Mo 265 9 28 := ⟨by decide, by decide, Or.inl (tw_mem 961 (by decide +kernel) rfl)⟩
theorem fl_Mo_268 : FL R_Mo 268 9 29 := ⟨by decide, by decide, Or.inl (tw_mem 962 (by decide +kernel) rfl)⟩
theorem fl_Mo_38 : FL R_Mo 38 9 30 := ⟨by decide, by decide, Or.inl (tw_mem 963 (by decide +kernel) rfl)⟩
theorem fl_Mo_41 : FL R_Mo 41 9 31 := ⟨by decide, by decide, Or.inl (tw_mem 964 (by decide +kernel) rfl)⟩
theorem fl_Mo_44 : FL R_Mo 44 9 32 := ⟨by decide, by decide, Or.inl (tw_mem 965 (by decide +kernel) rfl)⟩
theorem fl_Mo_194 : FL R_Mo 194 9 33 := ⟨by decide, by decide, Or.inl (tw_mem 966 (by decide +kernel) rfl)⟩
theorem fl_Mo_47 : FL R_Mo 47 9 34 := ⟨by decide, by decide, Or.inl (tw_mem 967 (by decide +kernel) rfl)⟩
theorem fl_Mo_50 : FL R_Mo 50 9 35 := ⟨by decide, by decide, Or.inl (tw_mem 968 (by decide +kernel) rfl)⟩
theorem fl_Mo_53 : FL R_Mo 53 9 36 := ⟨by decide, by decide, Or.inl (tw_mem 969 (by decide +kernel) rfl)⟩
theorem fl_Mo_57 : FL R_Mo 57 9 37 := ⟨by decide, by decide, Or.inl (tw_mem 970 (by decide +kernel) rfl)⟩
theorem fl_Mo_60 : FL R_Mo 60 9 38 := ⟨by decide, by decide, Or.inl (tw_mem 971 (by decide +kernel) rfl)⟩
theorem fl_Mk_15 : FL R_Mk 15 5 0 := ⟨by decide, by decide, Or.inr ⟨"UnlikeCounts", ntw_mem 92 (by decide +kernel) rfl⟩⟩
theorem fl_We_31 : FL R_We 31 5 0 := ⟨by decide, by decide, Or.inr ⟨"UnlikeCounts", ntw_mem 93 (by decide +kernel) rfl⟩⟩
theorem fl_Uc_105 : FL R_Uc 105 5 0 := ⟨by decide, by decide, Or.inr ⟨"UnlikeCounts", ntw_mem 94 (by decide +kernel) rfl⟩⟩
theorem fl_Se_46 : FL R_Se 46 5 0 := ⟨by decide, by decide, Or.inr ⟨"UnlikeCounts", ntw_mem 95 (by decide +kernel) rfl⟩⟩
theorem fl_Te_73 : FL R_Te 73 5 0 := ⟨by decide, by decide, Or.inr ⟨"UnlikeCounts", ntw_mem 96 (by decide +kernel) rfl⟩⟩
theorem fl_Se_58 : FL R_Se 58 5 1 := ⟨by decide, by decide, Or.inr ⟨"UnlikeCounts", ntw_mem 98 (by decide +kernel) rfl⟩⟩
theorem fl_Uc_129 : FL R_Uc 129 5 1 := ⟨by decide, by decide, Or.inr ⟨"UnlikeCounts", ntw_mem 99 (by decide +kernel) rfl⟩⟩
theorem fl_Mk_73 : FL R_Mk 73 5 1 := ⟨by decide, by decide, Or.inr ⟨"UnlikeCounts", ntw_mem 100 (by decide +kernel) rfl⟩⟩
theorem fl_Te_80 : FL R_Te 80 5 1 := ⟨by decide, by decide, Or.inr ⟨"UnlikeCounts", ntw_mem 101 (by decide +kernel) rfl⟩⟩
theorem fl_Se_62 : FL R_Se 62 5 2 := ⟨by decide, by decide, Or.inr ⟨"UnlikeCounts", ntw_mem 103 (by decide +kernel) rfl⟩⟩
theorem fl_Uc_132 : FL R_Uc 132 5 2 := ⟨by decide, by decide, Or.inr ⟨"UnlikeCounts", ntw_mem 104 (by decide +kernel) rfl⟩⟩
theorem fl_Mk_79 : FL R_Mk 79 5 2 := ⟨by decide, by decide, Or.inr ⟨"UnlikeCounts", ntw_mem 105 (by decide +kernel) rfl⟩⟩
theorem fl_Te_83 : FL R_Te 83 5 2 := ⟨by decide, by decide, Or.inr ⟨"UnlikeCounts", ntw_mem 106 (by decide +kernel) rfl⟩⟩
theorem fl_We_37 : FL R_We 37 5 3 := ⟨by decide, by decide, Or.inr ⟨"UnlikeCounts", ntw_mem 108 (by decide +kernel) rfl⟩⟩
theorem fl_Bk_36 : FL R_Bk 36 5 3 := ⟨by decide, by decide, Or.inr ⟨"UnlikeCounts", ntw_mem 109 (by decide +kernel) rfl⟩⟩
theorem fl_Se_67 : FL R_Se 67 5 3 := ⟨by decide, by decide, Or.inr ⟨"UnlikeCounts", ntw_mem 110 (by decide +kernel) rfl⟩⟩
theorem fl_Uc_115 : FL R_Uc 115 5 3 := ⟨by decide, by decide, Or.inr ⟨"UnlikeCounts", ntw_mem 111 (by decide +kernel) rfl⟩⟩
theorem fl_Mk_76 : FL R_Mk 76 5 3 := ⟨by decide, by decide, Or.inr ⟨"UnlikeCounts", ntw_mem 112 (by decide +kernel) rfl⟩⟩
theorem fl_Te_96 : FL R_Te 96 5 3 := ⟨by decide, by decide, Or.inr ⟨"UnlikeCounts", ntw_mem 113 (by decide +kernel) rfl⟩⟩
theorem fl_Se_76 : FL R_Se 76 5 4 := ⟨by decide, by decide, Or.inr ⟨"UnlikeCounts", ntw_mem 115 (by decide +kernel) rfl⟩⟩
theorem fl_Uc_123 : FL R_Uc 123 5 4 := ⟨by decide, by decide, Or.inr ⟨"UnlikeCounts", ntw_mem 116 (by decide +kernel) rfl⟩⟩
theorem fl_Mk_66 : FL R_Mk 66 5 4 := ⟨by decide, by decide, Or.inr ⟨"UnlikeCounts", ntw_mem 117 (by decide +kernel) rfl⟩⟩
theorem fl_Se_81 : FL R_Se 81 5 5 := ⟨by decide, by decide, Or.inr ⟨"UnlikeCounts", ntw_mem 119 (by decide +kernel) rfl⟩⟩
theorem fl_Uc_126 : FL R_Uc 126 5 5 := ⟨by decide, by decide, Or.inr ⟨"UnlikeCounts", ntw_mem 120 (by decide +kernel) rfl⟩⟩
theorem fl_Mk_70 : FL R_Mk 70 5 5 := ⟨by decide, by decide, Or.inr ⟨"UnlikeCounts", ntw_mem 121 (by decide +kernel) rfl⟩⟩
theorem fl_Se_66 : FL R_Se 66 5 6 := ⟨by decide, by decide, Or.inr ⟨"UnlikeCounts", ntw_mem 123 (by decide +kernel) rfl⟩⟩
theorem fl_Uc_222 : FL R_Uc 222 5 6 := ⟨by decide, by decide, Or.inr ⟨"UnlikeCounts", ntw_mem 124 (by decide +kernel) rfl⟩⟩
theorem fl_Uc_194 : FL R_Uc 194 2 2 := ⟨by decide, by decide, Or.inr ⟨"UnlikeCounts", ntw_mem 181 (by decide +kernel) rfl⟩⟩
theorem fl_Uc_197 : FL R_Uc 197 2 3 := ⟨by decide, by decide, Or.inr ⟨"UnlikeCounts", ntw_mem 183 (by decide +kernel) rfl⟩⟩
theorem fl_Uc_209 : FL R_Uc 209 3 10 := ⟨by decide, by decide, Or.inr ⟨"UnlikeCounts", ntw_mem 214 (by decide +kernel) rfl⟩⟩
theorem fl_Uc_212 : FL R_Uc 212 3 11 := ⟨by decide, by decide, Or.inr ⟨"UnlikeCounts", ntw_mem 216 (by decide +kernel) rfl⟩⟩
theorem fl_Uc_215 : FL R_Uc 215 3 12 := ⟨by decide, by decide, Or.inr ⟨"UnlikeCounts", ntw_mem 218 (by decide +kernel) rfl⟩⟩
theorem fl_Uc_228 : FL R_Uc 228 3 13 := ⟨by decide, by decide, Or.inr ⟨"UnlikeCounts", ntw_mem 220 (by decide +kernel) rfl⟩⟩
theorem fl_Uc_231 : FL R_Uc 231 3 14 := ⟨by decide, by decide, Or.inr ⟨"UnlikeCounts", ntw_mem 222 (by decide +kernel) rfl⟩⟩
theorem fl_Uc_234 : FL R_Uc 234 3 15 := ⟨by decide, by decide, Or.inr ⟨"UnlikeCounts", ntw_mem 224 (by decide +kernel) rfl⟩⟩
theorem fl_Uc_240 : FL R_Uc 240 3 16 := ⟨by decide, by decide, Or.inr ⟨"UnlikeCounts", ntw_mem 226 (by decide +kernel) rfl⟩⟩
theorem fl_Uc_244 : FL R_Uc 244 7 6 := ⟨by decide, by decide, Or.inr ⟨"UnlikeCounts", ntw_mem 275 (by decide +kernel) rfl⟩⟩
theorem fl_Uc_138 : FL R_Uc 138 0 3 := ⟨by decide, by decide, Or.inr ⟨"UnlikeCounts", ntw_mem 314 (by decide +kernel) rfl⟩⟩
theorem fl_Uc_270 : FL R_Uc 270 1 0 := ⟨by decide, by decide, Or.inr ⟨"UnlikeCounts", ntw_mem 334 (by decide +kernel) rfl⟩⟩
theorem fl_Uc_273 : FL R_Uc 273 1 1 := ⟨by decide, by decide, Or.inr ⟨"UnlikeCounts", ntw_mem 335 (by decide +kernel) rfl⟩⟩
theorem fl_Uc_101 : FL R_Uc 101 1 2 := ⟨by decide, by decide, Or.inr ⟨"UnlikeCounts", ntw_mem 336 (by decide +kernel) rfl⟩⟩
theorem lk_Lw_15 : LkV R_Lw 15 y_Uc_feed c_Uc_feed 4 (some .int) 8 2 := ⟨by decide, rfl, by decide, tw_mem 378 (by decide +kernel) rfl, tw_mem 379 (by decide +kernel) rfl, tw_mem 380 (by decide +kernel) rfl, tw_mem 61 (by decide +kernel) rfl, tw_mem 381 (by decide +kernel) rfl, by decide, by decide, by decide⟩
theorem lk_Uc_72 : LkV R_Uc 72 y_Te_length c_Te_length 1 (some .int) 4 0 := ⟨by decide, rfl, by decide, tw_mem 383 (by decide +kernel) rfl, tw_mem 384 (by decide +kernel) rfl, tw_mem 385 (by decide +kernel) rfl, tw_mem 63 (by decide +kernel) rfl, tw_mem 386 (by decide +kernel) rfl, by decide, by decide, by decide⟩
theorem lk_Uc_77 : LkV R_Uc 77 y_Te_append c_Te_append 5 none 4 2 := ⟨by decide, rfl, by decide, tw_mem 388 (by decide +kernel) rfl, tw_mem 389 (by decide +kernel) rfl, tw_mem 390 (by decide +kernel) rfl, tw_mem 63 (by decide +kernel) rfl, tw_mem 391 (by decide +kernel) rfl, by decide, by decide, by decide⟩
theorem lk_Lw_20 : LkV R_Lw 20 y_Uc_town c_Uc_town 1 (some .int) 8 0 := ⟨by decide, rfl, by decide, tw_mem 392 (by decide +kernel) rfl, tw_mem 393 (by decide +kernel) rfl, tw_mem 394 (by decide +kernel) rfl, tw_mem 61 (by decide +kernel) rfl, tw_mem 395 (by decide +kernel) rfl, by decide, by decide, by decide⟩
theorem lk_Uc_81 : LkV R_Uc 81 y_Te_read c_Te_read 2 none 4 0 := ⟨by decide, rfl, by decide, tw_mem 396 (by decide +kernel) rfl, tw_mem 397 (by decide +kernel) rfl, tw_mem 398 (by decide +kernel) rfl, tw_mem 63 (by decide +kernel) rfl, tw_mem 399 (by decide +kernel) rfl, by decide, by decide, by decide⟩
theorem lk_Te_39 : LkV R_Te 39 y_To_clear c_To_clear 2 none 5 0 := ⟨by decide, rfl, by decide, tw_mem 400 (by decide +kernel) rfl, tw_mem 401 (by decide +kernel) rfl, tw_mem 402 (by decide +kernel) rfl, tw_mem 62 (by decide +kernel) rfl, tw_mem 403 (by decide +kernel) rfl, by decide, by decide, by decide⟩
theorem lk_To_34 : LkV R_To 34 y_To_forget c_To_forget 2 none 5 1 := ⟨by decide, rfl, by decide, tw_mem 404 (by decide +kernel) rfl, tw_mem 406 (by decide +kernel) rfl, tw_mem 0 (by decide +kernel) rfl, tw_mem 62 (by decide +kernel) rfl, tw_mem 407 (by decide +kernel) rfl, by decide, by decide, by decide⟩
theorem lk_Te_42 : LkV R_Te 42 y_Te_skipBlanks c_Te_skipBlanks 1 none 4 0 := ⟨by decide, rfl, by decide, tw_mem 408 (by decide +kernel) rfl, tw_mem 410 (by decide +kernel) rfl, tw_mem 1 (by decide +kernel) rfl, tw_mem 63 (by decide +kernel) rfl, tw_mem 411 (by decide +kernel) rfl, by decide, by decide, by decide⟩
theorem lk_Te_45 : LkV R_Te 45 y_Te_readClause c_Te_readClause 4 none 4 0 := ⟨by decide, rfl, by decide, tw_mem 412 (by decide +kernel) rfl, tw_mem 414 (by decide +kernel) rfl, tw_mem 2 (by decide +kernel) rfl, tw_mem 63 (by decide +kernel) rfl, tw_mem 415 (by decide +kernel) rfl, by decide, by decide, by decide⟩
theorem lk_Te_48 : LkV R_Te 48 y_Te_readWord c_Te_readWord 2 (some .int) 4 0 := ⟨by decide, rfl, by decide, tw_mem 416 (by decide +kernel) rfl, tw_mem 418 (by decide +kernel) rfl, tw_mem 3 (by decide +kernel) rfl, tw_mem 63 (by decide +kernel) rfl, tw_mem 419 (by decide +kernel) rfl, by decide, by decide, by decide⟩
theorem lk_Te_110 : LkV R_Te 110 y_Te_stands c_Te_stands 4 (some .boolean) 4 2 := ⟨by decide, rfl, by decide, tw_mem 421 (by decide +kernel) rfl, tw_mem 423 (by decide +kernel) rfl, tw_mem 4 (by decide +kernel) rfl, tw_mem 63 (by decide +kernel) rfl, tw_mem 424 (by decide +kernel) rfl, by decide, by decide, by decide⟩
theorem lk_Sg_495 : LkS R_Sg 495 y_Sl_charAt c_Sl_charAt 2 (some .char) 2 := ⟨Or.inl (tw_mem 443 (by decide +kernel) rfl), by decide, tw_mem 444 (by decide +kernel) rfl, tw_mem 72 (by decide +kernel) rfl, tw_mem 445 (by decide +kernel) rfl, by decide, by decide, by decide⟩
theorem lk_Sl_9 : LkS R_Sl 9 y_Sg_checkIndex c_Sg_checkIndex 2 none 2 := ⟨Or.inl (tw_mem 446 (by decide +kernel) rfl), by decide, tw_mem 447 (by decide +kernel) rfl, tw_mem 71 (by decide +kernel) rfl, tw_mem 448 (by decide +kernel) rfl, by decide, by decide, by decide⟩
theorem lk_Sg_498 : LkS R_Sg 498 y_Su_charAt c_Su_charAt 2 (some .char) 2 := ⟨Or.inl (tw_mem 454 (by decide +kernel) rfl), by decide, tw_mem 455 (by decide +kernel) rfl, tw_mem 74 (by decide +kernel) rfl, tw_mem 456 (by decide +kernel) rfl, by decide, by decide, by decide⟩
theorem lk_Su_67 : LkS R_Su 67 y_Su_checkIndex c_Su_checkIndex 2 none 2 := ⟨Or.inl (tw_mem 457 (by decide +kernel) rfl), by decide, tw_mem 458 (by decide +kernel) rfl, tw_mem 74 (by decide +kernel) rfl, tw_mem 459 (by decide +kernel) rfl, by decide, by decide, by decide⟩
theorem lk_Su_48 : LkS R_Su 48 y_Su_length c_Su_length 1 (some .int) 1 := ⟨Or.inl (tw_mem 460 (by decide +kernel) rfl), by decide, tw_mem 461 (by decide +kernel) rfl, tw_mem 74 (by decide +kernel) rfl, tw_mem 462 (by decide +kernel) rfl, by decide, by decide, by decide⟩
theorem lk_Su_414 : LkS R_Su 414 y_Sg_checkIndex c_Sg_checkIndex 2 none 2 := ⟨Or.inl (tw_mem 463 (by decide +kernel) rfl), by decide, tw_mem 447 (by decide +kernel) rfl, tw_mem 71 (by decide +kernel) rfl, tw_mem 448 (by decide +kernel) rfl, by decide, by decide, by decide⟩
theorem lk_Su_71 : LkS R_Su 71 y_Su_getChar c_Su_getChar 2 (some .char) 2 := ⟨Or.inl (tw_mem 464 (by decide +kernel) rfl), by decide, tw_mem 465 (by decide +kernel) rfl, tw_mem 74 (by decide +kernel) rfl, tw_mem 466 (by decide +kernel) rfl, by decide, by decide, by decide⟩
theorem lk_Te_52 : LkV R_Te 52 y_Te_wordFault c_Te_wordFault 3 (some .int) 4 1 := ⟨by decide, rfl, by decide, tw_mem 477 (by decide +kernel) rfl, tw_mem 479 (by decide +kernel) rfl, tw_mem 5 (by decide +kernel) rfl, tw_mem 63 (by decide +kernel) rfl, tw_mem 480 (by decide +kernel) rfl, by decide, by decide, by decide⟩
theorem lk_Te_56 : LkV R_Te 56 y_Te_blame c_Te_blame 3 none 4 2 := ⟨by decide, rfl, by decide, tw_mem 481 (by decide +kernel) rfl, tw_mem 483 (by decide +kernel) rfl, tw_mem 6 (by decide +kernel) rfl, tw_mem 63 (by decide +kernel) rfl, tw_mem 484 (by decide +kernel) rfl, by decide, by decide, by decide⟩
theorem lk_Te_60 : LkV R_Te 60 y_Te_readPeople c_Te_readPeople 2 none 4 0 := ⟨by decide, rfl, by decide, tw_mem 485 (by decide +kernel) rfl, tw_mem 487 (by decide +kernel) rfl, tw_mem 7 (by decide +kernel) rfl, tw_mem 63 (by decide +kernel) rfl, tw_mem 488 (by decide +kernel) rfl, by decide, by decide, by decide⟩
theorem lk_Te_76 : LkV R_Te 76 y_Te_readNumber c_Te_readNumber 5 (some .int) 4 2 := ⟨by decide, rfl, by decide, tw_mem 489 (by decide +kernel) rfl, tw_mem 491 (by decide +kernel) rfl, tw_mem 8 (by decide +kernel) rfl, tw_mem 63 (by decide +kernel) rfl, tw_mem 492 (by decide +kernel) rfl, by decide, by decide, by decide⟩
theorem lk_Te_63 : LkV R_Te 63 y_Te_readCost c_Te_readCost 3 none 4 0 := ⟨by decide, rfl, by decide, tw_mem 493 (by decide +kernel) rfl, tw_mem 495 (by decide +kernel) rfl, tw_mem 9 (by decide +kernel) rfl, tw_mem 63 (by decide +kernel) rfl, tw_mem 496 (by decide +kernel) rfl, by decide, by decide, by decide⟩
theorem lk_Te_66 : LkV R_Te 66 y_Te_readTwo c_Te_readTwo 5 none 4 1 := ⟨by decide, rfl, by decide, tw_mem 497 (by decide +kernel) rfl, tw_mem 499 (by decide +kernel) rfl, tw_mem 10 (by decide +kernel) rfl, tw_mem 63 (by decide +kernel) rfl, tw_mem 500 (by decide +kernel) rfl, by decide, by decide, by decide⟩
theorem lk_Te_86 : LkV R_Te 86 y_To_hasTwo c_To_hasTwo 3 (some .boolean) 5 2 := ⟨by decide, rfl, by decide, tw_mem 501 (by decide +kernel) rfl, tw_mem 502 (by decide +kernel) rfl, tw_mem 503 (by decide +kernel) rfl, tw_mem 62 (by decide +kernel) rfl, tw_mem 504 (by decide +kernel) rfl, by decide, by decide, by decide⟩
theorem lk_To_38 : LkV R_To 38 y_To_has c_To_has 2 (some .boolean) 5 1 := ⟨by decide, rfl, by decide, tw_mem 505 (by decide +kernel) rfl, tw_mem 506 (by decide +kernel) rfl, tw_mem 507 (by decide +kernel) rfl, tw_mem 62 (by decide +kernel) rfl, tw_mem 508 (by decide +kernel) rfl, by decide, by decide, by decide⟩
theorem lk_Te_90 : LkV R_Te 90 y_To_areFriends c_To_areFriends 3 (some .boolean) 5 2 := ⟨by decide, rfl, by decide, tw_mem 509 (by decide +kernel) rfl, tw_mem 510 (by decide +kernel) rfl, tw_mem 511 (by decide +kernel) rfl, tw_mem 62 (by decide +kernel) rfl, tw_mem 512 (by decide +kernel) rfl, by decide, by decide, by decide⟩
theorem lk_Te_93 : LkV R_Te 93 y_To_barOf c_To_barOf 3 (some .int) 5 2 := ⟨by decide, rfl, by decide, tw_mem 513 (by decide +kernel) rfl, tw_mem 514 (by decide +kernel) rfl, tw_mem 515 (by decide +kernel) rfl, tw_mem 62 (by decide +kernel) rfl, tw_mem 516 (by decide +kernel) rfl, by decide, by decide, by decide⟩
theorem lk_Te_100 : LkV R_Te 100 y_To_mark c_To_mark 5 none 5 4 := ⟨by decide, rfl, by decide, tw_mem 517 (by decide +kernel) rfl, tw_mem 518 (by decide +kernel) rfl, tw_mem 519 (by decide +kernel) rfl, tw_mem 62 (by decide +kernel) rfl, tw_mem 520 (by decide +kernel) rfl, by decide, by decide, by decide⟩
theorem lk_Te_104 : LkV R_Te 104 y_To_setBar c_To_setBar 4 none 5 3 := ⟨by decide, rfl, by decide, tw_mem 521 (by decide +kernel) rfl, tw_mem 522 (by decide +kernel) rfl, tw_mem 523 (by decide +kernel) rfl, tw_mem 62 (by decide +kernel) rfl, tw_mem 524 (by decide +kernel) rfl, by decide, by decide, by decide⟩
theorem lk_To_66 : LkV R_To 66 y_To_mark c_To_mark 5 none 5 4 := ⟨by decide, rfl, by decide, tw_mem 525 (by decide +kernel) rfl, tw_mem 518 (by decide +kernel) rfl, tw_mem 519 (by decide +kernel) rfl, tw_mem 62 (by decide +kernel) rfl, tw_mem 520 (by decide +kernel) rfl, by decide, by decide, by decide⟩
theorem lk_Te_70 : LkV R_Te 70 y_Te_readEnd c_Te_readEnd 1 none 4 0 := ⟨by decide, rfl, by decide, tw_mem 526 (by decide +kernel) rfl, tw_mem 528 (by decide +kernel) rfl, tw_mem 11 (by decide +kernel) rfl, tw_mem 63 (by decide +kernel) rfl, tw_mem 529 (by decide +kernel) rfl, by decide, by decide, by decide⟩
theorem lk_Uc_84 : LkV R_Uc 84 y_Te_faultKind c_Te_faultKind 1 (some .int) 4 0 := ⟨by decide, rfl, by decide, tw_mem 530 (by decide +kernel) rfl, tw_mem 531 (by decide +kernel) rfl, tw_mem 532 (by decide +kernel) rfl, tw_mem 63 (by decide +kernel) rfl, tw_mem 533 (by decide +kernel) rfl, by decide, by decide, by decide⟩
theorem lk_Uc_87 : LkV R_Uc 87 y_Te_draftTown c_Te_draftTown 1 (some (.object "UnlikeCounts$Town")) 4 0 := ⟨by decide, rfl, by decide, tw_mem 534 (by decide +kernel) rfl, tw_mem 535 (by decide +kernel) rfl, tw_mem 536 (by decide +kernel) rfl, tw_mem 63 (by decide +kernel) rfl, tw_mem 537 (by decide +kernel) rfl, by decide, by decide, by decide⟩
theorem lk_Uc_91 : LkV R_Uc 91 y_To_copyFrom c_To_copyFrom 3 none 5 1 := ⟨by decide, rfl, by decide, tw_mem 538 (by decide +kernel) rfl, tw_mem 539 (by decide +kernel) rfl, tw_mem 540 (by decide +kernel) rfl, tw_mem 62 (by decide +kernel) rfl, tw_mem 541 (by decide +kernel) rfl, by decide, by decide, by decide⟩
theorem lk_Uc_95 : LkV R_Uc 95 y_To_sayCounts c_To_sayCounts 2 none 5 0 := ⟨by decide, rfl, by decide, tw_mem 542 (by decide +kernel) rfl, tw_mem 543 (by decide +kernel) rfl, tw_mem 544 (by decide +kernel) rfl, tw_mem 62 (by decide +kernel) rfl, tw_mem 545 (by decide +kernel) rfl, by decide, by decide, by decide⟩
theorem lk_To_48 : LkV R_To 48 y_To_countOf c_To_countOf 2 (some .int) 5 1 := ⟨by decide, rfl, by decide, tw_mem 546 (by decide +kernel) rfl, tw_mem 547 (by decide +kernel) rfl, tw_mem 548 (by decide +kernel) rfl, tw_mem 62 (by decide +kernel) rfl, tw_mem 549 (by decide +kernel) rfl, by decide, by decide, by decide⟩
theorem lk_To_42 : LkS R_To 42 y_In_bitCount c_In_bitCount 1 (some .int) 1 := ⟨Or.inl (tw_mem 550 (by decide +kernel) rfl), by decide, tw_mem 551 (by decide +kernel) rfl, tw_mem 75 (by decide +kernel) rfl, tw_mem 552 (by decide +kernel) rfl, by decide, by decide, by decide⟩
theorem lk_Uc_98 : LkV R_Uc 98 y_Bk_empty c_Bk_empty 1 none 0 0 := ⟨by decide, rfl, by decide, tw_mem 556 (by decide +kernel) rfl, tw_mem 557 (by decide +kernel) rfl, tw_mem 558 (by decide +kernel) rfl, tw_mem 68 (by decide +kernel) rfl, tw_mem 559 (by decide +kernel) rfl, by decide, by decide, by decide⟩
theorem lk_Lw_25 : LkV R_Lw 25 y_Uc_fault c_Uc_fault 1 (some .int) 8 0 := ⟨by decide, rfl, by decide, tw_mem 560 (by decide +kernel) rfl, tw_mem 561 (by decide +kernel) rfl, tw_mem 562 (by decide +kernel) rfl, tw_mem 61 (by decide +kernel) rfl, tw_mem 563 (by decide +kernel) rfl, by decide, by decide, by decide⟩
theorem lk_Uc_109 : LkV R_Uc 109 y_Te_faultPlace c_Te_faultPlace 1 (some .int) 4 0 := ⟨by decide, rfl, by decide, tw_mem 564 (by decide +kernel) rfl, tw_mem 565 (by decide +kernel) rfl, tw_mem 566 (by decide +kernel) rfl, tw_mem 63 (by decide +kernel) rfl, tw_mem 567 (by decide +kernel) rfl, by decide, by decide, by decide⟩
theorem lk_Lw_29 : LkV R_Lw 29 y_Uc_told c_Uc_told 2 (some .int) 8 1 := ⟨by decide, rfl, by decide, tw_mem 568 (by decide +kernel) rfl, tw_mem 569 (by decide +kernel) rfl, tw_mem 570 (by decide +kernel) rfl, tw_mem 61 (by decide +kernel) rfl, tw_mem 571 (by decide +kernel) rfl, by decide, by decide, by decide⟩
theorem lk_Uc_112 : LkV R_Uc 112 y_To_friendships c_To_friendships 3 (some .int) 5 0 := ⟨by decide, rfl, by decide, tw_mem 572 (by decide +kernel) rfl, tw_mem 573 (by decide +kernel) rfl, tw_mem 574 (by decide +kernel) rfl, tw_mem 62 (by decide +kernel) rfl, tw_mem 575 (by decide +kernel) rfl, by decide, by decide, by decide⟩
theorem lk_Uc_119 : LkV R_Uc 119 y_To_asNumber c_To_asNumber 6 (some .int) 5 1 := ⟨by decide, rfl, by decide, tw_mem 576 (by decide +kernel) rfl, tw_mem 577 (by decide +kernel) rfl, tw_mem 578 (by decide +kernel) rfl, tw_mem 62 (by decide +kernel) rfl, tw_mem 579 (by decide +kernel) rfl, by decide, by decide, by decide⟩
theorem lk_Uc_135 : LkV R_Uc 135 y_To_alikePairs c_To_alikePairs 3 (some .int) 5 0 := ⟨by decide, rfl, by decide, tw_mem 580 (by decide +kernel) rfl, tw_mem 581 (by decide +kernel) rfl, tw_mem 582 (by decide +kernel) rfl, tw_mem 62 (by decide +kernel) rfl, tw_mem 583 (by decide +kernel) rfl, by decide, by decide, by decide⟩
theorem lk_To_63 : LkV R_To 63 y_To_alikeWith c_To_alikeWith 4 (some .int) 5 1 := ⟨by decide, rfl, by decide, tw_mem 584 (by decide +kernel) rfl, tw_mem 585 (by decide +kernel) rfl, tw_mem 586 (by decide +kernel) rfl, tw_mem 62 (by decide +kernel) rfl, tw_mem 587 (by decide +kernel) rfl, by decide, by decide, by decide⟩
theorem lk_Lw_34 : LkV R_Lw 34 y_Uc_count c_Uc_count 2 (some .int) 8 1 := ⟨by decide, rfl, by decide, tw_mem 588 (by decide +kernel) rfl, tw_mem 589 (by decide +kernel) rfl, tw_mem 590 (by decide +kernel) rfl, tw_mem 61 (by decide +kernel) rfl, tw_mem 591 (by decide +kernel) rfl, by decide, by decide, by decide⟩
theorem lk_Uc_141 : LkV R_Uc 141 y_To_has c_To_has 2 (some .boolean) 5 1 := ⟨by decide, rfl, by decide, tw_mem 592 (by decide +kernel) rfl, tw_mem 506 (by decide +kernel) rfl, tw_mem 507 (by decide +kernel) rfl, tw_mem 62 (by decide +kernel) rfl, tw_mem 508 (by decide +kernel) rfl, by decide, by decide, by decide⟩
theorem lk_Uc_145 : LkV R_Uc 145 y_To_countOf c_To_countOf 2 (some .int) 5 1 := ⟨by decide, rfl, by decide, tw_mem 593 (by decide +kernel) rfl, tw_mem 547 (by decide +kernel) rfl, tw_mem 548 (by decide +kernel) rfl, tw_mem 62 (by decide +kernel) rfl, tw_mem 549 (by decide +kernel) rfl, by decide, by decide, by decide⟩
theorem lk_Lw_38 : LkV R_Lw 38 y_Uc_friends c_Uc_friends 2 (some .int) 8 1 := ⟨by decide, rfl, by decide, tw_mem 595 (by decide +kernel) rfl, tw_mem 596 (by decide +kernel) rfl, tw_mem 597 (by decide +kernel) rfl, tw_mem 61 (by decide +kernel) rfl, tw_mem 598 (by decide +kernel) rfl, by decide, by decide, by decide⟩
theorem lk_Lw_42 : LkV R_Lw 42 y_Uc_alike c_Uc_alike 2 (some .int) 8 1 := ⟨by decide, rfl, by decide, tw_mem 599 (by decide +kernel) rfl, tw_mem 600 (by decide +kernel) rfl, tw_mem 601 (by decide +kernel) rfl, tw_mem 61 (by decide +kernel) rfl, tw_mem 602 (by decide +kernel) rfl, by decide, by decide, by decide⟩
theorem lk_Uc_150 : LkV R_Uc 150 y_To_alikeWith c_To_alikeWith 4 (some .int) 5 1 := ⟨by decide, rfl, by decide, tw_mem 603 (by decide +kernel) rfl, tw_mem 585 (by decide +kernel) rfl, tw_mem 586 (by decide +kernel) rfl, tw_mem 62 (by decide +kernel) rfl, tw_mem 587 (by decide +kernel) rfl, by decide, by decide, by decide⟩
theorem lk_Lw_46 : LkV R_Lw 46 y_Uc_pair c_Uc_pair 3 (some .int) 8 2 := ⟨by decide, rfl, by decide, tw_mem 604 (by decide +kernel) rfl, tw_mem 605 (by decide +kernel) rfl, tw_mem 606 (by decide +kernel) rfl, tw_mem 61 (by decide +kernel) rfl, tw_mem 607 (by decide +kernel) rfl, by decide, by decide, by decide⟩
theorem lk_Uc_153 : LkV R_Uc 153 y_To_hasTwo c_To_hasTwo 3 (some .boolean) 5 2 := ⟨by decide, rfl, by decide, tw_mem 608 (by decide +kernel) rfl, tw_mem 502 (by decide +kernel) rfl, tw_mem 503 (by decide +kernel) rfl, tw_mem 62 (by decide +kernel) rfl, tw_mem 504 (by decide +kernel) rfl, by decide, by decide, by decide⟩
theorem lk_Uc_157 : LkV R_Uc 157 y_To_pairNumber c_To_pairNumber 5 (some .int) 5 2 := ⟨by decide, rfl, by decide, tw_mem 609 (by decide +kernel) rfl, tw_mem 610 (by decide +kernel) rfl, tw_mem 611 (by decide +kernel) rfl, tw_mem 62 (by decide +kernel) rfl, tw_mem 612 (by decide +kernel) rfl, by decide, by decide, by decide⟩
theorem lk_To_51 : LkS R_To 51 y_Ma_min_II c_Ma_min_II 2 (some .int) 2 := ⟨Or.inl (tw_mem 613 (by decide +kernel) rfl), by decide, tw_mem 614 (by decide +kernel) rfl, tw_mem 76 (by decide +kernel) rfl, tw_mem 615 (by decide +kernel) rfl, by decide, by decide, by decide⟩
theorem lk_To_57 : LkS R_To 57 y_Ma_max c_Ma_max 2 (some .int) 2 := ⟨Or.inl (tw_mem 616 (by decide +kernel) rfl), by decide, tw_mem 617 (by decide +kernel) rfl, tw_mem 76 (by decide +kernel) rfl, tw_mem 618 (by decide +kernel) rfl, by decide, by decide, by decide⟩
theorem lk_Lw_51 : LkV R_Lw 51 y_Uc_tie c_Uc_tie 5 (some .int) 8 3 := ⟨by decide, rfl, by decide, tw_mem 619 (by decide +kernel) rfl, tw_mem 620 (by decide +kernel) rfl, tw_mem 621 (by decide +kernel) rfl, tw_mem 61 (by decide +kernel) rfl, tw_mem 622 (by decide +kernel) rfl, by decide, by decide, by decide⟩
theorem lk_Uc_161 : LkV R_Uc 161 y_To_allows c_To_allows 4 (some .boolean) 5 3 := ⟨by decide, rfl, by decide, tw_mem 623 (by decide +kernel) rfl, tw_mem 624 (by decide +kernel) rfl, tw_mem 625 (by decide +kernel) rfl, tw_mem 62 (by decide +kernel) rfl, tw_mem 626 (by decide +kernel) rfl, by decide, by decide, by decide⟩
theorem lk_To_70 : LkV R_To 70 y_To_barOf c_To_barOf 3 (some .int) 5 2 := ⟨by decide, rfl, by decide, tw_mem 627 (by decide +kernel) rfl, tw_mem 514 (by decide +kernel) rfl, tw_mem 515 (by decide +kernel) rfl, tw_mem 62 (by decide +kernel) rfl, tw_mem 516 (by decide +kernel) rfl, by decide, by decide, by decide⟩
theorem lk_Uc_166 : LkV R_Uc 166 y_To_areFriends c_To_areFriends 3 (some .boolean) 5 2 := ⟨by decide, rfl, by decide, tw_mem 629 (by decide +kernel) rfl, tw_mem 510 (by decide +kernel) rfl, tw_mem 511 (by decide +kernel) rfl, tw_mem 62 (by decide +kernel) rfl, tw_mem 512 (by decide +kernel) rfl, by decide, by decide, by decide⟩
theorem lk_Uc_169 : LkV R_Uc 169 y_To_mark c_To_mark 5 none 5 4 := ⟨by decide, rfl, by decide, tw_mem 630 (by decide +kernel) rfl, tw_mem 518 (by decide +kernel) rfl, tw_mem 519 (by decide +kernel) rfl, tw_mem 62 (by decide +kernel) rfl, tw_mem 520 (by decide +kernel) rfl, by decide, by decide, by decide⟩
theorem lk_Lw_56 : LkV R_Lw 56 y_Uc_bar c_Uc_bar 5 (some .int) 8 3 := ⟨by decide, rfl, by decide, tw_mem 631 (by decide +kernel) rfl, tw_mem 632 (by decide +kernel) rfl, tw_mem 633 (by decide +kernel) rfl, tw_mem 61 (by decide +kernel) rfl, tw_mem 634 (by decide +kernel) rfl, by decide, by decide, by decide⟩
theorem lk_Uc_173 : LkV R_Uc 173 y_To_barOf c_To_barOf 3 (some .int) 5 2 := ⟨by decide, rfl, by decide, tw_mem 635 (by decide +kernel) rfl, tw_mem 514 (by decide +kernel) rfl, tw_mem 515 (by decide +kernel) rfl, tw_mem 62 (by decide +kernel) rfl, tw_mem 516 (by decide +kernel) rfl, by decide, by decide, by decide⟩
theorem lk_Uc_176 : LkV R_Uc 176 y_To_setBar c_To_setBar 4 none 5 3 := ⟨by decide, rfl, by decide, tw_mem 636 (by decide +kernel) rfl, tw_mem 522 (by decide +kernel) rfl, tw_mem 523 (by decide +kernel) rfl, tw_mem 62 (by decide +kernel) rfl, tw_mem 524 (by decide +kernel) rfl, by decide, by decide, by decide⟩
theorem lk_Lw_61 : LkV R_Lw 61 y_Uc_birth c_Uc_birth 1 (some .int) 8 0 := ⟨by decide, rfl, by decide, tw_mem 637 (by decide +kernel) rfl, tw_mem 638 (by decide +kernel) rfl, tw_mem 639 (by decide +kernel) rfl, tw_mem 61 (by decide +kernel) rfl, tw_mem 640 (by decide +kernel) rfl, by decide, by decide, by decide⟩
theorem lk_Uc_180 : LkV R_Uc 180 y_To_addPerson c_To_addPerson 1 none 5 0 := ⟨by decide, rfl, by decide, tw_mem 641 (by decide +kernel) rfl, tw_mem 642 (by decide +kernel) rfl, tw_mem 643 (by decide +kernel) rfl, tw_mem 62 (by decide +kernel) rfl, tw_mem 644 (by decide +kernel) rfl, by decide, by decide, by decide⟩
theorem lk_To_73 : LkV R_To 73 y_To_sayCounts c_To_sayCounts 2 none 5 0 := ⟨by decide, rfl, by decide, tw_mem 645 (by decide +kernel) rfl, tw_mem 543 (by decide +kernel) rfl, tw_mem 544 (by decide +kernel) rfl, tw_mem 62 (by decide +kernel) rfl, tw_mem 545 (by decide +kernel) rfl, by decide, by decide, by decide⟩
theorem lk_Lw_65 : LkV R_Lw 65 y_Uc_death c_Uc_death 2 (some .int) 8 1 := ⟨by decide, rfl, by decide, tw_mem 646 (by decide +kernel) rfl, tw_mem 647 (by decide +kernel) rfl, tw_mem 648 (by decide +kernel) rfl, tw_mem 61 (by decide +kernel) rfl, tw_mem 649 (by decide +kernel) rfl, by decide, by decide, by decide⟩
theorem lk_Uc_183 : LkV R_Uc 183 y_To_removePerson c_To_removePerson 2 none 5 1 := ⟨by decide, rfl, by decide, tw_mem 650 (by decide +kernel) rfl, tw_mem 651 (by decide +kernel) rfl, tw_mem 652 (by decide +kernel) rfl, tw_mem 62 (by decide +kernel) rfl, tw_mem 653 (by decide +kernel) rfl, by decide, by decide, by decide⟩
theorem lk_To_76 : LkV R_To 76 y_To_closeGap c_To_closeGap 5 none 5 2 := ⟨by decide, rfl, by decide, tw_mem 654 (by decide +kernel) rfl, tw_mem 656 (by decide +kernel) rfl, tw_mem 12 (by decide +kernel) rfl, tw_mem 62 (by decide +kernel) rfl, tw_mem 657 (by decide +kernel) rfl, by decide, by decide, by decide⟩
theorem lk_Lw_69 : LkV R_Lw 69 y_Uc_made c_Uc_made 5 (some .int) 8 4 := ⟨by decide, rfl, by decide, tw_mem 658 (by decide +kernel) rfl, tw_mem 659 (by decide +kernel) rfl, tw_mem 660 (by decide +kernel) rfl, tw_mem 61 (by decide +kernel) rfl, tw_mem 661 (by decide +kernel) rfl, by decide, by decide, by decide⟩
theorem lk_Uc_187 : LkS R_Uc 187 y_Uc_placesTied c_Uc_placesTied 4 (some .boolean) 4 := ⟨Or.inl (tw_mem 662 (by decide +kernel) rfl), by decide, tw_mem 663 (by decide +kernel) rfl, tw_mem 61 (by decide +kernel) rfl, tw_mem 664 (by decide +kernel) rfl, by decide, by decide, by decide⟩
theorem lk_Lw_74 : LkV R_Lw 74 y_Uc_good c_Uc_good 2 (some .int) 8 1 := ⟨by decide, rfl, by decide, tw_mem 665 (by decide +kernel) rfl, tw_mem 666 (by decide +kernel) rfl, tw_mem 667 (by decide +kernel) rfl, tw_mem 61 (by decide +kernel) rfl, tw_mem 668 (by decide +kernel) rfl, by decide, by decide, by decide⟩
theorem lk_Uc_191 : LkV R_Uc 191 y_Mk_solve c_Mk_solve 8 none 2 1 := ⟨by decide, rfl, by decide, tw_mem 669 (by decide +kernel) rfl, tw_mem 670 (by decide +kernel) rfl, tw_mem 671 (by decide +kernel) rfl, tw_mem 64 (by decide +kernel) rfl, tw_mem 672 (by decide +kernel) rfl, by decide, by decide, by decide⟩
theorem lk_Mk_22 : LkV R_Mk 22 y_Mk_leastByWay c_Mk_leastByWay 11 (some .long) 2 2 := ⟨by decide, rfl, by decide, tw_mem 673 (by decide +kernel) rfl, tw_mem 675 (by decide +kernel) rfl, tw_mem 13 (by decide +kernel) rfl, tw_mem 64 (by decide +kernel) rfl, tw_mem 676 (by decide +kernel) rfl, by decide, by decide, by decide⟩
theorem lk_Mk_51 : LkS R_Mk 51 y_In_bitCount c_In_bitCount 1 (some .int) 1 := ⟨Or.inl (tw_mem 677 (by decide +kernel) rfl), by decide, tw_mem 551 (by decide +kernel) rfl, tw_mem 75 (by decide +kernel) rfl, tw_mem 552 (by decide +kernel) rfl, by decide, by decide, by decide⟩
theorem lk_Mk_56 : LkV R_Mk 56 y_Mk_withNext c_Mk_withNext 9 (some .long) 2 5 := ⟨by decide, rfl, by decide, tw_mem 679 (by decide +kernel) rfl, tw_mem 681 (by decide +kernel) rfl, tw_mem 14 (by decide +kernel) rfl, tw_mem 64 (by decide +kernel) rfl, tw_mem 682 (by decide +kernel) rfl, by decide, by decide, by decide⟩
theorem lk_Mk_40 : LkS R_Mk 40 y_Mk_shiftOf c_Mk_shiftOf 1 (some .int) 1 := ⟨Or.inl (tw_mem 683 (by decide +kernel) rfl), by decide, tw_mem 684 (by decide +kernel) rfl, tw_mem 64 (by decide +kernel) rfl, tw_mem 685 (by decide +kernel) rfl, by decide, by decide, by decide⟩
theorem lk_Mk_60 : LkS R_Mk 60 y_Ma_min_JJ c_Ma_min_JJ 4 (some .long) 2 := ⟨Or.inl (tw_mem 686 (by decide +kernel) rfl), by decide, tw_mem 687 (by decide +kernel) rfl, tw_mem 76 (by decide +kernel) rfl, tw_mem 688 (by decide +kernel) rfl, by decide, by decide, by decide⟩
theorem lk_Uc_200 : LkV R_Uc 200 y_Mk_townMade c_Mk_townMade 5 (some .int) 2 0 := ⟨by decide, rfl, by decide, tw_mem 690 (by decide +kernel) rfl, tw_mem 691 (by decide +kernel) rfl, tw_mem 692 (by decide +kernel) rfl, tw_mem 64 (by decide +kernel) rfl, tw_mem 693 (by decide +kernel) rfl, by decide, by decide, by decide⟩
theorem lk_Mk_44 : LkV R_Mk 44 y_Mk_placeOf c_Mk_placeOf 2 (some .int) 2 1 := ⟨by decide, rfl, by decide, tw_mem 694 (by decide +kernel) rfl, tw_mem 695 (by decide +kernel) rfl, tw_mem 696 (by decide +kernel) rfl, tw_mem 64 (by decide +kernel) rfl, tw_mem 697 (by decide +kernel) rfl, by decide, by decide, by decide⟩
theorem lk_Uc_203 : LkV R_Uc 203 y_Mk_placeOf c_Mk_placeOf 2 (some .int) 2 1 := ⟨by decide, rfl, by decide, tw_mem 699 (by decide +kernel) rfl, tw_mem 695 (by decide +kernel) rfl, tw_mem 696 (by decide +kernel) rfl, tw_mem 64 (by decide +kernel) rfl, tw_mem 697 (by decide +kernel) rfl, by decide, by decide, by decide⟩
theorem lk_Lw_78 : LkV R_Lw 78 y_Uc_born c_Uc_born 1 (some .int) 8 0 := ⟨by decide, rfl, by decide, tw_mem 700 (by decide +kernel) rfl, tw_mem 701 (by decide +kernel) rfl, tw_mem 702 (by decide +kernel) rfl, tw_mem 61 (by decide +kernel) rfl, tw_mem 703 (by decide +kernel) rfl, by decide, by decide, by decide⟩
theorem lk_Lw_82 : LkV R_Lw 82 y_Uc_dies c_Uc_dies 2 (some .int) 8 1 := ⟨by decide, rfl, by decide, tw_mem 704 (by decide +kernel) rfl, tw_mem 705 (by decide +kernel) rfl, tw_mem 706 (by decide +kernel) rfl, tw_mem 61 (by decide +kernel) rfl, tw_mem 707 (by decide +kernel) rfl, by decide, by decide, by decide⟩
theorem lk_Lw_86 : LkV R_Lw 86 y_Uc_nearest c_Uc_nearest 2 (some .int) 8 1 := ⟨by decide, rfl, by decide, tw_mem 708 (by decide +kernel) rfl, tw_mem 709 (by decide +kernel) rfl, tw_mem 710 (by decide +kernel) rfl, tw_mem 61 (by decide +kernel) rfl, tw_mem 711 (by decide +kernel) rfl, by decide, by decide, by decide⟩
theorem lk_Uc_206 : LkV R_Uc 206 y_Se_findNearest c_Se_findNearest 2 none 3 1 := ⟨by decide, rfl, by decide, tw_mem 712 (by decide +kernel) rfl, tw_mem 713 (by decide +kernel) rfl, tw_mem 714 (by decide +kernel) rfl, tw_mem 65 (by decide +kernel) rfl, tw_mem 715 (by decide +kernel) rfl, by decide, by decide, by decide⟩
theorem lk_Se_21 : LkV R_Se 21 y_Se_begin c_Se_begin 3 none 3 1 := ⟨by decide, rfl, by decide, tw_mem 716 (by decide +kernel) rfl, tw_mem 718 (by decide +kernel) rfl, tw_mem 15 (by decide +kernel) rfl, tw_mem 65 (by decide +kernel) rfl, tw_mem 719 (by decide +kernel) rfl, by decide, by decide, by decide⟩
theorem lk_Se_51 : LkS R_Se 51 y_Ma_min_II c_Ma_min_II 2 (some .int) 2 := ⟨Or.inl (tw_mem 720 (by decide +kernel) rfl), by decide, tw_mem 614 (by decide +kernel) rfl, tw_mem 76 (by decide +kernel) rfl, tw_mem 615 (by decide +kernel) rfl, by decide, by decide, by decide⟩
theorem lk_Se_70 : LkV R_Se 70 y_To_asNumber c_To_asNumber 6 (some .int) 5 1 := ⟨by decide, rfl, by decide, tw_mem 721 (by decide +kernel) rfl, tw_mem 577 (by decide +kernel) rfl, tw_mem 578 (by decide +kernel) rfl, tw_mem 62 (by decide +kernel) rfl, tw_mem 579 (by decide +kernel) rfl, by decide, by decide, by decide⟩
theorem lk_Se_101 : LkV R_Se 101 y_Se_layOutPairs c_Se_layOutPairs 4 none 3 0 := ⟨by decide, rfl, by decide, tw_mem 723 (by decide +kernel) rfl, tw_mem 725 (by decide +kernel) rfl, tw_mem 16 (by decide +kernel) rfl, tw_mem 65 (by decide +kernel) rfl, tw_mem 726 (by decide +kernel) rfl, by decide, by decide, by decide⟩
theorem lk_Se_25 : LkS R_Se 25 y_Se_nearestFrom c_Se_nearestFrom 8 none 4 := ⟨Or.inl (tw_mem 727 (by decide +kernel) rfl), by decide, tw_mem 728 (by decide +kernel) rfl, tw_mem 65 (by decide +kernel) rfl, tw_mem 729 (by decide +kernel) rfl, by decide, by decide, by decide⟩
theorem lk_Se_104 : LkV R_Se 104 y_Se_take c_Se_take 5 none 3 2 := ⟨by decide, rfl, by decide, tw_mem 730 (by decide +kernel) rfl, tw_mem 732 (by decide +kernel) rfl, tw_mem 17 (by decide +kernel) rfl, tw_mem 65 (by decide +kernel) rfl, tw_mem 733 (by decide +kernel) rfl, by decide, by decide, by decide⟩
theorem lk_Se_126 : LkV R_Se 126 y_Se_priceTo c_Se_priceTo 4 (some .int) 3 2 := ⟨by decide, rfl, by decide, tw_mem 734 (by decide +kernel) rfl, tw_mem 736 (by decide +kernel) rfl, tw_mem 18 (by decide +kernel) rfl, tw_mem 65 (by decide +kernel) rfl, tw_mem 737 (by decide +kernel) rfl, by decide, by decide, by decide⟩
theorem lk_Se_140 : LkV R_Se 140 y_Se_settled c_Se_settled 2 (some .int) 3 1 := ⟨by decide, rfl, by decide, tw_mem 738 (by decide +kernel) rfl, tw_mem 740 (by decide +kernel) rfl, tw_mem 19 (by decide +kernel) rfl, tw_mem 65 (by decide +kernel) rfl, tw_mem 741 (by decide +kernel) rfl, by decide, by decide, by decide⟩
theorem lk_Se_132 : LkS R_Se 132 y_In_bitCount c_In_bitCount 1 (some .int) 1 := ⟨Or.inl (tw_mem 742 (by decide +kernel) rfl), by decide, tw_mem 551 (by decide +kernel) rfl, tw_mem 75 (by decide +kernel) rfl, tw_mem 552 (by decide +kernel) rfl, by decide, by decide, by decide⟩
theorem lk_Se_108 : LkV R_Se 108 y_Se_rowsOf c_Se_rowsOf 2 (some .int) 3 1 := ⟨by decide, rfl, by decide, tw_mem 743 (by decide +kernel) rfl, tw_mem 745 (by decide +kernel) rfl, tw_mem 20 (by decide +kernel) rfl, tw_mem 65 (by decide +kernel) rfl, tw_mem 746 (by decide +kernel) rfl, by decide, by decide, by decide⟩
theorem lk_Se_112 : LkV R_Se 112 y_Se_keepsBars c_Se_keepsBars 3 (some .boolean) 3 2 := ⟨by decide, rfl, by decide, tw_mem 747 (by decide +kernel) rfl, tw_mem 749 (by decide +kernel) rfl, tw_mem 21 (by decide +kernel) rfl, tw_mem 65 (by decide +kernel) rfl, tw_mem 750 (by decide +kernel) rfl, by decide, by decide, by decide⟩
theorem lk_Se_116 : LkV R_Se 116 y_Se_alikeBelow c_Se_alikeBelow 5 (some .int) 3 2 := ⟨by decide, rfl, by decide, tw_mem 751 (by decide +kernel) rfl, tw_mem 753 (by decide +kernel) rfl, tw_mem 22 (by decide +kernel) rfl, tw_mem 65 (by decide +kernel) rfl, tw_mem 754 (by decide +kernel) rfl, by decide, by decide, by decide⟩
theorem lk_Se_123 : LkV R_Se 123 y_Se_countIn c_Se_countIn 3 (some .int) 3 2 := ⟨by decide, rfl, by decide, tw_mem 755 (by decide +kernel) rfl, tw_mem 757 (by decide +kernel) rfl, tw_mem 23 (by decide +kernel) rfl, tw_mem 65 (by decide +kernel) rfl, tw_mem 758 (by decide +kernel) rfl, by decide, by decide, by decide⟩
theorem lk_Se_119 : LkV R_Se 119 y_Se_canWin c_Se_canWin 5 (some .boolean) 3 3 := ⟨by decide, rfl, by decide, tw_mem 759 (by decide +kernel) rfl, tw_mem 761 (by decide +kernel) rfl, tw_mem 24 (by decide +kernel) rfl, tw_mem 65 (by decide +kernel) rfl, tw_mem 762 (by decide +kernel) rfl, by decide, by decide, by decide⟩
theorem lk_Se_137 : LkS R_Se 137 y_Ma_max c_Ma_max 2 (some .int) 2 := ⟨Or.inl (tw_mem 763 (by decide +kernel) rfl), by decide, tw_mem 617 (by decide +kernel) rfl, tw_mem 76 (by decide +kernel) rfl, tw_mem 618 (by decide +kernel) rfl, by decide, by decide, by decide⟩
theorem lk_Lw_90 : LkV R_Lw 90 y_Uc_even c_Uc_even 3 (some .int) 8 2 := ⟨by decide, rfl, by decide, tw_mem 764 (by decide +kernel) rfl, tw_mem 765 (by decide +kernel) rfl, tw_mem 766 (by decide +kernel) rfl, tw_mem 61 (by decide +kernel) rfl, tw_mem 767 (by decide +kernel) rfl, by decide, by decide, by decide⟩
theorem lk_Uc_218 : LkV R_Uc 218 y_Se_findEven c_Se_findEven 3 none 3 2 := ⟨by decide, rfl, by decide, tw_mem 768 (by decide +kernel) rfl, tw_mem 769 (by decide +kernel) rfl, tw_mem 770 (by decide +kernel) rfl, tw_mem 65 (by decide +kernel) rfl, tw_mem 771 (by decide +kernel) rfl, by decide, by decide, by decide⟩
theorem lk_Se_29 : LkS R_Se 29 y_Se_evenFrom c_Se_evenFrom 7 none 4 := ⟨Or.inl (tw_mem 772 (by decide +kernel) rfl), by decide, tw_mem 773 (by decide +kernel) rfl, tw_mem 65 (by decide +kernel) rfl, tw_mem 774 (by decide +kernel) rfl, by decide, by decide, by decide⟩
theorem lk_Lw_94 : LkV R_Lw 94 y_Uc_tell c_Uc_tell 4 (some .int) 8 2 := ⟨by decide, rfl, by decide, tw_mem 775 (by decide +kernel) rfl, tw_mem 776 (by decide +kernel) rfl, tw_mem 777 (by decide +kernel) rfl, tw_mem 61 (by decide +kernel) rfl, tw_mem 778 (by decide +kernel) rfl, by decide, by decide, by decide⟩
theorem lk_Lw_98 : LkV R_Lw 98 y_Uc_canBe c_Uc_canBe 1 (some .int) 8 0 := ⟨by decide, rfl, by decide, tw_mem 779 (by decide +kernel) rfl, tw_mem 780 (by decide +kernel) rfl, tw_mem 781 (by decide +kernel) rfl, tw_mem 61 (by decide +kernel) rfl, tw_mem 782 (by decide +kernel) rfl, by decide, by decide, by decide⟩
theorem lk_Uc_225 : LkV R_Uc 225 y_Se_findTold c_Se_findTold 3 none 3 2 := ⟨by decide, rfl, by decide, tw_mem 783 (by decide +kernel) rfl, tw_mem 784 (by decide +kernel) rfl, tw_mem 785 (by decide +kernel) rfl, tw_mem 65 (by decide +kernel) rfl, tw_mem 786 (by decide +kernel) rfl, by decide, by decide, by decide⟩
theorem lk_Se_43 : LkS R_Se 43 y_Se_toldFrom c_Se_toldFrom 8 none 4 := ⟨Or.inl (tw_mem 787 (by decide +kernel) rfl), by decide, tw_mem 788 (by decide +kernel) rfl, tw_mem 65 (by decide +kernel) rfl, tw_mem 789 (by decide +kernel) rfl, by decide, by decide, by decide⟩
theorem lk_Se_129 : LkV R_Se 129 y_Se_noteTold c_Se_noteTold 3 none 3 2 := ⟨by decide, rfl, by decide, tw_mem 790 (by decide +kernel) rfl, tw_mem 792 (by decide +kernel) rfl, tw_mem 25 (by decide +kernel) rfl, tw_mem 65 (by decide +kernel) rfl, tw_mem 793 (by decide +kernel) rfl, by decide, by decide, by decide⟩
theorem lk_Lw_102 : LkV R_Lw 102 y_Uc_sure c_Uc_sure 3 (some .int) 8 2 := ⟨by decide, rfl, by decide, tw_mem 794 (by decide +kernel) rfl, tw_mem 795 (by decide +kernel) rfl, tw_mem 796 (by decide +kernel) rfl, tw_mem 61 (by decide +kernel) rfl, tw_mem 797 (by decide +kernel) rfl, by decide, by decide, by decide⟩
theorem lk_Uc_237 : LkV R_Uc 237 y_To_friendsIn c_To_friendsIn 5 (some .int) 5 2 := ⟨by decide, rfl, by decide, tw_mem 798 (by decide +kernel) rfl, tw_mem 799 (by decide +kernel) rfl, tw_mem 800 (by decide +kernel) rfl, tw_mem 62 (by decide +kernel) rfl, tw_mem 801 (by decide +kernel) rfl, by decide, by decide, by decide⟩
theorem lk_To_60 : LkV R_To 60 y_To_pairNumber c_To_pairNumber 5 (some .int) 5 2 := ⟨by decide, rfl, by decide, tw_mem 802 (by decide +kernel) rfl, tw_mem 610 (by decide +kernel) rfl, tw_mem 611 (by decide +kernel) rfl, tw_mem 62 (by decide +kernel) rfl, tw_mem 612 (by decide +kernel) rfl, by decide, by decide, by decide⟩
theorem lk_Lw_106 : LkV R_Lw 106 y_Uc_liar c_Uc_liar 1 (some .int) 8 0 := ⟨by decide, rfl, by decide, tw_mem 803 (by decide +kernel) rfl, tw_mem 804 (by decide +kernel) rfl, tw_mem 805 (by decide +kernel) rfl, tw_mem 61 (by decide +kernel) rfl, tw_mem 806 (by decide +kernel) rfl, by decide, by decide, by decide⟩
theorem lk_Lw_110 : LkV R_Lw 110 y_Uc_weight c_Uc_weight 3 (some .int) 8 2 := ⟨by decide, rfl, by decide, tw_mem 807 (by decide +kernel) rfl, tw_mem 808 (by decide +kernel) rfl, tw_mem 809 (by decide +kernel) rfl, tw_mem 61 (by decide +kernel) rfl, tw_mem 810 (by decide +kernel) rfl, by decide, by decide, by decide⟩
theorem lk_Uc_243 : LkV R_Uc 243 y_We_solve c_We_solve 4 none 7 1 := ⟨by decide, rfl, by decide, tw_mem 811 (by decide +kernel) rfl, tw_mem 812 (by decide +kernel) rfl, tw_mem 813 (by decide +kernel) rfl, tw_mem 66 (by decide +kernel) rfl, tw_mem 814 (by decide +kernel) rfl, by decide, by decide, by decide⟩
theorem lk_We_27 : LkV R_We 27 y_We_listFriendships c_We_listFriendships 5 none 7 1 := ⟨by decide, rfl, by decide, tw_mem 815 (by decide +kernel) rfl, tw_mem 817 (by decide +kernel) rfl, tw_mem 26 (by decide +kernel) rfl, tw_mem 66 (by decide +kernel) rfl, tw_mem 818 (by decide +kernel) rfl, by decide, by decide, by decide⟩
theorem lk_We_59 : LkV R_We 59 y_To_areFriends c_To_areFriends 3 (some .boolean) 5 2 := ⟨by decide, rfl, by decide, tw_mem 819 (by decide +kernel) rfl, tw_mem 510 (by decide +kernel) rfl, tw_mem 511 (by decide +kernel) rfl, tw_mem 62 (by decide +kernel) rfl, tw_mem 512 (by decide +kernel) rfl, by decide, by decide, by decide⟩
theorem lk_We_43 : LkS R_We 43 y_We_weighFrom c_We_weighFrom 6 (some .boolean) 4 := ⟨Or.inl (tw_mem 820 (by decide +kernel) rfl), by decide, tw_mem 821 (by decide +kernel) rfl, tw_mem 66 (by decide +kernel) rfl, tw_mem 822 (by decide +kernel) rfl, by decide, by decide, by decide⟩
theorem lk_We_63 : LkV R_We 63 y_We_putWeight c_We_putWeight 4 none 7 2 := ⟨by decide, rfl, by decide, tw_mem 823 (by decide +kernel) rfl, tw_mem 825 (by decide +kernel) rfl, tw_mem 27 (by decide +kernel) rfl, tw_mem 66 (by decide +kernel) rfl, tw_mem 826 (by decide +kernel) rfl, by decide, by decide, by decide⟩
theorem lk_We_67 : LkV R_We 67 y_We_sumsDiffer c_We_sumsDiffer 4 (some .boolean) 7 2 := ⟨by decide, rfl, by decide, tw_mem 827 (by decide +kernel) rfl, tw_mem 829 (by decide +kernel) rfl, tw_mem 28 (by decide +kernel) rfl, tw_mem 66 (by decide +kernel) rfl, tw_mem 830 (by decide +kernel) rfl, by decide, by decide, by decide⟩
theorem lk_We_70 : LkV R_We 70 y_We_hasTwin c_We_hasTwin 4 (some .boolean) 7 2 := ⟨by decide, rfl, by decide, tw_mem 831 (by decide +kernel) rfl, tw_mem 833 (by decide +kernel) rfl, tw_mem 29 (by decide +kernel) rfl, tw_mem 66 (by decide +kernel) rfl, tw_mem 834 (by decide +kernel) rfl, by decide, by decide, by decide⟩
theorem lk_Uc_247 : LkV R_Uc 247 y_We_weightOf c_We_weightOf 6 (some .int) 7 2 := ⟨by decide, rfl, by decide, tw_mem 835 (by decide +kernel) rfl, tw_mem 836 (by decide +kernel) rfl, tw_mem 837 (by decide +kernel) rfl, tw_mem 66 (by decide +kernel) rfl, tw_mem 838 (by decide +kernel) rfl, by decide, by decide, by decide⟩
theorem lk_We_47 : LkS R_We 47 y_Ma_min_II c_Ma_min_II 2 (some .int) 2 := ⟨Or.inl (tw_mem 839 (by decide +kernel) rfl), by decide, tw_mem 614 (by decide +kernel) rfl, tw_mem 76 (by decide +kernel) rfl, tw_mem 615 (by decide +kernel) rfl, by decide, by decide, by decide⟩
theorem lk_We_53 : LkS R_We 53 y_Ma_max c_Ma_max 2 (some .int) 2 := ⟨Or.inl (tw_mem 840 (by decide +kernel) rfl), by decide, tw_mem 617 (by decide +kernel) rfl, tw_mem 76 (by decide +kernel) rfl, tw_mem 618 (by decide +kernel) rfl, by decide, by decide, by decide⟩
theorem lk_Lw_114 : LkV R_Lw 114 y_Uc_sides c_Uc_sides 3 (some .int) 8 2 := ⟨by decide, rfl, by decide, tw_mem 841 (by decide +kernel) rfl, tw_mem 842 (by decide +kernel) rfl, tw_mem 843 (by decide +kernel) rfl, tw_mem 61 (by decide +kernel) rfl, tw_mem 844 (by decide +kernel) rfl, by decide, by decide, by decide⟩
theorem lk_Uc_250 : LkV R_Uc 250 y_Wa_acrossSides c_Wa_acrossSides 4 (some .int) 6 2 := ⟨by decide, rfl, by decide, tw_mem 845 (by decide +kernel) rfl, tw_mem 846 (by decide +kernel) rfl, tw_mem 847 (by decide +kernel) rfl, tw_mem 67 (by decide +kernel) rfl, tw_mem 848 (by decide +kernel) rfl, by decide, by decide, by decide⟩
theorem lk_Wa_18 : LkS R_Wa 18 y_Wa_acrossFrom c_Wa_acrossFrom 8 (some .int) 5 := ⟨Or.inl (tw_mem 849 (by decide +kernel) rfl), by decide, tw_mem 850 (by decide +kernel) rfl, tw_mem 67 (by decide +kernel) rfl, tw_mem 851 (by decide +kernel) rfl, by decide, by decide, by decide⟩
theorem lk_Wa_26 : LkS R_Wa 26 y_Wa_allUnlike c_Wa_allUnlike 4 (some .boolean) 3 := ⟨Or.inl (tw_mem 852 (by decide +kernel) rfl), by decide, tw_mem 853 (by decide +kernel) rfl, tw_mem 67 (by decide +kernel) rfl, tw_mem 854 (by decide +kernel) rfl, by decide, by decide, by decide⟩
theorem lk_Wa_40 : LkS R_Wa 40 y_Wa_unlikeBelow c_Wa_unlikeBelow 5 (some .boolean) 3 := ⟨Or.inl (tw_mem 855 (by decide +kernel) rfl), by decide, tw_mem 856 (by decide +kernel) rfl, tw_mem 67 (by decide +kernel) rfl, tw_mem 857 (by decide +kernel) rfl, by decide, by decide, by decide⟩
theorem lk_Wa_30 : LkS R_Wa 30 y_In_bitCount c_In_bitCount 1 (some .int) 1 := ⟨Or.inl (tw_mem 858 (by decide +kernel) rfl), by decide, tw_mem 551 (by decide +kernel) rfl, tw_mem 75 (by decide +kernel) rfl, tw_mem 552 (by decide +kernel) rfl, by decide, by decide, by decide⟩
theorem lk_Wa_36 : LkS R_Wa 36 y_Wa_spread c_Wa_spread 4 (some .int) 2 := ⟨Or.inl (tw_mem 859 (by decide +kernel) rfl), by decide, tw_mem 860 (by decide +kernel) rfl, tw_mem 67 (by decide +kernel) rfl, tw_mem 861 (by decide +kernel) rfl, by decide, by decide, by decide⟩
theorem lk_Lw_118 : LkV R_Lw 118 y_Uc_sorts c_Uc_sorts 2 (some .int) 8 1 := ⟨by decide, rfl, by decide, tw_mem 862 (by decide +kernel) rfl, tw_mem 863 (by decide +kernel) rfl, tw_mem 864 (by decide +kernel) rfl, tw_mem 61 (by decide +kernel) rfl, tw_mem 865 (by decide +kernel) rfl, by decide, by decide, by decide⟩
theorem lk_Uc_253 : LkV R_Uc 253 y_Wa_ofTwoSorts c_Wa_ofTwoSorts 2 (some .int) 6 1 := ⟨by decide, rfl, by decide, tw_mem 866 (by decide +kernel) rfl, tw_mem 867 (by decide +kernel) rfl, tw_mem 868 (by decide +kernel) rfl, tw_mem 67 (by decide +kernel) rfl, tw_mem 869 (by decide +kernel) rfl, by decide, by decide, by decide⟩
theorem lk_Wa_22 : LkS R_Wa 22 y_Wa_sortedFrom c_Wa_sortedFrom 5 (some .int) 4 := ⟨Or.inl (tw_mem 870 (by decide +kernel) rfl), by decide, tw_mem 871 (by decide +kernel) rfl, tw_mem 67 (by decide +kernel) rfl, tw_mem 872 (by decide +kernel) rfl, by decide, by decide, by decide⟩
theorem lk_Lw_122 : LkV R_Lw 122 y_Uc_write c_Uc_write 4 (some .int) 8 3 := ⟨by decide, rfl, by decide, tw_mem 873 (by decide +kernel) rfl, tw_mem 874 (by decide +kernel) rfl, tw_mem 875 (by decide +kernel) rfl, tw_mem 61 (by decide +kernel) rfl, tw_mem 876 (by decide +kernel) rfl, by decide, by decide, by decide⟩
theorem lk_Uc_256 : LkV R_Uc 256 y_Bk_add c_Bk_add 4 none 0 3 := ⟨by decide, rfl, by decide, tw_mem 877 (by decide +kernel) rfl, tw_mem 878 (by decide +kernel) rfl, tw_mem 879 (by decide +kernel) rfl, tw_mem 68 (by decide +kernel) rfl, tw_mem 880 (by decide +kernel) rfl, by decide, by decide, by decide⟩
theorem lk_Lw_126 : LkV R_Lw 126 y_Uc_tear c_Uc_tear 2 (some .int) 8 0 := ⟨by decide, rfl, by decide, tw_mem 881 (by decide +kernel) rfl, tw_mem 882 (by decide +kernel) rfl, tw_mem 883 (by decide +kernel) rfl, tw_mem 61 (by decide +kernel) rfl, tw_mem 884 (by decide +kernel) rfl, by decide, by decide, by decide⟩
theorem lk_Lw_130 : LkV R_Lw 130 y_Uc_judge c_Uc_judge 3 (some .int) 8 1 := ⟨by decide, rfl, by decide, tw_mem 885 (by decide +kernel) rfl, tw_mem 886 (by decide +kernel) rfl, tw_mem 887 (by decide +kernel) rfl, tw_mem 61 (by decide +kernel) rfl, tw_mem 888 (by decide +kernel) rfl, by decide, by decide, by decide⟩
theorem lk_Uc_260 : LkV R_Uc 260 y_Bk_tryOn c_Bk_tryOn 5 (some .int) 0 1 := ⟨by decide, rfl, by decide, tw_mem 889 (by decide +kernel) rfl, tw_mem 890 (by decide +kernel) rfl, tw_mem 891 (by decide +kernel) rfl, tw_mem 68 (by decide +kernel) rfl, tw_mem 892 (by decide +kernel) rfl, by decide, by decide, by decide⟩
theorem lk_Bk_26 : LkV R_Bk 26 y_To_hasTwo c_To_hasTwo 3 (some .boolean) 5 2 := ⟨by decide, rfl, by decide, tw_mem 893 (by decide +kernel) rfl, tw_mem 502 (by decide +kernel) rfl, tw_mem 503 (by decide +kernel) rfl, tw_mem 62 (by decide +kernel) rfl, tw_mem 504 (by decide +kernel) rfl, by decide, by decide, by decide⟩
theorem lk_Bk_32 : LkV R_Bk 32 y_To_allows c_To_allows 4 (some .boolean) 5 3 := ⟨by decide, rfl, by decide, tw_mem 894 (by decide +kernel) rfl, tw_mem 624 (by decide +kernel) rfl, tw_mem 625 (by decide +kernel) rfl, tw_mem 62 (by decide +kernel) rfl, tw_mem 626 (by decide +kernel) rfl, by decide, by decide, by decide⟩
theorem lk_Bk_39 : LkV R_Bk 39 y_To_mark c_To_mark 5 none 5 4 := ⟨by decide, rfl, by decide, tw_mem 895 (by decide +kernel) rfl, tw_mem 518 (by decide +kernel) rfl, tw_mem 519 (by decide +kernel) rfl, tw_mem 62 (by decide +kernel) rfl, tw_mem 520 (by decide +kernel) rfl, by decide, by decide, by decide⟩
theorem lk_Lw_134 : LkV R_Lw 134 y_Uc_drift c_Uc_drift 3 (some .int) 8 1 := ⟨by decide, rfl, by decide, tw_mem 896 (by decide +kernel) rfl, tw_mem 897 (by decide +kernel) rfl, tw_mem 898 (by decide +kernel) rfl, tw_mem 61 (by decide +kernel) rfl, tw_mem 899 (by decide +kernel) rfl, by decide, by decide, by decide⟩
theorem lk_Uc_264 : LkV R_Uc 264 y_Uc_liveWeek c_Uc_liveWeek 2 none 8 0 := ⟨by decide, rfl, by decide, tw_mem 900 (by decide +kernel) rfl, tw_mem 902 (by decide +kernel) rfl, tw_mem 30 (by decide +kernel) rfl, tw_mem 61 (by decide +kernel) rfl, tw_mem 903 (by decide +kernel) rfl, by decide, by decide, by decide⟩
theorem lk_Uc_276 : LkV R_Uc 276 y_Uc_draw c_Uc_draw 2 (some .int) 8 1 := ⟨by decide, rfl, by decide, tw_mem 904 (by decide +kernel) rfl, tw_mem 906 (by decide +kernel) rfl, tw_mem 31 (by decide +kernel) rfl, tw_mem 61 (by decide +kernel) rfl, tw_mem 907 (by decide +kernel) rfl, by decide, by decide, by decide⟩
theorem lk_Uc_279 : LkV R_Uc 279 y_Uc_changePair c_Uc_changePair 6 none 8 1 := ⟨by decide, rfl, by decide, tw_mem 911 (by decide +kernel) rfl, tw_mem 913 (by decide +kernel) rfl, tw_mem 32 (by decide +kernel) rfl, tw_mem 61 (by decide +kernel) rfl, tw_mem 914 (by decide +kernel) rfl, by decide, by decide, by decide⟩
theorem lk_Lw_138 : LkV R_Lw 138 y_Uc_seed c_Uc_seed 3 (some .int) 8 1 := ⟨by decide, rfl, by decide, tw_mem 915 (by decide +kernel) rfl, tw_mem 916 (by decide +kernel) rfl, tw_mem 917 (by decide +kernel) rfl, tw_mem 61 (by decide +kernel) rfl, tw_mem 918 (by decide +kernel) rfl, by decide, by decide, by decide⟩
theorem lk_Lw_142 : LkV R_Lw 142 y_Uc_keep c_Uc_keep 3 (some .int) 8 1 := ⟨by decide, rfl, by decide, tw_mem 919 (by decide +kernel) rfl, tw_mem 920 (by decide +kernel) rfl, tw_mem 921 (by decide +kernel) rfl, tw_mem 61 (by decide +kernel) rfl, tw_mem 922 (by decide +kernel) rfl, by decide, by decide, by decide⟩
theorem lk_Lw_146 : LkV R_Lw 146 y_Uc_goBack c_Uc_goBack 3 (some .int) 8 1 := ⟨by decide, rfl, by decide, tw_mem 923 (by decide +kernel) rfl, tw_mem 924 (by decide +kernel) rfl, tw_mem 925 (by decide +kernel) rfl, tw_mem 61 (by decide +kernel) rfl, tw_mem 926 (by decide +kernel) rfl, by decide, by decide, by decide⟩
theorem lk_Lw_19 : LkV R_Lw 19 y_Mo_feed c_Mo_feed 5 (some .int) 9 2 := ⟨by decide, rfl, by decide, tw_mem 1051 (by decide +kernel) rfl, tw_mem 1052 (by decide +kernel) rfl, tw_mem 1053 (by decide +kernel) rfl, tw_mem 70 (by decide +kernel) rfl, tw_mem 1054 (by decide +kernel) rfl, by decide, by decide, by decide⟩
theorem lk_Mo_66 : LkS R_Mo 66 y_Mo_in c_Mo_in 6 (some .boolean) 3 := ⟨Or.inl (tw_mem 1056 (by decide +kernel) rfl), by decide, tw_mem 1057 (by decide +kernel) rfl, tw_mem 70 (by decide +kernel) rfl, tw_mem 1058 (by decide +kernel) rfl, by decide, by decide, by decide⟩
theorem lk_Lw_24 : LkV R_Lw 24 y_Mo_town c_Mo_town 2 (some .int) 9 0 := ⟨by decide, rfl, by decide, tw_mem 1062 (by decide +kernel) rfl, tw_mem 1063 (by decide +kernel) rfl, tw_mem 1064 (by decide +kernel) rfl, tw_mem 70 (by decide +kernel) rfl, tw_mem 1065 (by decide +kernel) rfl, by decide, by decide, by decide⟩
theorem lk_Mo_104 : LkV R_Mo 104 y_Mo_here c_Mo_here 1 (some .int) 9 0 := ⟨by decide, rfl, by decide, tw_mem 1066 (by decide +kernel) rfl, tw_mem 1068 (by decide +kernel) rfl, tw_mem 33 (by decide +kernel) rfl, tw_mem 70 (by decide +kernel) rfl, tw_mem 1069 (by decide +kernel) rfl, by decide, by decide, by decide⟩
theorem lk_Mo_182 : LkV R_Mo 182 y_Mo_takeClause c_Mo_takeClause 4 (some .int) 9 0 := ⟨by decide, rfl, by decide, tw_mem 1070 (by decide +kernel) rfl, tw_mem 1072 (by decide +kernel) rfl, tw_mem 34 (by decide +kernel) rfl, tw_mem 70 (by decide +kernel) rfl, tw_mem 1073 (by decide +kernel) rfl, by decide, by decide, by decide⟩
theorem lk_Mo_166 : LkV R_Mo 166 y_Mo_readWord c_Mo_readWord 2 none 9 0 := ⟨by decide, rfl, by decide, tw_mem 1074 (by decide +kernel) rfl, tw_mem 1076 (by decide +kernel) rfl, tw_mem 35 (by decide +kernel) rfl, tw_mem 70 (by decide +kernel) rfl, tw_mem 1077 (by decide +kernel) rfl, by decide, by decide, by decide⟩
theorem lk_Mo_169 : LkS R_Mo 169 y_Mo_code c_Mo_code 4 (some .long) 4 := ⟨Or.inl (tw_mem 1084 (by decide +kernel) rfl), by decide, tw_mem 1085 (by decide +kernel) rfl, tw_mem 70 (by decide +kernel) rfl, tw_mem 1086 (by decide +kernel) rfl, by decide, by decide, by decide⟩
theorem lk_Mo_173 : LkS R_Mo 173 y_Mo_longer c_Mo_longer 4 (some .long) 3 := ⟨Or.inl (tw_mem 1087 (by decide +kernel) rfl), by decide, tw_mem 1088 (by decide +kernel) rfl, tw_mem 70 (by decide +kernel) rfl, tw_mem 1089 (by decide +kernel) rfl, by decide, by decide, by decide⟩
theorem lk_Mo_131 : LkV R_Mo 131 y_Mo_fails c_Mo_fails 3 (some .int) 9 2 := ⟨by decide, rfl, by decide, tw_mem 1091 (by decide +kernel) rfl, tw_mem 1093 (by decide +kernel) rfl, tw_mem 36 (by decide +kernel) rfl, tw_mem 70 (by decide +kernel) rfl, tw_mem 1094 (by decide +kernel) rfl, by decide, by decide, by decide⟩
theorem lk_Mo_179 : LkV R_Mo 179 y_Mo_takeKind c_Mo_takeKind 3 (some .int) 9 1 := ⟨by decide, rfl, by decide, tw_mem 1095 (by decide +kernel) rfl, tw_mem 1097 (by decide +kernel) rfl, tw_mem 37 (by decide +kernel) rfl, tw_mem 70 (by decide +kernel) rfl, tw_mem 1098 (by decide +kernel) rfl, by decide, by decide, by decide⟩
theorem lk_Mo_144 : LkV R_Mo 144 y_Mo_takeNumber c_Mo_takeNumber 4 (some .int) 9 2 := ⟨by decide, rfl, by decide, tw_mem 1099 (by decide +kernel) rfl, tw_mem 1101 (by decide +kernel) rfl, tw_mem 38 (by decide +kernel) rfl, tw_mem 70 (by decide +kernel) rfl, tw_mem 1102 (by decide +kernel) rfl, by decide, by decide, by decide⟩
theorem lk_Mo_162 : LkV R_Mo 162 y_Mo_takeTwo c_Mo_takeTwo 5 (some .int) 9 1 := ⟨by decide, rfl, by decide, tw_mem 1105 (by decide +kernel) rfl, tw_mem 1107 (by decide +kernel) rfl, tw_mem 39 (by decide +kernel) rfl, tw_mem 70 (by decide +kernel) rfl, tw_mem 1108 (by decide +kernel) rfl, by decide, by decide, by decide⟩
theorem lk_Mo_74 : LkS R_Mo 74 y_Mo_pairOf c_Mo_pairOf 7 (some .int) 3 := ⟨Or.inl (tw_mem 1109 (by decide +kernel) rfl), by decide, tw_mem 1110 (by decide +kernel) rfl, tw_mem 70 (by decide +kernel) rfl, tw_mem 1111 (by decide +kernel) rfl, by decide, by decide, by decide⟩
theorem lk_Mo_78 : LkS R_Mo 78 y_Mo_has c_Mo_has 2 (some .boolean) 2 := ⟨Or.inl (tw_mem 1112 (by decide +kernel) rfl), by decide, tw_mem 1113 (by decide +kernel) rfl, tw_mem 70 (by decide +kernel) rfl, tw_mem 1114 (by decide +kernel) rfl, by decide, by decide, by decide⟩
theorem lk_Mo_191 : LkV R_Mo 191 y_Mo_tellCounts c_Mo_tellCounts 2 none 9 0 := ⟨by decide, rfl, by decide, tw_mem 1115 (by decide +kernel) rfl, tw_mem 1117 (by decide +kernel) rfl, tw_mem 40 (by decide +kernel) rfl, tw_mem 70 (by decide +kernel) rfl, tw_mem 1118 (by decide +kernel) rfl, by decide, by decide, by decide⟩
theorem lk_Mo_89 : LkS R_Mo 89 y_Mo_countIn c_Mo_countIn 5 (some .int) 3 := ⟨Or.inl (tw_mem 1119 (by decide +kernel) rfl), by decide, tw_mem 1120 (by decide +kernel) rfl, tw_mem 70 (by decide +kernel) rfl, tw_mem 1121 (by decide +kernel) rfl, by decide, by decide, by decide⟩
theorem lk_Lw_28 : LkV R_Lw 28 y_Mo_fault c_Mo_fault 1 (some .int) 9 0 := ⟨by decide, rfl, by decide, tw_mem 1122 (by decide +kernel) rfl, tw_mem 1123 (by decide +kernel) rfl, tw_mem 1124 (by decide +kernel) rfl, tw_mem 70 (by decide +kernel) rfl, tw_mem 1125 (by decide +kernel) rfl, by decide, by decide, by decide⟩
theorem lk_Lw_33 : LkV R_Lw 33 y_Mo_told c_Mo_told 2 (some .int) 9 1 := ⟨by decide, rfl, by decide, tw_mem 1126 (by decide +kernel) rfl, tw_mem 1127 (by decide +kernel) rfl, tw_mem 1128 (by decide +kernel) rfl, tw_mem 70 (by decide +kernel) rfl, tw_mem 1129 (by decide +kernel) rfl, by decide, by decide, by decide⟩
theorem lk_Mo_197 : LkS R_Mo 197 y_Mo_bits c_Mo_bits 3 (some .int) 1 := ⟨Or.inl (tw_mem 1130 (by decide +kernel) rfl), by decide, tw_mem 1131 (by decide +kernel) rfl, tw_mem 70 (by decide +kernel) rfl, tw_mem 1132 (by decide +kernel) rfl, by decide, by decide, by decide⟩
theorem lk_Mo_200 : LkV R_Mo 200 y_Mo_alikeIn c_Mo_alikeIn 6 (some .int) 9 2 := ⟨by decide, rfl, by decide, tw_mem 1133 (by decide +kernel) rfl, tw_mem 1135 (by decide +kernel) rfl, tw_mem 41 (by decide +kernel) rfl, tw_mem 70 (by decide +kernel) rfl, tw_mem 1136 (by decide +kernel) rfl, by decide, by decide, by decide⟩
theorem lk_Mo_82 : LkV R_Mo 82 y_Mo_findCounts c_Mo_findCounts 6 none 9 2 := ⟨by decide, rfl, by decide, tw_mem 1137 (by decide +kernel) rfl, tw_mem 1139 (by decide +kernel) rfl, tw_mem 42 (by decide +kernel) rfl, tw_mem 70 (by decide +kernel) rfl, tw_mem 1140 (by decide +kernel) rfl, by decide, by decide, by decide⟩
theorem lk_Lw_37 : LkV R_Lw 37 y_Mo_count c_Mo_count 2 (some .int) 9 1 := ⟨by decide, rfl, by decide, tw_mem 1141 (by decide +kernel) rfl, tw_mem 1142 (by decide +kernel) rfl, tw_mem 1143 (by decide +kernel) rfl, tw_mem 70 (by decide +kernel) rfl, tw_mem 1144 (by decide +kernel) rfl, by decide, by decide, by decide⟩
theorem lk_Mo_70 : LkV R_Mo 70 y_Mo_isPerson c_Mo_isPerson 2 (some .boolean) 9 1 := ⟨by decide, rfl, by decide, tw_mem 1145 (by decide +kernel) rfl, tw_mem 1147 (by decide +kernel) rfl, tw_mem 43 (by decide +kernel) rfl, tw_mem 70 (by decide +kernel) rfl, tw_mem 1148 (by decide +kernel) rfl, by decide, by decide, by decide⟩
theorem lk_Lw_41 : LkV R_Lw 41 y_Mo_friends c_Mo_friends 2 (some .int) 9 1 := ⟨by decide, rfl, by decide, tw_mem 1150 (by decide +kernel) rfl, tw_mem 1151 (by decide +kernel) rfl, tw_mem 1152 (by decide +kernel) rfl, tw_mem 70 (by decide +kernel) rfl, tw_mem 1153 (by decide +kernel) rfl, by decide, by decide, by decide⟩
theorem lk_Mo_204 : LkV R_Mo 204 y_Mo_friendsIn c_Mo_friendsIn 6 (some .int) 9 3 := ⟨by decide, rfl, by decide, tw_mem 1154 (by decide +kernel) rfl, tw_mem 1156 (by decide +kernel) rfl, tw_mem 44 (by decide +kernel) rfl, tw_mem 70 (by decide +kernel) rfl, tw_mem 1157 (by decide +kernel) rfl, by decide, by decide, by decide⟩
theorem lk_Lw_45 : LkV R_Lw 45 y_Mo_alike c_Mo_alike 4 (some .int) 9 1 := ⟨by decide, rfl, by decide, tw_mem 1158 (by decide +kernel) rfl, tw_mem 1159 (by decide +kernel) rfl, tw_mem 1160 (by decide +kernel) rfl, tw_mem 70 (by decide +kernel) rfl, tw_mem 1161 (by decide +kernel) rfl, by decide, by decide, by decide⟩
theorem lk_Lw_50 : LkV R_Lw 50 y_Mo_pair c_Mo_pair 3 (some .int) 9 2 := ⟨by decide, rfl, by decide, tw_mem 1162 (by decide +kernel) rfl, tw_mem 1163 (by decide +kernel) rfl, tw_mem 1164 (by decide +kernel) rfl, tw_mem 70 (by decide +kernel) rfl, tw_mem 1165 (by decide +kernel) rfl, by decide, by decide, by decide⟩
theorem lk_Mo_207 : LkV R_Mo 207 y_Mo_areTwo c_Mo_areTwo 3 (some .boolean) 9 2 := ⟨by decide, rfl, by decide, tw_mem 1166 (by decide +kernel) rfl, tw_mem 1168 (by decide +kernel) rfl, tw_mem 45 (by decide +kernel) rfl, tw_mem 70 (by decide +kernel) rfl, tw_mem 1169 (by decide +kernel) rfl, by decide, by decide, by decide⟩
theorem lk_Lw_55 : LkV R_Lw 55 y_Mo_tie c_Mo_tie 6 (some .int) 9 3 := ⟨by decide, rfl, by decide, tw_mem 1170 (by decide +kernel) rfl, tw_mem 1171 (by decide +kernel) rfl, tw_mem 1172 (by decide +kernel) rfl, tw_mem 70 (by decide +kernel) rfl, tw_mem 1173 (by decide +kernel) rfl, by decide, by decide, by decide⟩
theorem lk_Lw_60 : LkV R_Lw 60 y_Mo_bar c_Mo_bar 6 (some .int) 9 3 := ⟨by decide, rfl, by decide, tw_mem 1175 (by decide +kernel) rfl, tw_mem 1176 (by decide +kernel) rfl, tw_mem 1177 (by decide +kernel) rfl, tw_mem 70 (by decide +kernel) rfl, tw_mem 1178 (by decide +kernel) rfl, by decide, by decide, by decide⟩
theorem lk_Lw_64 : LkV R_Lw 64 y_Mo_birth c_Mo_birth 1 (some .int) 9 0 := ⟨by decide, rfl, by decide, tw_mem 1180 (by decide +kernel) rfl, tw_mem 1181 (by decide +kernel) rfl, tw_mem 1182 (by decide +kernel) rfl, tw_mem 70 (by decide +kernel) rfl, tw_mem 1183 (by decide +kernel) rfl, by decide, by decide, by decide⟩
theorem lk_Mo_213 : LkS R_Mo 213 y_Mo_withMore c_Mo_withMore 5 (some .int) 2 := ⟨Or.inl (tw_mem 1184 (by decide +kernel) rfl), by decide, tw_mem 1185 (by decide +kernel) rfl, tw_mem 70 (by decide +kernel) rfl, tw_mem 1186 (by decide +kernel) rfl, by decide, by decide, by decide⟩
theorem lk_Lw_68 : LkV R_Lw 68 y_Mo_death c_Mo_death 2 (some .int) 9 1 := ⟨by decide, rfl, by decide, tw_mem 1187 (by decide +kernel) rfl, tw_mem 1188 (by decide +kernel) rfl, tw_mem 1189 (by decide +kernel) rfl, tw_mem 70 (by decide +kernel) rfl, tw_mem 1190 (by decide +kernel) rfl, by decide, by decide, by decide⟩
theorem lk_Mo_216 : LkS R_Mo 216 y_Mo_without c_Mo_without 9 (some .int) 3 := ⟨Or.inl (tw_mem 1191 (by decide +kernel) rfl), by decide, tw_mem 1192 (by decide +kernel) rfl, tw_mem 70 (by decide +kernel) rfl, tw_mem 1193 (by decide +kernel) rfl, by decide, by decide, by decide⟩
theorem lk_Lw_73 : LkV R_Lw 73 y_Mo_made c_Mo_made 5 (some .int) 9 4 := ⟨by decide, rfl, by decide, tw_mem 1194 (by decide +kernel) rfl, tw_mem 1195 (by decide +kernel) rfl, tw_mem 1196 (by decide +kernel) rfl, tw_mem 70 (by decide +kernel) rfl, tw_mem 1197 (by decide +kernel) rfl, by decide, by decide, by decide⟩
theorem lk_Mo_219 : LkS R_Mo 219 y_Mo_isMade c_Mo_isMade 4 (some .boolean) 4 := ⟨Or.inl (tw_mem 1198 (by decide +kernel) rfl), by decide, tw_mem 1199 (by decide +kernel) rfl, tw_mem 70 (by decide +kernel) rfl, tw_mem 1200 (by decide +kernel) rfl, by decide, by decide, by decide⟩
theorem lk_Lw_77 : LkV R_Lw 77 y_Mo_good c_Mo_good 3 (some .int) 9 1 := ⟨by decide, rfl, by decide, tw_mem 1201 (by decide +kernel) rfl, tw_mem 1202 (by decide +kernel) rfl, tw_mem 1203 (by decide +kernel) rfl, tw_mem 70 (by decide +kernel) rfl, tw_mem 1204 (by decide +kernel) rfl, by decide, by decide, by decide⟩
theorem lk_Mo_245 : LkV R_Mo 245 y_Mo_makeGood c_Mo_makeGood 5 (some .int) 9 4 := ⟨by decide, rfl, by decide, tw_mem 1207 (by decide +kernel) rfl, tw_mem 1209 (by decide +kernel) rfl, tw_mem 46 (by decide +kernel) rfl, tw_mem 70 (by decide +kernel) rfl, tw_mem 1210 (by decide +kernel) rfl, by decide, by decide, by decide⟩
theorem lk_Mo_237 : LkV R_Mo 237 y_Mo_findPlaces c_Mo_findPlaces 9 none 9 5 := ⟨by decide, rfl, by decide, tw_mem 1212 (by decide +kernel) rfl, tw_mem 1214 (by decide +kernel) rfl, tw_mem 47 (by decide +kernel) rfl, tw_mem 70 (by decide +kernel) rfl, tw_mem 1215 (by decide +kernel) rfl, by decide, by decide, by decide⟩
theorem lk_Mo_224 : LkV R_Mo 224 y_Mo_isTaken c_Mo_isTaken 4 (some .boolean) 9 1 := ⟨by decide, rfl, by decide, tw_mem 1216 (by decide +kernel) rfl, tw_mem 1218 (by decide +kernel) rfl, tw_mem 48 (by decide +kernel) rfl, tw_mem 70 (by decide +kernel) rfl, tw_mem 1219 (by decide +kernel) rfl, by decide, by decide, by decide⟩
theorem lk_Mo_227 : LkV R_Mo 227 y_Mo_priceAt c_Mo_priceAt 12 (some .int) 9 6 := ⟨by decide, rfl, by decide, tw_mem 1220 (by decide +kernel) rfl, tw_mem 1222 (by decide +kernel) rfl, tw_mem 49 (by decide +kernel) rfl, tw_mem 70 (by decide +kernel) rfl, tw_mem 1223 (by decide +kernel) rfl, by decide, by decide, by decide⟩
theorem lk_Mo_249 : LkV R_Mo 249 y_Mo_bestTown c_Mo_bestTown 4 (some .int) 9 0 := ⟨by decide, rfl, by decide, tw_mem 1224 (by decide +kernel) rfl, tw_mem 1226 (by decide +kernel) rfl, tw_mem 50 (by decide +kernel) rfl, tw_mem 70 (by decide +kernel) rfl, tw_mem 1227 (by decide +kernel) rfl, by decide, by decide, by decide⟩
theorem lk_Lw_81 : LkV R_Lw 81 y_Mo_born c_Mo_born 1 (some .int) 9 0 := ⟨by decide, rfl, by decide, tw_mem 1228 (by decide +kernel) rfl, tw_mem 1229 (by decide +kernel) rfl, tw_mem 1230 (by decide +kernel) rfl, tw_mem 70 (by decide +kernel) rfl, tw_mem 1231 (by decide +kernel) rfl, by decide, by decide, by decide⟩
theorem lk_Lw_85 : LkV R_Lw 85 y_Mo_dies c_Mo_dies 2 (some .int) 9 1 := ⟨by decide, rfl, by decide, tw_mem 1233 (by decide +kernel) rfl, tw_mem 1234 (by decide +kernel) rfl, tw_mem 1235 (by decide +kernel) rfl, tw_mem 70 (by decide +kernel) rfl, tw_mem 1236 (by decide +kernel) rfl, by decide, by decide, by decide⟩
theorem lk_Lw_89 : LkV R_Lw 89 y_Mo_nearest c_Mo_nearest 9 (some .int) 9 1 := ⟨by decide, rfl, by decide, tw_mem 1237 (by decide +kernel) rfl, tw_mem 1238 (by decide +kernel) rfl, tw_mem 1239 (by decide +kernel) rfl, tw_mem 70 (by decide +kernel) rfl, tw_mem 1240 (by decide +kernel) rfl, by decide, by decide, by decide⟩
theorem lk_Mo_254 : LkS R_Mo 254 y_Mo_pairs c_Mo_pairs 1 (some .int) 1 := ⟨Or.inl (tw_mem 1241 (by decide +kernel) rfl), by decide, tw_mem 1242 (by decide +kernel) rfl, tw_mem 70 (by decide +kernel) rfl, tw_mem 1243 (by decide +kernel) rfl, by decide, by decide, by decide⟩
theorem lk_Mo_257 : LkV R_Mo 257 y_Mo_keepsBars c_Mo_keepsBars 2 (some .boolean) 9 1 := ⟨by decide, rfl, by decide, tw_mem 1244 (by decide +kernel) rfl, tw_mem 1246 (by decide +kernel) rfl, tw_mem 51 (by decide +kernel) rfl, tw_mem 70 (by decide +kernel) rfl, tw_mem 1247 (by decide +kernel) rfl, by decide, by decide, by decide⟩
theorem lk_Mo_260 : LkV R_Mo 260 y_Mo_priceOf c_Mo_priceOf 3 (some .int) 9 2 := ⟨by decide, rfl, by decide, tw_mem 1248 (by decide +kernel) rfl, tw_mem 1250 (by decide +kernel) rfl, tw_mem 52 (by decide +kernel) rfl, tw_mem 70 (by decide +kernel) rfl, tw_mem 1251 (by decide +kernel) rfl, by decide, by decide, by decide⟩
theorem lk_Lw_93 : LkV R_Lw 93 y_Mo_even c_Mo_even 9 (some .int) 9 2 := ⟨by decide, rfl, by decide, tw_mem 1252 (by decide +kernel) rfl, tw_mem 1253 (by decide +kernel) rfl, tw_mem 1254 (by decide +kernel) rfl, tw_mem 70 (by decide +kernel) rfl, tw_mem 1255 (by decide +kernel) rfl, by decide, by decide, by decide⟩
theorem lk_Lw_97 : LkV R_Lw 97 y_Mo_tell c_Mo_tell 4 (some .int) 9 2 := ⟨by decide, rfl, by decide, tw_mem 1257 (by decide +kernel) rfl, tw_mem 1258 (by decide +kernel) rfl, tw_mem 1259 (by decide +kernel) rfl, tw_mem 70 (by decide +kernel) rfl, tw_mem 1260 (by decide +kernel) rfl, by decide, by decide, by decide⟩
theorem lk_Lw_101 : LkV R_Lw 101 y_Mo_canBe c_Mo_canBe 1 (some .int) 9 0 := ⟨by decide, rfl, by decide, tw_mem 1261 (by decide +kernel) rfl, tw_mem 1262 (by decide +kernel) rfl, tw_mem 1263 (by decide +kernel) rfl, tw_mem 70 (by decide +kernel) rfl, tw_mem 1264 (by decide +kernel) rfl, by decide, by decide, by decide⟩
theorem lk_Mo_271 : LkV R_Mo 271 y_Mo_countTowns c_Mo_countTowns 5 (some .int) 9 0 := ⟨by decide, rfl, by decide, tw_mem 1265 (by decide +kernel) rfl, tw_mem 1267 (by decide +kernel) rfl, tw_mem 53 (by decide +kernel) rfl, tw_mem 70 (by decide +kernel) rfl, tw_mem 1268 (by decide +kernel) rfl, by decide, by decide, by decide⟩
theorem lk_Lw_105 : LkV R_Lw 105 y_Mo_sure c_Mo_sure 4 (some .int) 9 2 := ⟨by decide, rfl, by decide, tw_mem 1269 (by decide +kernel) rfl, tw_mem 1270 (by decide +kernel) rfl, tw_mem 1271 (by decide +kernel) rfl, tw_mem 70 (by decide +kernel) rfl, tw_mem 1272 (by decide +kernel) rfl, by decide, by decide, by decide⟩
theorem lk_Lw_109 : LkV R_Lw 109 y_Mo_liar c_Mo_liar 3 (some .int) 9 0 := ⟨by decide, rfl, by decide, tw_mem 1273 (by decide +kernel) rfl, tw_mem 1274 (by decide +kernel) rfl, tw_mem 1275 (by decide +kernel) rfl, tw_mem 70 (by decide +kernel) rfl, tw_mem 1276 (by decide +kernel) rfl, by decide, by decide, by decide⟩
theorem lk_Mo_274 : LkV R_Mo 274 y_Mo_liarIn c_Mo_liarIn 4 (some .int) 9 1 := ⟨by decide, rfl, by decide, tw_mem 1277 (by decide +kernel) rfl, tw_mem 1279 (by decide +kernel) rfl, tw_mem 54 (by decide +kernel) rfl, tw_mem 70 (by decide +kernel) rfl, tw_mem 1280 (by decide +kernel) rfl, by decide, by decide, by decide⟩
theorem lk_Lw_113 : LkV R_Lw 113 y_Mo_weight c_Mo_weight 6 (some .int) 9 2 := ⟨by decide, rfl, by decide, tw_mem 1281 (by decide +kernel) rfl, tw_mem 1282 (by decide +kernel) rfl, tw_mem 1283 (by decide +kernel) rfl, tw_mem 70 (by decide +kernel) rfl, tw_mem 1284 (by decide +kernel) rfl, by decide, by decide, by decide⟩
theorem lk_Mo_284 : LkV R_Mo 284 y_Mo_findWeights c_Mo_findWeights 5 (some .int) 9 0 := ⟨by decide, rfl, by decide, tw_mem 1285 (by decide +kernel) rfl, tw_mem 1287 (by decide +kernel) rfl, tw_mem 55 (by decide +kernel) rfl, tw_mem 70 (by decide +kernel) rfl, tw_mem 1288 (by decide +kernel) rfl, by decide, by decide, by decide⟩
theorem lk_Mo_280 : LkV R_Mo 280 y_Mo_isWeighed c_Mo_isWeighed 9 (some .boolean) 9 3 := ⟨by decide, rfl, by decide, tw_mem 1289 (by decide +kernel) rfl, tw_mem 1291 (by decide +kernel) rfl, tw_mem 56 (by decide +kernel) rfl, tw_mem 70 (by decide +kernel) rfl, tw_mem 1292 (by decide +kernel) rfl, by decide, by decide, by decide⟩
theorem lk_Mo_277 : LkV R_Mo 277 y_Mo_areUnlike c_Mo_areUnlike 5 (some .boolean) 9 1 := ⟨by decide, rfl, by decide, tw_mem 1293 (by decide +kernel) rfl, tw_mem 1295 (by decide +kernel) rfl, tw_mem 57 (by decide +kernel) rfl, tw_mem 70 (by decide +kernel) rfl, tw_mem 1296 (by decide +kernel) rfl, by decide, by decide, by decide⟩
theorem lk_Lw_117 : LkV R_Lw 117 y_Mo_sides c_Mo_sides 11 (some .int) 9 2 := ⟨by decide, rfl, by decide, tw_mem 1297 (by decide +kernel) rfl, tw_mem 1298 (by decide +kernel) rfl, tw_mem 1299 (by decide +kernel) rfl, tw_mem 70 (by decide +kernel) rfl, tw_mem 1300 (by decide +kernel) rfl, by decide, by decide, by decide⟩
theorem lk_Lw_121 : LkV R_Lw 121 y_Mo_sorts c_Mo_sorts 9 (some .int) 9 1 := ⟨by decide, rfl, by decide, tw_mem 1302 (by decide +kernel) rfl, tw_mem 1303 (by decide +kernel) rfl, tw_mem 1304 (by decide +kernel) rfl, tw_mem 70 (by decide +kernel) rfl, tw_mem 1305 (by decide +kernel) rfl, by decide, by decide, by decide⟩
theorem lk_Lw_125 : LkV R_Lw 125 y_Mo_write c_Mo_write 4 (some .int) 9 3 := ⟨by decide, rfl, by decide, tw_mem 1306 (by decide +kernel) rfl, tw_mem 1307 (by decide +kernel) rfl, tw_mem 1308 (by decide +kernel) rfl, tw_mem 70 (by decide +kernel) rfl, tw_mem 1309 (by decide +kernel) rfl, by decide, by decide, by decide⟩
theorem lk_Lw_129 : LkV R_Lw 129 y_Mo_tear c_Mo_tear 2 (some .int) 9 0 := ⟨by decide, rfl, by decide, tw_mem 1310 (by decide +kernel) rfl, tw_mem 1311 (by decide +kernel) rfl, tw_mem 1312 (by decide +kernel) rfl, tw_mem 70 (by decide +kernel) rfl, tw_mem 1313 (by decide +kernel) rfl, by decide, by decide, by decide⟩
theorem lk_Lw_133 : LkV R_Lw 133 y_Mo_judge c_Mo_judge 8 (some .int) 9 1 := ⟨by decide, rfl, by decide, tw_mem 1314 (by decide +kernel) rfl, tw_mem 1315 (by decide +kernel) rfl, tw_mem 1316 (by decide +kernel) rfl, tw_mem 70 (by decide +kernel) rfl, tw_mem 1317 (by decide +kernel) rfl, by decide, by decide, by decide⟩
theorem lk_Lw_137 : LkV R_Lw 137 y_Mo_drift c_Mo_drift 3 (some .int) 9 1 := ⟨by decide, rfl, by decide, tw_mem 1318 (by decide +kernel) rfl, tw_mem 1319 (by decide +kernel) rfl, tw_mem 1320 (by decide +kernel) rfl, tw_mem 70 (by decide +kernel) rfl, tw_mem 1321 (by decide +kernel) rfl, by decide, by decide, by decide⟩
theorem lk_Mo_310 : LkV R_Mo 310 y_Mo_weekNow c_Mo_weekNow 4 none 9 0 := ⟨by decide, rfl, by decide, tw_mem 1323 (by decide +kernel) rfl, tw_mem 1325 (by decide +kernel) rfl, tw_mem 58 (by decide +kernel) rfl, tw_mem 70 (by decide +kernel) rfl, tw_mem 1326 (by decide +kernel) rfl, by decide, by decide, by decide⟩
theorem lk_Mo_299 : LkV R_Mo 299 y_Mo_draw c_Mo_draw 2 (some .int) 9 1 := ⟨by decide, rfl, by decide, tw_mem 1327 (by decide +kernel) rfl, tw_mem 1329 (by decide +kernel) rfl, tw_mem 59 (by decide +kernel) rfl, tw_mem 70 (by decide +kernel) rfl, tw_mem 1330 (by decide +kernel) rfl, by decide, by decide, by decide⟩
theorem lk_Mo_302 : LkV R_Mo 302 y_Mo_birth c_Mo_birth 1 (some .int) 9 0 := ⟨by decide, rfl, by decide, tw_mem 1335 (by decide +kernel) rfl, tw_mem 1181 (by decide +kernel) rfl, tw_mem 1182 (by decide +kernel) rfl, tw_mem 70 (by decide +kernel) rfl, tw_mem 1183 (by decide +kernel) rfl, by decide, by decide, by decide⟩
theorem lk_Mo_305 : LkV R_Mo 305 y_Mo_death c_Mo_death 2 (some .int) 9 1 := ⟨by decide, rfl, by decide, tw_mem 1336 (by decide +kernel) rfl, tw_mem 1188 (by decide +kernel) rfl, tw_mem 1189 (by decide +kernel) rfl, tw_mem 70 (by decide +kernel) rfl, tw_mem 1190 (by decide +kernel) rfl, by decide, by decide, by decide⟩
theorem lk_Lw_141 : LkV R_Lw 141 y_Mo_seed c_Mo_seed 3 (some .int) 9 1 := ⟨by decide, rfl, by decide, tw_mem 1337 (by decide +kernel) rfl, tw_mem 1338 (by decide +kernel) rfl, tw_mem 1339 (by decide +kernel) rfl, tw_mem 70 (by decide +kernel) rfl, tw_mem 1340 (by decide +kernel) rfl, by decide, by decide, by decide⟩
theorem lk_Lw_145 : LkV R_Lw 145 y_Mo_keep c_Mo_keep 4 (some .int) 9 1 := ⟨by decide, rfl, by decide, tw_mem 1341 (by decide +kernel) rfl, tw_mem 1342 (by decide +kernel) rfl, tw_mem 1343 (by decide +kernel) rfl, tw_mem 70 (by decide +kernel) rfl, tw_mem 1344 (by decide +kernel) rfl, by decide, by decide, by decide⟩
theorem lk_Lw_149 : LkV R_Lw 149 y_Mo_goBack c_Mo_goBack 4 (some .int) 9 1 := ⟨by decide, rfl, by decide, tw_mem 1345 (by decide +kernel) rfl, tw_mem 1346 (by decide +kernel) rfl, tw_mem 1347 (by decide +kernel) rfl, tw_mem 70 (by decide +kernel) rfl, tw_mem 1348 (by decide +kernel) rfl, by decide, by decide, by decide⟩
theorem lk_Mk_47 : LkS R_Mk 47 y_Uc_placesTied c_Uc_placesTied 4 (some .boolean) 4 := ⟨Or.inr ⟨"UnlikeCounts", ntw_mem 698 (by decide +kernel) rfl⟩, by decide, tw_mem 663 (by decide +kernel) rfl, tw_mem 61 (by decide +kernel) rfl, tw_mem 664 (by decide +kernel) rfl, by decide, by decide, by decide⟩
end
