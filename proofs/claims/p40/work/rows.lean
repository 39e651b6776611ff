section
-- ===== PART A: goes FIRST, ahead of the names: the tables' words, and 'selects' of the private methods out of them =====
/-- a private method of a class that the tables say can be made, by its rows of tables_1 -/
def lw_okq (q : MethodName × Nat) : Prop := (q.1.cls ≠ "java/lang/invoke/MethodHandle" ∧ q.1.cls ≠ "java/lang/invoke/VarHandle") ∧ Cond.instantiable q.1.cls q.2 ∈ tables_1 ∧ Cond.privateMethod q.1 ∈ tables_1 ∧ Cond.instanceMethod q.1 ∈ tables_1
theorem lw_p0 : lw_okq (⟨"Collationer$Tailoring", "addItem", "(II)V"⟩, 11) := ⟨⟨by decide +kernel, by decide +kernel⟩, List.mem_of_getElem? (i := 64) (by decide +kernel), List.mem_of_getElem? (i := 72) (by decide +kernel), List.mem_of_getElem? (i := 73) (by decide +kernel)⟩
theorem lw_p1 : lw_okq (⟨"Collationer$Tailoring", "weigh", "()V"⟩, 11) := ⟨⟨by decide +kernel, by decide +kernel⟩, List.mem_of_getElem? (i := 64) (by decide +kernel), List.mem_of_getElem? (i := 83) (by decide +kernel), List.mem_of_getElem? (i := 84) (by decide +kernel)⟩
theorem lw_p2 : lw_okq (⟨"java/lang/Throwable", "fillInStackTrace", "(I)Ljava/lang/Throwable;"⟩, 6) := ⟨⟨by decide +kernel, by decide +kernel⟩, List.mem_of_getElem? (i := 413) (by decide +kernel), List.mem_of_getElem? (i := 411) (by decide +kernel), List.mem_of_getElem? (i := 412) (by decide +kernel)⟩
theorem lw_p3 : lw_okq (⟨"Collationer", "orderOf", "(I)LCollationer$Row;"⟩, 20) := ⟨⟨by decide +kernel, by decide +kernel⟩, List.mem_of_getElem? (i := 21) (by decide +kernel), List.mem_of_getElem? (i := 443) (by decide +kernel), List.mem_of_getElem? (i := 444) (by decide +kernel)⟩
theorem lw_p4 : lw_okq (⟨"Collationer", "indexNumbered", "(I)LCollationer$Index;"⟩, 20) := ⟨⟨by decide +kernel, by decide +kernel⟩, List.mem_of_getElem? (i := 21) (by decide +kernel), List.mem_of_getElem? (i := 447) (by decide +kernel), List.mem_of_getElem? (i := 448) (by decide +kernel)⟩
theorem lw_p5 : lw_okq (⟨"Collationer", "entryNumbered", "(I)LCollationer$Entry;"⟩, 20) := ⟨⟨by decide +kernel, by decide +kernel⟩, List.mem_of_getElem? (i := 21) (by decide +kernel), List.mem_of_getElem? (i := 464) (by decide +kernel), List.mem_of_getElem? (i := 465) (by decide +kernel)⟩
theorem lw_p6 : lw_okq (⟨"Collationer", "putForm", "(LCollationer$Entry;LCollationer$Row;)V"⟩, 20) := ⟨⟨by decide +kernel, by decide +kernel⟩, List.mem_of_getElem? (i := 21) (by decide +kernel), List.mem_of_getElem? (i := 468) (by decide +kernel), List.mem_of_getElem? (i := 469) (by decide +kernel)⟩
theorem lw_p7 : lw_okq (⟨"Collationer", "textNumbered", "(I)LCollationer$Row;"⟩, 20) := ⟨⟨by decide +kernel, by decide +kernel⟩, List.mem_of_getElem? (i := 21) (by decide +kernel), List.mem_of_getElem? (i := 476) (by decide +kernel), List.mem_of_getElem? (i := 477) (by decide +kernel)⟩
theorem lw_p8 : lw_okq (⟨"Collationer", "tailoringNumbered", "(I)LCollationer$Tailoring;"⟩, 20) := ⟨⟨by decide +kernel, by decide +kernel⟩, List.mem_of_getElem? (i := 21) (by decide +kernel), List.mem_of_getElem? (i := 496) (by decide +kernel), List.mem_of_getElem? (i := 497) (by decide +kernel)⟩
theorem lw_p9 : lw_okq (⟨"Collationer", "keyNumbered", "(I)LCollationer$Row;"⟩, 20) := ⟨⟨by decide +kernel, by decide +kernel⟩, List.mem_of_getElem? (i := 21) (by decide +kernel), List.mem_of_getElem? (i := 500) (by decide +kernel), List.mem_of_getElem? (i := 501) (by decide +kernel)⟩
theorem lw_p10 : lw_okq (⟨"Collationer$Elements", "begin", "(I)V"⟩, 6) := ⟨⟨by decide +kernel, by decide +kernel⟩, List.mem_of_getElem? (i := 177) (by decide +kernel), List.mem_of_getElem? (i := 513) (by decide +kernel), List.mem_of_getElem? (i := 514) (by decide +kernel)⟩
theorem lw_p11 : lw_okq (⟨"Collationer$Elements", "putMark", "(II)V"⟩, 6) := ⟨⟨by decide +kernel, by decide +kernel⟩, List.mem_of_getElem? (i := 177) (by decide +kernel), List.mem_of_getElem? (i := 523) (by decide +kernel), List.mem_of_getElem? (i := 524) (by decide +kernel)⟩
theorem lw_p12 : lw_okq (⟨"Collationer$Elements", "take", "(III)V"⟩, 6) := ⟨⟨by decide +kernel, by decide +kernel⟩, List.mem_of_getElem? (i := 177) (by decide +kernel), List.mem_of_getElem? (i := 527) (by decide +kernel), List.mem_of_getElem? (i := 528) (by decide +kernel)⟩
theorem lw_p13 : lw_okq (⟨"Collationer$Elements", "putNumber", "(LCollationer$Tailoring;LCollationer$Row;I)V"⟩, 6) := ⟨⟨by decide +kernel, by decide +kernel⟩, List.mem_of_getElem? (i := 177) (by decide +kernel), List.mem_of_getElem? (i := 546) (by decide +kernel), List.mem_of_getElem? (i := 547) (by decide +kernel)⟩
theorem lw_p14 : lw_okq (⟨"Collationer$Elements", "putItem", "(LCollationer$Tailoring;LCollationer$Row;I)V"⟩, 6) := ⟨⟨by decide +kernel, by decide +kernel⟩, List.mem_of_getElem? (i := 177) (by decide +kernel), List.mem_of_getElem? (i := 560) (by decide +kernel), List.mem_of_getElem? (i := 561) (by decide +kernel)⟩
theorem lw_p15 : lw_okq (⟨"Collationer$Elements", "takeMarks", "(LCollationer$Tailoring;LCollationer$Row;II)I"⟩, 6) := ⟨⟨by decide +kernel, by decide +kernel⟩, List.mem_of_getElem? (i := 177) (by decide +kernel), List.mem_of_getElem? (i := 575) (by decide +kernel), List.mem_of_getElem? (i := 576) (by decide +kernel)⟩
def lw_privs_1 : List (MethodName × Nat) := [(⟨"Collationer$Tailoring", "addItem", "(II)V"⟩, 11), (⟨"Collationer$Tailoring", "weigh", "()V"⟩, 11), (⟨"java/lang/Throwable", "fillInStackTrace", "(I)Ljava/lang/Throwable;"⟩, 6), (⟨"Collationer", "orderOf", "(I)LCollationer$Row;"⟩, 20), (⟨"Collationer", "indexNumbered", "(I)LCollationer$Index;"⟩, 20), (⟨"Collationer", "entryNumbered", "(I)LCollationer$Entry;"⟩, 20), (⟨"Collationer", "putForm", "(LCollationer$Entry;LCollationer$Row;)V"⟩, 20), (⟨"Collationer", "textNumbered", "(I)LCollationer$Row;"⟩, 20), (⟨"Collationer", "tailoringNumbered", "(I)LCollationer$Tailoring;"⟩, 20), (⟨"Collationer", "keyNumbered", "(I)LCollationer$Row;"⟩, 20), (⟨"Collationer$Elements", "begin", "(I)V"⟩, 6), (⟨"Collationer$Elements", "putMark", "(II)V"⟩, 6), (⟨"Collationer$Elements", "take", "(III)V"⟩, 6), (⟨"Collationer$Elements", "putNumber", "(LCollationer$Tailoring;LCollationer$Row;I)V"⟩, 6), (⟨"Collationer$Elements", "putItem", "(LCollationer$Tailoring;LCollationer$Row;I)V"⟩, 6), (⟨"Collationer$Elements", "takeMarks", "(LCollationer$Tailoring;LCollationer$Row;II)I"⟩, 6)]
theorem lw_r1 : ∀ q ∈ lw_privs_1, lw_okq q := List.forall_mem_cons.mpr ⟨lw_p0, List.forall_mem_cons.mpr ⟨lw_p1, List.forall_mem_cons.mpr ⟨lw_p2, List.forall_mem_cons.mpr ⟨lw_p3, List.forall_mem_cons.mpr ⟨lw_p4, List.forall_mem_cons.mpr ⟨lw_p5, List.forall_mem_cons.mpr ⟨lw_p6, List.forall_mem_cons.mpr ⟨lw_p7, List.forall_mem_cons.mpr ⟨lw_p8, List.forall_mem_cons.mpr ⟨lw_p9, List.forall_mem_cons.mpr ⟨lw_p10, List.forall_mem_cons.mpr ⟨lw_p11, List.forall_mem_cons.mpr ⟨lw_p12, List.forall_mem_cons.mpr ⟨lw_p13, List.forall_mem_cons.mpr ⟨lw_p14, List.forall_mem_cons.mpr ⟨lw_p15, fun _ h => absurd h List.not_mem_nil⟩⟩⟩⟩⟩⟩⟩⟩⟩⟩⟩⟩⟩⟩⟩⟩
theorem lw_p16 : lw_okq (⟨"Collationer$Elements", "lastWeight", "(ZI)I"⟩, 6) := ⟨⟨by decide +kernel, by decide +kernel⟩, List.mem_of_getElem? (i := 177) (by decide +kernel), List.mem_of_getElem? (i := 603) (by decide +kernel), List.mem_of_getElem? (i := 604) (by decide +kernel)⟩
theorem lw_p17 : lw_okq (⟨"Collationer$Elements", "weightOn", "(IZI)I"⟩, 6) := ⟨⟨by decide +kernel, by decide +kernel⟩, List.mem_of_getElem? (i := 177) (by decide +kernel), List.mem_of_getElem? (i := 607) (by decide +kernel), List.mem_of_getElem? (i := 608) (by decide +kernel)⟩
theorem lw_p18 : lw_okq (⟨"Collationer", "insertByKey", "(LCollationer$Row;II)V"⟩, 20) := ⟨⟨by decide +kernel, by decide +kernel⟩, List.mem_of_getElem? (i := 21) (by decide +kernel), List.mem_of_getElem? (i := 639) (by decide +kernel), List.mem_of_getElem? (i := 640) (by decide +kernel)⟩
theorem lw_p19 : lw_okq (⟨"Collationer", "putSubEntries", "(ILCollationer$Row;)V"⟩, 20) := ⟨⟨by decide +kernel, by decide +kernel⟩, List.mem_of_getElem? (i := 21) (by decide +kernel), List.mem_of_getElem? (i := 656) (by decide +kernel), List.mem_of_getElem? (i := 657) (by decide +kernel)⟩
theorem lw_p20 : lw_okq (⟨"Collationer", "hasText", "(I)Z"⟩, 20) := ⟨⟨by decide +kernel, by decide +kernel⟩, List.mem_of_getElem? (i := 21) (by decide +kernel), List.mem_of_getElem? (i := 688) (by decide +kernel), List.mem_of_getElem? (i := 689) (by decide +kernel)⟩
theorem lw_p21 : lw_okq (⟨"Collationer", "hasEntry", "(I)Z"⟩, 20) := ⟨⟨by decide +kernel, by decide +kernel⟩, List.mem_of_getElem? (i := 21) (by decide +kernel), List.mem_of_getElem? (i := 763) (by decide +kernel), List.mem_of_getElem? (i := 764) (by decide +kernel)⟩
theorem lw_p22 : lw_okq (⟨"Collationer", "endOfReferences", "(I)I"⟩, 20) := ⟨⟨by decide +kernel, by decide +kernel⟩, List.mem_of_getElem? (i := 21) (by decide +kernel), List.mem_of_getElem? (i := 768) (by decide +kernel), List.mem_of_getElem? (i := 769) (by decide +kernel)⟩
theorem lw_p23 : lw_okq (⟨"Collationer", "isLocated", "(I)Z"⟩, 20) := ⟨⟨by decide +kernel, by decide +kernel⟩, List.mem_of_getElem? (i := 21) (by decide +kernel), List.mem_of_getElem? (i := 772) (by decide +kernel), List.mem_of_getElem? (i := 773) (by decide +kernel)⟩
theorem lw_p24 : lw_okq (⟨"Collationer", "referencesTo", "(I)I"⟩, 20) := ⟨⟨by decide +kernel, by decide +kernel⟩, List.mem_of_getElem? (i := 21) (by decide +kernel), List.mem_of_getElem? (i := 792) (by decide +kernel), List.mem_of_getElem? (i := 793) (by decide +kernel)⟩
theorem lw_p25 : lw_okq (⟨"Collationer", "isThere", "(I)Z"⟩, 20) := ⟨⟨by decide +kernel, by decide +kernel⟩, List.mem_of_getElem? (i := 21) (by decide +kernel), List.mem_of_getElem? (i := 822) (by decide +kernel), List.mem_of_getElem? (i := 823) (by decide +kernel)⟩
theorem lw_p26 : lw_okq (⟨"Collationer$Compositions", "baseOf", "(I)I"⟩, 3) := ⟨⟨by decide +kernel, by decide +kernel⟩, List.mem_of_getElem? (i := 29) (by decide +kernel), List.mem_of_getElem? (i := 830) (by decide +kernel), List.mem_of_getElem? (i := 831) (by decide +kernel)⟩
theorem lw_p27 : lw_okq (⟨"Collationer$Compositions", "putApart", "(ILCollationer$Row;)V"⟩, 3) := ⟨⟨by decide +kernel, by decide +kernel⟩, List.mem_of_getElem? (i := 29) (by decide +kernel), List.mem_of_getElem? (i := 873) (by decide +kernel), List.mem_of_getElem? (i := 874) (by decide +kernel)⟩
theorem lw_p28 : lw_okq (⟨"Collationer$Compositions", "markOf", "(I)I"⟩, 3) := ⟨⟨by decide +kernel, by decide +kernel⟩, List.mem_of_getElem? (i := 29) (by decide +kernel), List.mem_of_getElem? (i := 879) (by decide +kernel), List.mem_of_getElem? (i := 880) (by decide +kernel)⟩
theorem lw_p29 : lw_okq (⟨"Collationer$Tailoring", "canSortAs", "(II)Z"⟩, 11) := ⟨⟨by decide +kernel, by decide +kernel⟩, List.mem_of_getElem? (i := 64) (by decide +kernel), List.mem_of_getElem? (i := 904) (by decide +kernel), List.mem_of_getElem? (i := 905) (by decide +kernel)⟩
theorem lw_p30 : lw_okq (⟨"Collationer$Tailoring", "isOneOfSeveral", "(I)Z"⟩, 11) := ⟨⟨by decide +kernel, by decide +kernel⟩, List.mem_of_getElem? (i := 64) (by decide +kernel), List.mem_of_getElem? (i := 913) (by decide +kernel), List.mem_of_getElem? (i := 914) (by decide +kernel)⟩
theorem lw_p31 : lw_okq (⟨"Collationer$Tailoring", "leaveList", "(I)V"⟩, 11) := ⟨⟨by decide +kernel, by decide +kernel⟩, List.mem_of_getElem? (i := 64) (by decide +kernel), List.mem_of_getElem? (i := 922) (by decide +kernel), List.mem_of_getElem? (i := 923) (by decide +kernel)⟩
def lw_privs_2 : List (MethodName × Nat) := [(⟨"Collationer$Elements", "lastWeight", "(ZI)I"⟩, 6), (⟨"Collationer$Elements", "weightOn", "(IZI)I"⟩, 6), (⟨"Collationer", "insertByKey", "(LCollationer$Row;II)V"⟩, 20), (⟨"Collationer", "putSubEntries", "(ILCollationer$Row;)V"⟩, 20), (⟨"Collationer", "hasText", "(I)Z"⟩, 20), (⟨"Collationer", "hasEntry", "(I)Z"⟩, 20), (⟨"Collationer", "endOfReferences", "(I)I"⟩, 20), (⟨"Collationer", "isLocated", "(I)Z"⟩, 20), (⟨"Collationer", "referencesTo", "(I)I"⟩, 20), (⟨"Collationer", "isThere", "(I)Z"⟩, 20), (⟨"Collationer$Compositions", "baseOf", "(I)I"⟩, 3), (⟨"Collationer$Compositions", "putApart", "(ILCollationer$Row;)V"⟩, 3), (⟨"Collationer$Compositions", "markOf", "(I)I"⟩, 3), (⟨"Collationer$Tailoring", "canSortAs", "(II)Z"⟩, 11), (⟨"Collationer$Tailoring", "isOneOfSeveral", "(I)Z"⟩, 11), (⟨"Collationer$Tailoring", "leaveList", "(I)V"⟩, 11)]
theorem lw_r2 : ∀ q ∈ lw_privs_2, lw_okq q := List.forall_mem_cons.mpr ⟨lw_p16, List.forall_mem_cons.mpr ⟨lw_p17, List.forall_mem_cons.mpr ⟨lw_p18, List.forall_mem_cons.mpr ⟨lw_p19, List.forall_mem_cons.mpr ⟨lw_p20, List.forall_mem_cons.mpr ⟨lw_p21, List.forall_mem_cons.mpr ⟨lw_p22, List.forall_mem_cons.mpr ⟨lw_p23, List.forall_mem_cons.mpr ⟨lw_p24, List.forall_mem_cons.mpr ⟨lw_p25, List.forall_mem_cons.mpr ⟨lw_p26, List.forall_mem_cons.mpr ⟨lw_p27, List.forall_mem_cons.mpr ⟨lw_p28, List.forall_mem_cons.mpr ⟨lw_p29, List.forall_mem_cons.mpr ⟨lw_p30, List.forall_mem_cons.mpr ⟨lw_p31, fun _ h => absurd h List.not_mem_nil⟩⟩⟩⟩⟩⟩⟩⟩⟩⟩⟩⟩⟩⟩⟩⟩
theorem lw_p32 : lw_okq (⟨"Collationer$Tailoring", "leaveSeveral", "(I)V"⟩, 11) := ⟨⟨by decide +kernel, by decide +kernel⟩, List.mem_of_getElem? (i := 64) (by decide +kernel), List.mem_of_getElem? (i := 932) (by decide +kernel), List.mem_of_getElem? (i := 933) (by decide +kernel)⟩
theorem lw_p33 : lw_okq (⟨"Collationer$Tailoring", "putAhead", "(III)V"⟩, 11) := ⟨⟨by decide +kernel, by decide +kernel⟩, List.mem_of_getElem? (i := 64) (by decide +kernel), List.mem_of_getElem? (i := 936) (by decide +kernel), List.mem_of_getElem? (i := 937) (by decide +kernel)⟩
theorem lw_p34 : lw_okq (⟨"Collationer$Tailoring", "putBehind", "(III)V"⟩, 11) := ⟨⟨by decide +kernel, by decide +kernel⟩, List.mem_of_getElem? (i := 64) (by decide +kernel), List.mem_of_getElem? (i := 941) (by decide +kernel), List.mem_of_getElem? (i := 942) (by decide +kernel)⟩
theorem lw_p35 : lw_okq (⟨"Collationer", "forgetOrders", "()V"⟩, 20) := ⟨⟨by decide +kernel, by decide +kernel⟩, List.mem_of_getElem? (i := 21) (by decide +kernel), List.mem_of_getElem? (i := 960) (by decide +kernel), List.mem_of_getElem? (i := 961) (by decide +kernel)⟩
theorem lw_p36 : lw_okq (⟨"Collationer", "orderLines", "(IZ)V"⟩, 20) := ⟨⟨by decide +kernel, by decide +kernel⟩, List.mem_of_getElem? (i := 21) (by decide +kernel), List.mem_of_getElem? (i := 1046) (by decide +kernel), List.mem_of_getElem? (i := 1047) (by decide +kernel)⟩
theorem lw_p37 : lw_okq (⟨"Collationer", "insertByNeighbours", "(II)V"⟩, 20) := ⟨⟨by decide +kernel, by decide +kernel⟩, List.mem_of_getElem? (i := 21) (by decide +kernel), List.mem_of_getElem? (i := 1051) (by decide +kernel), List.mem_of_getElem? (i := 1052) (by decide +kernel)⟩
theorem lw_p38 : lw_okq (⟨"Collationer", "compareNeighbours", "(III)I"⟩, 20) := ⟨⟨by decide +kernel, by decide +kernel⟩, List.mem_of_getElem? (i := 21) (by decide +kernel), List.mem_of_getElem? (i := 1055) (by decide +kernel), List.mem_of_getElem? (i := 1056) (by decide +kernel)⟩
theorem lw_p39 : lw_okq (⟨"Collationer", "compareWords", "(II)I"⟩, 20) := ⟨⟨by decide +kernel, by decide +kernel⟩, List.mem_of_getElem? (i := 21) (by decide +kernel), List.mem_of_getElem? (i := 1059) (by decide +kernel), List.mem_of_getElem? (i := 1060) (by decide +kernel)⟩
theorem lw_p40 : lw_okq (⟨"Collationer", "isInIndex", "(II)Z"⟩, 20) := ⟨⟨by decide +kernel, by decide +kernel⟩, List.mem_of_getElem? (i := 21) (by decide +kernel), List.mem_of_getElem? (i := 1091) (by decide +kernel), List.mem_of_getElem? (i := 1092) (by decide +kernel)⟩
theorem lw_p41 : lw_okq (⟨"Collationer", "lineInColumns", "(ILCollationer$Row;I)I"⟩, 20) := ⟨⟨by decide +kernel, by decide +kernel⟩, List.mem_of_getElem? (i := 21) (by decide +kernel), List.mem_of_getElem? (i := 1096) (by decide +kernel), List.mem_of_getElem? (i := 1097) (by decide +kernel)⟩
theorem lw_p42 : lw_okq (⟨"Collationer", "headingAbove", "(II)I"⟩, 20) := ⟨⟨by decide +kernel, by decide +kernel⟩, List.mem_of_getElem? (i := 21) (by decide +kernel), List.mem_of_getElem? (i := 1100) (by decide +kernel), List.mem_of_getElem? (i := 1101) (by decide +kernel)⟩
theorem lw_p43 : lw_okq (⟨"Collationer", "headingFor", "(LCollationer$Tailoring;I)I"⟩, 20) := ⟨⟨by decide +kernel, by decide +kernel⟩, List.mem_of_getElem? (i := 21) (by decide +kernel), List.mem_of_getElem? (i := 1109) (by decide +kernel), List.mem_of_getElem? (i := 1110) (by decide +kernel)⟩
theorem lw_p44 : lw_okq (⟨"Collationer", "linesOf", "(LCollationer$Entry;)I"⟩, 20) := ⟨⟨by decide +kernel, by decide +kernel⟩, List.mem_of_getElem? (i := 21) (by decide +kernel), List.mem_of_getElem? (i := 1122) (by decide +kernel), List.mem_of_getElem? (i := 1123) (by decide +kernel)⟩
theorem lw_p45 : lw_okq (⟨"Collationer$Groups", "addPage", "(II)V"⟩, 3) := ⟨⟨by decide +kernel, by decide +kernel⟩, List.mem_of_getElem? (i := 228) (by decide +kernel), List.mem_of_getElem? (i := 1145) (by decide +kernel), List.mem_of_getElem? (i := 1146) (by decide +kernel)⟩
theorem lw_p46 : lw_okq (⟨"Collationer$Groups", "joinFrom", "(I)V"⟩, 3) := ⟨⟨by decide +kernel, by decide +kernel⟩, List.mem_of_getElem? (i := 228) (by decide +kernel), List.mem_of_getElem? (i := 1151) (by decide +kernel), List.mem_of_getElem? (i := 1152) (by decide +kernel)⟩
theorem lw_p47 : lw_okq (⟨"Collationer", "needsNewColumn", "(IIZZ)Z"⟩, 20) := ⟨⟨by decide +kernel, by decide +kernel⟩, List.mem_of_getElem? (i := 21) (by decide +kernel), List.mem_of_getElem? (i := 1171) (by decide +kernel), List.mem_of_getElem? (i := 1172) (by decide +kernel)⟩
def lw_privs_3 : List (MethodName × Nat) := [(⟨"Collationer$Tailoring", "leaveSeveral", "(I)V"⟩, 11), (⟨"Collationer$Tailoring", "putAhead", "(III)V"⟩, 11), (⟨"Collationer$Tailoring", "putBehind", "(III)V"⟩, 11), (⟨"Collationer", "forgetOrders", "()V"⟩, 20), (⟨"Collationer", "orderLines", "(IZ)V"⟩, 20), (⟨"Collationer", "insertByNeighbours", "(II)V"⟩, 20), (⟨"Collationer", "compareNeighbours", "(III)I"⟩, 20), (⟨"Collationer", "compareWords", "(II)I"⟩, 20), (⟨"Collationer", "isInIndex", "(II)Z"⟩, 20), (⟨"Collationer", "lineInColumns", "(ILCollationer$Row;I)I"⟩, 20), (⟨"Collationer", "headingAbove", "(II)I"⟩, 20), (⟨"Collationer", "headingFor", "(LCollationer$Tailoring;I)I"⟩, 20), (⟨"Collationer", "linesOf", "(LCollationer$Entry;)I"⟩, 20), (⟨"Collationer$Groups", "addPage", "(II)V"⟩, 3), (⟨"Collationer$Groups", "joinFrom", "(I)V"⟩, 3), (⟨"Collationer", "needsNewColumn", "(IIZZ)Z"⟩, 20)]
theorem lw_r3 : ∀ q ∈ lw_privs_3, lw_okq q := List.forall_mem_cons.mpr ⟨lw_p32, List.forall_mem_cons.mpr ⟨lw_p33, List.forall_mem_cons.mpr ⟨lw_p34, List.forall_mem_cons.mpr ⟨lw_p35, List.forall_mem_cons.mpr ⟨lw_p36, List.forall_mem_cons.mpr ⟨lw_p37, List.forall_mem_cons.mpr ⟨lw_p38, List.forall_mem_cons.mpr ⟨lw_p39, List.forall_mem_cons.mpr ⟨lw_p40, List.forall_mem_cons.mpr ⟨lw_p41, List.forall_mem_cons.mpr ⟨lw_p42, List.forall_mem_cons.mpr ⟨lw_p43, List.forall_mem_cons.mpr ⟨lw_p44, List.forall_mem_cons.mpr ⟨lw_p45, List.forall_mem_cons.mpr ⟨lw_p46, List.forall_mem_cons.mpr ⟨lw_p47, fun _ h => absurd h List.not_mem_nil⟩⟩⟩⟩⟩⟩⟩⟩⟩⟩⟩⟩⟩⟩⟩⟩
def lw_privs : List (MethodName × Nat) := lw_privs_1 ++ (lw_privs_2 ++ (lw_privs_3))
def lw_tbl : List Cond := k2_sels lw_privs ++ tables_1
theorem lw_privs_ok : ∀ q ∈ lw_privs, lw_okq q := by
  show ∀ q ∈ lw_privs_1 ++ (lw_privs_2 ++ (lw_privs_3)), lw_okq q
  exact List.forall_mem_append.mpr ⟨lw_r1, List.forall_mem_append.mpr ⟨lw_r2, lw_r3⟩⟩
/-! ===== BEGIN words of one list among another's, by their places ===== -/
theorem goodIn_r {big : List Cond} (ws : List Cond) (ps : List Nat) (hp : ws = ps.filterMap (fun i => big[i]?)) (h : ws.all goodWord = true) : GoodIn big ws := by
  intro w hw
  have h1 := List.all_eq_true.mp h w hw
  rw [hp] at hw
  obtain ⟨i, -, hi⟩ := List.mem_filterMap.mp hw
  have hm : w ∈ big := by first | exact List.mem_of_getElem? hi | exact List.getElem?_mem hi
  exact ⟨hm, good_of_word h1⟩
theorem goodIn_app {big a b : List Cond} (ha : GoodIn big a) (hb : GoodIn big b) : GoodIn big (a ++ b) := fun w h => (List.mem_append.mp h).elim (ha w) (hb w)
theorem goodIn_ca {big a b : List Cond} {c : Cond} (ha : GoodIn big (c :: a)) (hb : GoodIn big b) : GoodIn big (c :: (a ++ b)) := fun w h => (List.mem_cons.mp h).elim (fun e => ha w (List.mem_cons.mpr (Or.inl e))) (fun h => (List.mem_append.mp h).elim (fun h => ha w (List.mem_cons.mpr (Or.inr h))) (hb w))
theorem goodIn_sub {big ws : List Cond} (hm : ∀ w ∈ ws, w ∈ big) (h : ws.all goodWord = true) : GoodIn big ws := fun w hw => ⟨hm w hw, good_of_word (List.all_eq_true.mp h w hw)⟩
/-! ===== END ===== -/

/-! ===== BEGIN exceptions that leave a method, and their catching by the caller (launches without stack traces) ===== -/
section VXA
/-! The laws vx_back, vx_callV, vx_callS, vx_callSW, vx_throw0, vx_throwS follow proofs of the library, with one case more: JvmDerived/Free/Laws.lean (Back.of_free), Shelf42/LK1.lean (callV, callS), Shelf/KitTraced.lean (throwNew0V, throwNewS). -/
/-- where a method has thrown q: the class by its name, the cell, what was written, the world -/
def vx_T (XC : String → State → State → Prop) (st : State) (q : Addr) (t : State) (mc ms : Nat) (free : Addr → Prop) : Prop :=
  ∃ (E : String) (ce : Cell) (L : List Loc), XC E st t ∧ t.heap[q]? = some ce ∧ ce.vm = .none ∧ st.vm.findClass E = some ce.cls ∧ st.WarmedH t.vm ∧ st.sameButNew ({ t with vm := st.vm } : State) L mc ms ∧ ∀ z ∈ L, free z.base
def vx_Q (Qc : Array Value → State → Outcome → State → Prop) (XC : String → State → State → Prop) (mc ms : Nat) (free : Addr → Prop) : Array Value → State → Outcome → State → Prop := fun a st o t =>
  (Qc a st o t ∧ ∃ L, FrameEnd st o t L mc ms ∧ ∀ q ∈ L, free q.base) ∨ ∃ q, o = .threw q ∧ vx_T XC st q t mc ms free
/-- a callee that returns or throws -/
def vx_Met (l : Launch) (y : MethodName) (ws : List Cond) (rm : Room) (Pc : Array Value → State → Prop) (Qc : Array Value → State → Outcome → State → Prop) (XC : String → State → State → Prop) (mc ms : Nat) (free : Addr → Prop) : Prop :=
  MetFree l y (headSpec ws rm) Pc (fun _ _ _ _ _ => True) (vx_Q Qc XC mc ms free)
def vx_Post (XC : String → State → State → Prop) (mc ms : Nat) (free : Addr → Prop) : Pt → Array Value → Addr → Pt → Prop := fun A a q B =>
  ∃ (g : JFrame) (mk : MethodId) (t : State) (L : List Loc) (E : String) (ce : Cell), B.U.heap = t.heap ∧ B.U.vm = t.vm ∧ XC E (A.U.calling g mk a) t ∧ t.heap[q]? = some ce ∧ ce.vm = .none ∧ A.U.vm.findClass E = some ce.cls ∧ B.locs = A.locs ++ L ∧ (∀ z ∈ L, free z.base) ∧ B.cells = A.cells + mc ∧ B.slots = A.slots + ms
def vx_Back (l : Launch) (R : Room) (p : Program) (e : Env) (below : List Frame) (s : State) (sargs : Array Value) (y : MethodName) (len W9 : Nat)
    (Pre : Pt → Array Value → Prop) (Post : Pt → Array Value → Option Value → Pt → Prop) (PostX : Pt → Array Value → Addr → Pt → Prop) : Prop :=
  ∀ (m : MethodId) (meth : Method) (c : Code) (A : Pt) (g : JFrame) (ig : Instr) (mk : MethodId) (a : Array Value),
    Stand p l e R s m sargs below meth c A.U A.locs A.cells A.slots → g.method = m → g.locals.size = c.maxLocals → decode c.code g.pc = .ok (ig, len) →
    2 * g.monitorRoom + (g.stack.map fun v => v.category).sum ≤ W9 → A.U.methodNamed? y = some mk → Pre A a →
    (∃ (v : Option Value) (B : Pt), Stand p l e R s m sargs below meth c B.U B.locs B.cells B.slots ∧ Post A a v B ∧
      Steps p.tables e below (doInvoke e (A.U.setTop g) [] mk a).1 (B.U.setTop { g with pc := g.pc + len, stack := v.toList ++ g.stack })) ∨
    (∃ (q : Addr) (B : Pt), Stand p l e R s m sargs below meth c B.U B.locs B.cells B.slots ∧ PostX A a q B ∧
      Steps p.tables e below (doInvoke e (A.U.setTop g) [] mk a).1 ((B.U.setTop g).pushFrame (.throwing q)))
section Payer
variable {l : Launch} {R : Room} {p : Program} {e : Env} {below : List Frame} {s : State} {sargs : Array Value} {y : MethodName} {len W9 : Nat}
theorem vx_back {ws : List Cond} {rm : Room} {Pc : Array Value → State → Prop} {Qc : Array Value → State → Outcome → State → Prop} {XC : String → State → State → Prop} {mc ms : Nat} {free : Addr → Prop} {bytes : ByteArray} {maxL : Nat} {ret : Option FieldType}
    (hM : vx_Met l y ws rm Pc Qc XC mc ms free) (hblind : FrameBlind Pc) (hrc : rm.cells = mc) (hrs : rm.slots = ms)
    (hframes : rm.frames + 1 ≤ R.frames) (hlocals : W9 + (maxL + 11) + rm.locals ≤ R.locals)
    (hws : ∀ w ∈ ws, ∀ a' U, s.WarmedH U.vm → w.before a' U = true) (hcode : Cond.code y bytes maxL ret ∈ ws) (hinit : ∀ a' U, s.WarmedH U.vm → (Cond.initialized y.cls).before a' U = true) :
    vx_Back l R p e below s sargs y len W9 (PreOf R mc ms Pc) (PostOf Qc mc ms free) (vx_Post XC mc ms free) := by
  intro m meth c A g ig mk a X hg hsize hdg hW hn hp
  have h1 : (headSpec ws rm).pre.before a A.U = true := atoms_intro fun w hw => hws w hw _ _ X.warmed
  have h2 : (Cond.code y bytes maxL ret).before a A.U = true := hws _ hcode _ _ X.warmed
  have h3 : (Cond.initialized y.cls).before a A.U = true := hinit _ _ X.warmed
  have h4 : A.cells + (headSpec ws rm).room.cells ≤ R.cells := by rw [show (headSpec ws rm).room.cells = mc from hrc]; exact hp.1
  have h5 : A.slots + (headSpec ws rm).room.slots ≤ R.slots := by rw [show (headSpec ws rm).room.slots = ms from hrs]; exact hp.2.1
  have hPc : Pc a (A.U.calling g mk a) := hblind _ _ _ _ hp.2.2
  obtain ⟨U, Ls, c0, s0⟩ := A
  dsimp only [Pt.U, Pt.locs, Pt.cells, Pt.slots] at h1 h2 h3 h4 h5 X hn hPc ⊢
  obtain ⟨methY, cY, hmY, hcY, -, hlY, -, -, -, -⟩ := Cond.code_spec hn h2
  obtain ⟨kY, hkY, -⟩ := className_of_methodNamed hn
  have hinitY : kY.init = .initialized := Cond.initialized_spec (findClass_of_methodNamed hn) hkY h3
  have h : At U g.method c below := by rw [hg]; exact X.here
  have hlocals9 : W9 + (maxL + 11) + (headSpec ws rm).room.locals ≤ R.locals := hlocals
  have happ : (headSpec ws rm).appliesLoose y e.platform (U.calling g mk a) = true :=
    Spec.appliesLoose_calling (g := g) h hdg hn hkY hinitY
      (X.room_calling (g := g) (R' := (headSpec ws rm).room) hsize hmY hcY hframes (by rw [hlY]; omega) h4 h5) h1
  obtain ⟨mid, hmid⟩ := h.above
  have hfr : (U.setTop g).frames = (.java g :: mid) ++ below := by rw [State.frames_setTop' g h.top, hmid]; rfl
  obtain ⟨o, s₂, hsteps, -, hend, hq⟩ := Steps.callFree hM p X.admits X.cas X.clock (acts := []) hfr happ hPc trivial
  have hq' : vx_Q Qc XC mc ms free a (U.calling g mk a) o s₂ := hq
  rw [State.frames_setTop' g h.top] at hend
  obtain ⟨g₀, hg0⟩ := Option.isSome_iff_exists.mp h.top
  obtain ⟨r, hr⟩ := State.topJava?_eq_some.mp hg0
  have hr' : (({ U with heap := s₂.heap, slotsUsed := s₂.slotsUsed } : State).setVm s₂.vm).frames = .java g₀ :: r := hr
  rcases hq' with ⟨hqc, L, hfe, hL⟩ | ⟨q, rfl, E, ce, L, hx, hce, hcv, hcl, hW₂, hsm, hL⟩
  · obtain ⟨⟨v, rfl⟩, hW₂, e2, q2, q3, q4, q5, q6⟩ := id hfe
    have e3 : s₂ = ({ (U.calling g mk a).setFrames s₂.frames with heap := s₂.heap, slotsUsed := s₂.slotsUsed } : State).setVm s₂.vm := by
      have : s₂ = ({ s₂ with vm := (U.calling g mk a).vm } : State).setVm s₂.vm := rfl
      rw [e2] at this
      exact this
    obtain ⟨c₂, i₂, len₂, hc₂, hd₂, hf₂⟩ := hend
    have hW' : U.WarmedH s₂.vm := hW₂
    have hcc : c₂ = c := by
      have h1 : s₂.code? g.method = U.code? g.method := by
        rw [State.code?_eq, State.code?_eq, hW'.alike.method?]
      exact Option.some.inj (hc₂.symm.trans (h1.trans h.code))
    subst hcc
    have hlen : len₂ = len := by rw [hdg] at hd₂; cases hd₂; rfl
    subst hlen
    have hs₂ : s₂ = (({ U with heap := s₂.heap, slotsUsed := s₂.slotsUsed } : State).setVm s₂.vm).setTop { g with pc := g.pc + len₂, stack := v.toList ++ g.stack } := by
      refine e3.trans ?_
      rw [hf₂, State.calling_eq h.top, State.setFrames_setFrames, State.setTop_of_frames _ hr', hr]
      rfl
    have hsame : U.sameButNew ({ U with heap := s₂.heap, slotsUsed := s₂.slotsUsed } : State) L mc ms := by
      refine ⟨?_, q2, q3, q4, q5, q6⟩
      obtain ⟨t, ht, -⟩ := State.frames_cons hr
      show ({ U with heap := s₂.heap, slotsUsed := s₂.slotsUsed } : State) = { U.setFrames U.frames with heap := s₂.heap, slotsUsed := s₂.slotsUsed }
      rw [State.setFrames_self ht]
    subst hg
    refine Or.inl ⟨v, ⟨(({ U with heap := s₂.heap, slotsUsed := s₂.slotsUsed } : State).setVm s₂.vm), Ls ++ L, c0 + mc, s0 + ms⟩,
      ⟨X.admits, X.cas, X.clock, X.frames, X.room, X.hears, X.method, X.code, (X.here.setHeapUsed s₂.heap s₂.slotsUsed).setVm hW'.alike, X.tail, State.WarmedH.trans X.warmed hW', X.limits, X.bytes, X.same.trans (hsame.setVm s.vm)⟩,
      ⟨g, mk, s₂, L, rfl, rfl, hqc, rfl, hL, rfl, rfl⟩, ?_⟩
    show Steps p.tables e below _ ((({ U with heap := s₂.heap, slotsUsed := s₂.slotsUsed } : State).setVm s₂.vm).setTop { g with pc := g.pc + len₂, stack := v.toList ++ g.stack })
    rw [← hs₂]
    exact hsteps
  · obtain ⟨e2, q2, q3, q4, q5, q6⟩ := id hsm
    have e3 : s₂ = ({ (U.calling g mk a).setFrames s₂.frames with heap := s₂.heap, slotsUsed := s₂.slotsUsed } : State).setVm s₂.vm := by
      have : s₂ = ({ s₂ with vm := (U.calling g mk a).vm } : State).setVm s₂.vm := rfl
      rw [e2] at this
      exact this
    have hf₂ : s₂.frames = .throwing q :: .java g :: U.frames.tail := hend
    have hW' : U.WarmedH s₂.vm := hW₂
    have hs₂ : s₂ = ((({ U with heap := s₂.heap, slotsUsed := s₂.slotsUsed } : State).setVm s₂.vm).setTop g).pushFrame (.throwing q) := by
      refine e3.trans ?_
      rw [hf₂, State.calling_eq h.top, State.setFrames_setFrames, State.pushFrame, State.frames_setTop _ hr', State.setTop_of_frames _ hr', State.setFrames_setFrames, hr]
      rfl
    have hsame : U.sameButNew ({ U with heap := s₂.heap, slotsUsed := s₂.slotsUsed } : State) L mc ms := by
      refine ⟨?_, q2, q3, q4, q5, q6⟩
      obtain ⟨t, ht, -⟩ := State.frames_cons hr
      show ({ U with heap := s₂.heap, slotsUsed := s₂.slotsUsed } : State) = { U.setFrames U.frames with heap := s₂.heap, slotsUsed := s₂.slotsUsed }
      rw [State.setFrames_self ht]
    subst hg
    refine Or.inr ⟨q, ⟨(({ U with heap := s₂.heap, slotsUsed := s₂.slotsUsed } : State).setVm s₂.vm), Ls ++ L, c0 + mc, s0 + ms⟩,
      ⟨X.admits, X.cas, X.clock, X.frames, X.room, X.hears, X.method, X.code, (X.here.setHeapUsed s₂.heap s₂.slotsUsed).setVm hW'.alike, X.tail, State.WarmedH.trans X.warmed hW', X.limits, X.bytes, X.same.trans (hsame.setVm s.vm)⟩,
      ⟨g, mk, s₂, L, E, ce, rfl, rfl, hx, hce, hcv, hcl, rfl, hL, rfl, rfl⟩, ?_⟩
    show Steps p.tables e below _ (((({ U with heap := s₂.heap, slotsUsed := s₂.slotsUsed } : State).setVm s₂.vm).setTop g).pushFrame (.throwing q))
    rw [← hs₂]
    exact hsteps
end Payer
section Calls
variable {p : Program} {l : Launch} {e : Env} {R : Room} {s : State} {m : MethodId} {args : Array Value} {below : List Frame} {meth : Method} {c : Code} {T : State} {locs : List Loc} {cells slots : Nat}
theorem vx_callV (X : Stand p l e R s m args below meth c T locs cells slots) (hexec : p.tables.exec = Jvm.exec) {own C : String} {index : Nat} {y : MethodName} {bytes : ByteArray} {maxL : Nat} {ret : Option FieldType}
    (hown : s.vm.findClass own = some m.cls) (hlink : (Cond.methodLink own index y).before args s = true) (hinst : (Cond.instanceMethod y).before args s = true) (hsel : (Cond.selects C y y).before args s = true)
    (hcode : (Cond.code y bytes maxL ret).before args s = true) (hy : y.cls ≠ "java/lang/invoke/MethodHandle" ∧ y.cls ≠ "java/lang/invoke/VarHandle")
    {W9 : Nat} {Pre : Pt → Array Value → Prop} {Post : Pt → Array Value → Option Value → Pt → Prop} {PostX : Pt → Array Value → Addr → Pt → Prop} (hK : vx_Back l R p e below s args y 3 W9 Pre Post PostX)
    {b : Addr} {cellB : Cell} (hcell : T.heap[b]? = some cellB) (hobj : cellB.vm.isStatics = false) (hcls : s.vm.findClass C = some cellB.cls)
    {g : JFrame} (hg : g.method = m) (hsize : g.locals.size = c.maxLocals) {argsL rest : List Value} (hlen : ∀ sig, parseMethodDescriptor y.desc = some sig → argsL.length = sig.parameters.length)
    (hstack : g.stack = argsL.reverse ++ .ref b :: rest) (hW : 2 * g.monitorRoom + (rest.map fun v => v.category).sum ≤ W9) (hdg : decode c.code g.pc = .ok (.invokevirtual index, 3))
    (hpre : ∀ vm₁, s.WarmedH vm₁ → Pre ⟨T.setVm vm₁, locs, cells, slots⟩ (Value.ref b :: argsL).toArray) :
    (∃ (v : Option Value) (vm₁ : Vm) (B : Pt), s.WarmedH vm₁ ∧ Stand p l e R s m args below meth c B.U B.locs B.cells B.slots ∧ Post ⟨T.setVm vm₁, locs, cells, slots⟩ (Value.ref b :: argsL).toArray v B ∧
      ∀ target, Steps p.tables e below (B.U.setTop { g with pc := g.pc + 3, stack := v.toList ++ rest }) target → Steps p.tables e below (T.setTop g) target) ∨
    (∃ (q : Addr) (vm₁ : Vm) (B : Pt), s.WarmedH vm₁ ∧ Stand p l e R s m args below meth c B.U B.locs B.cells B.slots ∧ PostX ⟨T.setVm vm₁, locs, cells, slots⟩ (Value.ref b :: argsL).toArray q B ∧
      Steps p.tables e below (T.setTop g) ((B.U.setTop { g with stack := rest }).pushFrame (.throwing q))) := by
  obtain ⟨mk, methM, hnamed, hmethM, hstM, habM⟩ := Cond.instanceMethod_spec hinst
  obtain ⟨methM', cM, hmethM', -, -, -, -, -, -, hsigM⟩ := Cond.code_spec hnamed hcode
  cases hmethM.symm.trans hmethM'
  obtain ⟨c2, r2, m2, q1, q2, q3, q4, kP, hkP, hkPi⟩ := Cond.selects_spec hsel
  cases hcls.symm.trans q1
  cases (State.methodFound?_of_named hnamed hy).symm.trans q2
  cases hnamed.symm.trans q3
  have hselP : selectMethod e.platform s.vm cellB.cls mk = .method mk := by rw [Launch.admits_selectMethod X.admits]; exact q4
  obtain ⟨vm₁, X₁, hstep₁⟩ := X.invokevirtual hexec hown hlink hnamed hmethM hstM hkP hkPi hy (a := b) (cell := cellB) hcell
    (fun z h => by rw [h] at hobj; cases hobj) hselP hmethM habM hkP hkPi (g := g) hg (argsL := argsL) (rest := rest) (hlen _ hsigM) hstack hdg
  rcases hK m meth c ⟨T.setVm vm₁, locs, cells, slots⟩ { g with stack := rest } (.invokevirtual index) mk (Value.ref b :: argsL).toArray X₁ hg hsize hdg hW (X₁.named hnamed) (hpre vm₁ X₁.warmed) with ⟨v, B, X', hpost, hsteps⟩ | ⟨q, B, X', hpost, hsteps⟩
  · exact Or.inl ⟨v, vm₁, B, X₁.warmed, X', hpost, fun target h => hstep₁ _ fun acts => by rw [doInvoke_state]; exact hsteps.trans h⟩
  · exact Or.inr ⟨q, vm₁, B, X₁.warmed, X', hpost, hstep₁ _ fun acts => by rw [doInvoke_state]; exact hsteps⟩
theorem vx_callS (X : Stand p l e R s m args below meth c T locs cells slots) (hexec : p.tables.exec = Jvm.exec) {own : String} {index : Nat} {y : MethodName} {bytes : ByteArray} {maxL : Nat} {ret : Option FieldType}
    (hown : s.vm.findClass own = some m.cls) (hlink : (Cond.methodLink own index y).before args s = true) (hstat : (Cond.static y).before args s = true) (hinit : (Cond.initialized y.cls).before args s = true)
    (hcode : (Cond.code y bytes maxL ret).before args s = true) (hy : y.cls ≠ "java/lang/invoke/MethodHandle" ∧ y.cls ≠ "java/lang/invoke/VarHandle")
    {W9 : Nat} {Pre : Pt → Array Value → Prop} {Post : Pt → Array Value → Option Value → Pt → Prop} {PostX : Pt → Array Value → Addr → Pt → Prop} (hK : vx_Back l R p e below s args y 3 W9 Pre Post PostX)
    {g : JFrame} (hg : g.method = m) (hsize : g.locals.size = c.maxLocals) {argsL rest : List Value} (hlen : ∀ sig, parseMethodDescriptor y.desc = some sig → argsL.length = sig.parameters.length)
    (hstack : g.stack = argsL.reverse ++ rest) (hW : 2 * g.monitorRoom + (rest.map fun v => v.category).sum ≤ W9) (hdg : decode c.code g.pc = .ok (.invokestatic index, 3))
    (hpre : ∀ vm₁, s.WarmedH vm₁ → Pre ⟨T.setVm vm₁, locs, cells, slots⟩ argsL.toArray) :
    (∃ (v : Option Value) (vm₁ : Vm) (B : Pt), s.WarmedH vm₁ ∧ Stand p l e R s m args below meth c B.U B.locs B.cells B.slots ∧ Post ⟨T.setVm vm₁, locs, cells, slots⟩ argsL.toArray v B ∧
      ∀ target, Steps p.tables e below (B.U.setTop { g with pc := g.pc + 3, stack := v.toList ++ rest }) target → Steps p.tables e below (T.setTop g) target) ∨
    (∃ (q : Addr) (vm₁ : Vm) (B : Pt), s.WarmedH vm₁ ∧ Stand p l e R s m args below meth c B.U B.locs B.cells B.slots ∧ PostX ⟨T.setVm vm₁, locs, cells, slots⟩ argsL.toArray q B ∧
      Steps p.tables e below (T.setTop g) ((B.U.setTop { g with stack := rest }).pushFrame (.throwing q))) := by
  obtain ⟨mk, hnamed⟩ := Cond.code_named hcode
  obtain ⟨methM, cM, hmethM, -, -, -, -, -, -, hsigM⟩ := Cond.code_spec hnamed hcode
  have hstatic : methM.isStatic = true := Cond.static_spec hnamed hmethM hstat
  obtain ⟨kP, hkP, -⟩ := className_of_methodNamed hnamed
  have hinitP : kP.init = .initialized := Cond.initialized_spec (findClass_of_methodNamed hnamed) hkP hinit
  obtain ⟨vm₁, X₁, hstep₁⟩ := X.invokestatic hexec hown hlink hnamed hmethM hstatic hkP hinitP hy (g := g) hg (argsL := argsL) (rest := rest) (hlen _ hsigM) hstack hdg
  rcases hK m meth c ⟨T.setVm vm₁, locs, cells, slots⟩ { g with stack := rest } (.invokestatic index) mk argsL.toArray X₁ hg hsize hdg hW (X₁.named hnamed) (hpre vm₁ X₁.warmed) with ⟨v, B, X', hpost, hsteps⟩ | ⟨q, B, X', hpost, hsteps⟩
  · exact Or.inl ⟨v, vm₁, B, X₁.warmed, X', hpost, fun target h => hstep₁ _ fun acts => by rw [doInvoke_state]; exact hsteps.trans h⟩
  · exact Or.inr ⟨q, vm₁, B, X₁.warmed, X', hpost, hstep₁ _ fun acts => by rw [doInvoke_state]; exact hsteps⟩
end Calls
theorem vx_cls {s : State} {T : State} {vm₁ : Vm} {E : String} {k : ClassId} (hW : s.WarmedH vm₁) (h : (T.setVm vm₁).vm.findClass E = some k) : s.vm.findClass E = some k := by
  have h1 : vm₁.findClass E = some k := h
  rw [hW.alike.findClass] at h1
  exact h1
/-- the method's frame g, with q thrown over it -/
def vx_W (p : Program) (l : Launch) (e : Env) (R : Room) (s : State) (m : MethodId) (args : Array Value) (below : List Frame) (meth : Method) (c : Code) (H : Heap) (locs : List Loc) (cells slots : Nat) (Q : State → Prop) (g : JFrame) (q : Addr) : Prop :=
  ∀ T : State, T.heap = H → Stand p l e R s m args below meth c T locs cells slots → ∃ t, Steps p.tables e below ((T.setTop g).pushFrame (.throwing q)) t ∧ Q t
def vx_Run (p : Program) (l : Launch) (e : Env) (R : Room) (s : State) (m : MethodId) (args : Array Value) (below : List Frame) (meth : Method) (c : Code) (H : Heap) (locs : List Loc) (cells slots mc ms : Nat) (g : JFrame) (rest : List Value) (Qa : State → Outcome → State → Prop) (XC : String → State → State → Prop) (free : Addr → Prop) : Prop :=
  ∀ T : State, T.heap = H → Stand p l e R s m args below meth c T locs cells slots →
    (∃ (v : Option Value) (st₀ t T' : State) (L : List Loc), st₀.heap = H ∧ Stand p l e R s m args below meth c T' (locs ++ L) (cells + mc) (slots + ms) ∧ (∀ q ∈ L, free q.base) ∧ T'.heap = t.heap ∧ T'.vm = t.vm ∧ Qa st₀ (.returned v) t ∧
      Goes p e below T g T' { g with pc := g.pc + 3, stack := v.toList ++ rest }) ∨
    (∃ (q : Addr) (st₀ t T' : State) (L : List Loc) (E : String) (ce : Cell), st₀.heap = H ∧ Stand p l e R s m args below meth c T' (locs ++ L) (cells + mc) (slots + ms) ∧ (∀ z ∈ L, free z.base) ∧ T'.heap = t.heap ∧ T'.vm = t.vm ∧ XC E st₀ t ∧ t.heap[q]? = some ce ∧ ce.vm = .none ∧ s.vm.findClass E = some ce.cls ∧
      Steps p.tables e below (T.setTop g) ((T'.setTop { g with stack := rest }).pushFrame (.throwing q)))
def vx_X {S : Type} (px : S → Prop) (B : String → S → State → Prop) (A : Nat → Prop) : String → State → State → Prop := fun E st t => ∃ u : S, px u ∧ B E u t ∧ va_F A st t
section Runs
variable {p : Program} {l : Launch} {e : Env} {R : Room} {s : State} {m : MethodId} {args : Array Value} {below : List Frame} {meth : Method} {c : Code} {H : Heap} {locs : List Loc} {cells slots : Nat}
variable {y : MethodName} {bytes cc : ByteArray} {maxL nL mc ms n index : Nat} {ret : Option FieldType} {ws : List Cond} {rm : Room} {Pc : Array Value → State → Prop} {Qc : Array Value → State → Outcome → State → Prop} {XC : String → State → State → Prop} {free : Addr → Prop} {Ts : List Cond} {own C : String} {b : Addr} {As rest : List Value} {g : JFrame}
theorem vx_callBack (cb : CallB R s args own index y bytes maxL ret ws rm mc ms n) (hM : vx_Met l y ws rm Pc Qc XC mc ms free) (hbl : FrameBlind Pc) : vx_Back l R p e below s args y 3 8 (PreOf R mc ms Pc) (PostOf Qc mc ms free) (vx_Post XC mc ms free) := by
  obtain ⟨hrc, hrs, hfr, hlo, hws, hcw, -, hini, -⟩ := cb
  exact vx_back (bytes := bytes) (maxL := maxL) (ret := ret) hM hbl hrc hrs hfr hlo hws hcw (fun a' U hW => word_at hW (Or.inl (by first | rfl | simp [Cond.onTables, Cond.keeps, Cond.steady])) hini)
theorem vx_runV (S : CallFix p m c cc nL s args Ts own) (hM : vx_Met l y ws rm Pc Qc XC mc ms free) (cw : CallW R s args own C index y bytes maxL ret ws rm mc ms n) (hp : PreV s H C b Pc As)
    (hg : g.method = m) (hn : As.length = n) (hsize : g.locals.size = nL) (hstack : g.stack = As.reverse ++ .ref b :: rest) (hW : 2 * g.monitorRoom + (rest.map fun v => v.category).sum ≤ 8) (hdg : decode cc g.pc = .ok (.invokevirtual index, 3)) (hf : cells + mc ≤ R.cells ∧ slots + ms ≤ R.slots) :
    vx_Run p l e R s m args below meth c H locs cells slots mc ms g rest (Qc (Value.ref b :: As).toArray) XC free := by
  have hK : vx_Back l R p e below s args y 3 8 (PreOf R mc ms Pc) (PostOf Qc mc ms free) (vx_Post XC mc ms free) := vx_callBack cw.1 hM hp.1
  obtain ⟨⟨-, -, -, -, -, -, hcode, -, hy, hlen, hl⟩, hin, hse⟩ := cw
  obtain ⟨hx, hb, hml, ho, -⟩ := S
  obtain ⟨-, ⟨cellB, hcB, hoB, hclB⟩, hPc⟩ := hp
  intro T hT X
  rcases vx_callV X hx (C := C) (bytes := bytes) (maxL := maxL) (ret := ret) ho hl hin hse hcode hy hK (by rw [hT]; exact hcB) hoB hclB hg (hsize.trans hml.symm) (argsL := As) (rest := rest) (fun sig h => hn.trans (hlen sig h)) hstack hW (by rw [hb]; exact hdg)
    (fun vm₁ hW₁ => ⟨hf.1, hf.2, hPc (T.setVm vm₁) hT hW₁⟩) with ⟨v, vm₁, ⟨U', l2, c2, s2⟩, hW₁, X', ⟨g', mk, t, L, e1, e2, hq, h1, hL, h2, h3⟩, st⟩ | ⟨q, vm₁, ⟨U', l2, c2, s2⟩, hW₁, X', ⟨g', mk, t, L, E, ce, e1, e2, hq, hce, hcv, hcl, h1, hL, h2, h3⟩, st⟩
  · dsimp only [Pt.U, Pt.locs, Pt.cells, Pt.slots] at X' e1 e2 h1 h2 h3 st
    subst h1; subst h2; subst h3
    exact Or.inl ⟨v, (T.setVm vm₁).calling g' mk (Value.ref b :: As).toArray, t, U', L, hT, X', hL, e1, e2, hq, st⟩
  · dsimp only [Pt.U, Pt.locs, Pt.cells, Pt.slots] at X' e1 e2 h1 h2 h3 st hcl
    subst h1; subst h2; subst h3
    exact Or.inr ⟨q, (T.setVm vm₁).calling g' mk (Value.ref b :: As).toArray, t, U', L, E, ce, hT, X', hL, e1, e2, hq, hce, hcv, vx_cls hW₁ hcl, st⟩
theorem vx_runS (S : CallFix p m c cc nL s args Ts own) (hM : vx_Met l y ws rm Pc Qc XC mc ms free) (cw : CallB R s args own index y bytes maxL ret ws rm mc ms n ∧ (Cond.static y).before args s = true) (hp : PreS s H Pc As)
    (hg : g.method = m) (hn : As.length = n) (hsize : g.locals.size = nL) (hstack : g.stack = As.reverse ++ rest) (hW : 2 * g.monitorRoom + (rest.map fun v => v.category).sum ≤ 8) (hdg : decode cc g.pc = .ok (.invokestatic index, 3)) (hf : cells + mc ≤ R.cells ∧ slots + ms ≤ R.slots) :
    vx_Run p l e R s m args below meth c H locs cells slots mc ms g rest (Qc As.toArray) XC free := by
  have hK : vx_Back l R p e below s args y 3 8 (PreOf R mc ms Pc) (PostOf Qc mc ms free) (vx_Post XC mc ms free) := vx_callBack cw.1 hM hp.1
  obtain ⟨⟨-, -, -, -, -, -, hcode, hini, hy, hlen, hl⟩, hstt⟩ := cw
  obtain ⟨hx, hb, hml, ho, -⟩ := S
  intro T hT X
  rcases vx_callS X hx (bytes := bytes) (maxL := maxL) (ret := ret) ho hl hstt hini hcode hy hK hg (hsize.trans hml.symm) (argsL := As) (rest := rest) (fun sig h => hn.trans (hlen sig h)) hstack hW (by rw [hb]; exact hdg)
    (fun vm₁ hW₁ => ⟨hf.1, hf.2, hp.2 (T.setVm vm₁) hT hW₁⟩) with ⟨v, vm₁, ⟨U', l2, c2, s2⟩, hW₁, X', ⟨g', mk, t, L, e1, e2, hq, h1, hL, h2, h3⟩, st⟩ | ⟨q, vm₁, ⟨U', l2, c2, s2⟩, hW₁, X', ⟨g', mk, t, L, E, ce, e1, e2, hq, hce, hcv, hcl, h1, hL, h2, h3⟩, st⟩
  · dsimp only [Pt.U, Pt.locs, Pt.cells, Pt.slots] at X' e1 e2 h1 h2 h3 st
    subst h1; subst h2; subst h3
    exact Or.inl ⟨v, (T.setVm vm₁).calling g' mk As.toArray, t, U', L, hT, X', hL, e1, e2, hq, st⟩
  · dsimp only [Pt.U, Pt.locs, Pt.cells, Pt.slots] at X' e1 e2 h1 h2 h3 st hcl
    subst h1; subst h2; subst h3
    exact Or.inr ⟨q, (T.setVm vm₁).calling g' mk As.toArray, t, U', L, E, ce, hT, X', hL, e1, e2, hq, hce, hcv, vx_cls hW₁ hcl, st⟩
end Runs
section Rows
variable {p : Program} {l : Launch} {e : Env} {R : Room} {s : State} {m : MethodId} {args : Array Value} {below : List Frame} {meth : Method} {c : Code} {H : Heap} {locs : List Loc} {cells slots : Nat} {Q : State → Prop}
variable {mc ms : Nat} {free : Addr → Prop} {A0 A1 : Nat → Prop} {H0 : Heap} {a : Array Value} {pc : Nat} {ls : Array Slot} {st0 rest : List Value}
theorem vx_keep {st₀ t T' : State} {L : List Loc} (h0 : st₀.heap = H) (e1 : T'.heap = t.heap) (hS : va_S A0 H0 H locs) (hA : ∀ q, q < H.size → A1 q → A0 q) (hf : ∀ q, free q → A0 q) (hL : ∀ q ∈ L, free q.base) (hF : va_F A1 st₀ t) :
    H.size ≤ T'.heap.size ∧ (∀ q : Nat, q < H.size → ¬ A1 q → T'.heap[q]? = H[q]?) ∧ va_S A0 H0 T'.heap (locs ++ L) := by
  obtain ⟨hz, hk⟩ := hF
  rw [h0] at hz hk
  exact ⟨by rw [e1]; exact hz, fun q h1 h2 => by rw [e1]; exact hk q h1 h2,
    ⟨Nat.le_trans hS.1 (by rw [e1]; exact hz), fun q h1 h2 => by rw [e1, hk q (Nat.lt_of_lt_of_le h1 hS.1) (fun z => h2 (hA q (Nat.lt_of_lt_of_le h1 hS.1) z))]; exact hS.2.1 q h1 h2, fun q hq => by
      rcases List.mem_append.mp hq with h | h
      · exact hS.2.2 q h
      · exact hf _ (hL q h)⟩⟩
theorem vx_calli {S SX : Type} {post : Int32 → S → Prop} {px : SX → Prop} {B : S → State → Prop} {BX : String → SX → State → Prop} {AX : Nat → Prop} (hr : vx_Run p l e R s m args below meth c H locs cells slots mc ms (F0 m pc ls st0) rest (va_Qi post B A1 a) (vx_X px BX AX) free) (hS : va_S A0 H0 H locs) (hA : ∀ q, q < H.size → A1 q → A0 q) (hf : ∀ q, free q → A0 q) (hAX : ∀ q, q < H.size → AX q → A0 q)
    (kx : ∀ (E : String) (ce : Cell) (q9 : Addr) (u : SX) (t : State) (H1 : Heap) (locs1 : List Loc), t.heap = H1 → s.vm.Alike t.vm → px u → BX E u t → H.size ≤ H1.size → (∀ q : Nat, q < H.size → ¬ AX q → H1[q]? = H[q]?) → va_S A0 H0 H1 locs1 → H1[q9]? = some ce → ce.vm = .none → s.vm.findClass E = some ce.cls → vx_W p l e R s m args below meth c H1 locs1 (cells + mc) (slots + ms) Q (F0 m pc ls rest) q9)
    (kk : ∀ (r : Int32) (u : S) (t : State) (H1 : Heap) (locs1 : List Loc), t.heap = H1 → s.vm.Alike t.vm → post r u → B u t → H.size ≤ H1.size → (∀ q : Nat, q < H.size → ¬ A1 q → H1[q]? = H[q]?) → va_S A0 H0 H1 locs1 → W p l e R s m args below meth c H1 locs1 (cells + mc) (slots + ms) Q (F0 m (pc + 3) ls (.int r :: rest))) : W p l e R s m args below meth c H locs cells slots Q (F0 m pc ls st0) := by
  intro T hT X
  rcases hr T hT X with ⟨v, st₀, t, T', L, h0, X', hL, e1, e2, ⟨⟨r, u, hv, hp, hb⟩, hF⟩, st⟩ | ⟨q, st₀, t, T', L, E, ce, h0, X', hL, e1, e2, ⟨u, hp, hb, hF⟩, hce, hcv, hcl, st⟩
  · cases hv
    obtain ⟨k1, k2, k3⟩ := vx_keep h0 e1 hS hA hf hL hF
    obtain ⟨t2, a1, b1⟩ := kk r u t T'.heap (locs ++ L) e1.symm (by rw [← e2]; exact X'.warmed.alike) hp hb k1 k2 k3 T' rfl X'
    exact ⟨t2, st t2 a1, b1⟩
  · obtain ⟨k1, k2, k3⟩ := vx_keep h0 e1 hS hAX hf hL hF
    obtain ⟨t2, a1, b1⟩ := kx E ce q u t T'.heap (locs ++ L) e1.symm (by rw [← e2]; exact X'.warmed.alike) hp hb k1 k2 k3 (by rw [e1]; exact hce) hcv hcl T' rfl X'
    exact ⟨t2, st.trans a1, b1⟩
theorem vx_calll {S SX : Type} {post : Int64 → S → Prop} {px : SX → Prop} {B : S → State → Prop} {BX : String → SX → State → Prop} {AX : Nat → Prop} (hr : vx_Run p l e R s m args below meth c H locs cells slots mc ms (F0 m pc ls st0) rest (va_Ql post B A1 a) (vx_X px BX AX) free) (hS : va_S A0 H0 H locs) (hA : ∀ q, q < H.size → A1 q → A0 q) (hf : ∀ q, free q → A0 q) (hAX : ∀ q, q < H.size → AX q → A0 q)
    (kx : ∀ (E : String) (ce : Cell) (q9 : Addr) (u : SX) (t : State) (H1 : Heap) (locs1 : List Loc), t.heap = H1 → s.vm.Alike t.vm → px u → BX E u t → H.size ≤ H1.size → (∀ q : Nat, q < H.size → ¬ AX q → H1[q]? = H[q]?) → va_S A0 H0 H1 locs1 → H1[q9]? = some ce → ce.vm = .none → s.vm.findClass E = some ce.cls → vx_W p l e R s m args below meth c H1 locs1 (cells + mc) (slots + ms) Q (F0 m pc ls rest) q9)
    (kk : ∀ (r : Int64) (u : S) (t : State) (H1 : Heap) (locs1 : List Loc), t.heap = H1 → s.vm.Alike t.vm → post r u → B u t → H.size ≤ H1.size → (∀ q : Nat, q < H.size → ¬ A1 q → H1[q]? = H[q]?) → va_S A0 H0 H1 locs1 → W p l e R s m args below meth c H1 locs1 (cells + mc) (slots + ms) Q (F0 m (pc + 3) ls (.long r :: rest))) : W p l e R s m args below meth c H locs cells slots Q (F0 m pc ls st0) := by
  intro T hT X
  rcases hr T hT X with ⟨v, st₀, t, T', L, h0, X', hL, e1, e2, ⟨⟨r, u, hv, hp, hb⟩, hF⟩, st⟩ | ⟨q, st₀, t, T', L, E, ce, h0, X', hL, e1, e2, ⟨u, hp, hb, hF⟩, hce, hcv, hcl, st⟩
  · cases hv
    obtain ⟨k1, k2, k3⟩ := vx_keep h0 e1 hS hA hf hL hF
    obtain ⟨t2, a1, b1⟩ := kk r u t T'.heap (locs ++ L) e1.symm (by rw [← e2]; exact X'.warmed.alike) hp hb k1 k2 k3 T' rfl X'
    exact ⟨t2, st t2 a1, b1⟩
  · obtain ⟨k1, k2, k3⟩ := vx_keep h0 e1 hS hAX hf hL hF
    obtain ⟨t2, a1, b1⟩ := kx E ce q u t T'.heap (locs ++ L) e1.symm (by rw [← e2]; exact X'.warmed.alike) hp hb k1 k2 k3 (by rw [e1]; exact hce) hcv hcl T' rfl X'
    exact ⟨t2, st.trans a1, b1⟩
theorem vx_callf {S SX : Type} {post : UInt32 → S → Prop} {px : SX → Prop} {B : S → State → Prop} {BX : String → SX → State → Prop} {AX : Nat → Prop} (hr : vx_Run p l e R s m args below meth c H locs cells slots mc ms (F0 m pc ls st0) rest (va_Qf post B A1 a) (vx_X px BX AX) free) (hS : va_S A0 H0 H locs) (hA : ∀ q, q < H.size → A1 q → A0 q) (hf : ∀ q, free q → A0 q) (hAX : ∀ q, q < H.size → AX q → A0 q)
    (kx : ∀ (E : String) (ce : Cell) (q9 : Addr) (u : SX) (t : State) (H1 : Heap) (locs1 : List Loc), t.heap = H1 → s.vm.Alike t.vm → px u → BX E u t → H.size ≤ H1.size → (∀ q : Nat, q < H.size → ¬ AX q → H1[q]? = H[q]?) → va_S A0 H0 H1 locs1 → H1[q9]? = some ce → ce.vm = .none → s.vm.findClass E = some ce.cls → vx_W p l e R s m args below meth c H1 locs1 (cells + mc) (slots + ms) Q (F0 m pc ls rest) q9)
    (kk : ∀ (r : UInt32) (u : S) (t : State) (H1 : Heap) (locs1 : List Loc), t.heap = H1 → s.vm.Alike t.vm → post r u → B u t → H.size ≤ H1.size → (∀ q : Nat, q < H.size → ¬ A1 q → H1[q]? = H[q]?) → va_S A0 H0 H1 locs1 → W p l e R s m args below meth c H1 locs1 (cells + mc) (slots + ms) Q (F0 m (pc + 3) ls (.float r :: rest))) : W p l e R s m args below meth c H locs cells slots Q (F0 m pc ls st0) := by
  intro T hT X
  rcases hr T hT X with ⟨v, st₀, t, T', L, h0, X', hL, e1, e2, ⟨⟨r, u, hv, hp, hb⟩, hF⟩, st⟩ | ⟨q, st₀, t, T', L, E, ce, h0, X', hL, e1, e2, ⟨u, hp, hb, hF⟩, hce, hcv, hcl, st⟩
  · cases hv
    obtain ⟨k1, k2, k3⟩ := vx_keep h0 e1 hS hA hf hL hF
    obtain ⟨t2, a1, b1⟩ := kk r u t T'.heap (locs ++ L) e1.symm (by rw [← e2]; exact X'.warmed.alike) hp hb k1 k2 k3 T' rfl X'
    exact ⟨t2, st t2 a1, b1⟩
  · obtain ⟨k1, k2, k3⟩ := vx_keep h0 e1 hS hAX hf hL hF
    obtain ⟨t2, a1, b1⟩ := kx E ce q u t T'.heap (locs ++ L) e1.symm (by rw [← e2]; exact X'.warmed.alike) hp hb k1 k2 k3 (by rw [e1]; exact hce) hcv hcl T' rfl X'
    exact ⟨t2, st.trans a1, b1⟩
theorem vx_calld {S SX : Type} {post : UInt64 → S → Prop} {px : SX → Prop} {B : S → State → Prop} {BX : String → SX → State → Prop} {AX : Nat → Prop} (hr : vx_Run p l e R s m args below meth c H locs cells slots mc ms (F0 m pc ls st0) rest (va_Qd post B A1 a) (vx_X px BX AX) free) (hS : va_S A0 H0 H locs) (hA : ∀ q, q < H.size → A1 q → A0 q) (hf : ∀ q, free q → A0 q) (hAX : ∀ q, q < H.size → AX q → A0 q)
    (kx : ∀ (E : String) (ce : Cell) (q9 : Addr) (u : SX) (t : State) (H1 : Heap) (locs1 : List Loc), t.heap = H1 → s.vm.Alike t.vm → px u → BX E u t → H.size ≤ H1.size → (∀ q : Nat, q < H.size → ¬ AX q → H1[q]? = H[q]?) → va_S A0 H0 H1 locs1 → H1[q9]? = some ce → ce.vm = .none → s.vm.findClass E = some ce.cls → vx_W p l e R s m args below meth c H1 locs1 (cells + mc) (slots + ms) Q (F0 m pc ls rest) q9)
    (kk : ∀ (r : UInt64) (u : S) (t : State) (H1 : Heap) (locs1 : List Loc), t.heap = H1 → s.vm.Alike t.vm → post r u → B u t → H.size ≤ H1.size → (∀ q : Nat, q < H.size → ¬ A1 q → H1[q]? = H[q]?) → va_S A0 H0 H1 locs1 → W p l e R s m args below meth c H1 locs1 (cells + mc) (slots + ms) Q (F0 m (pc + 3) ls (.double r :: rest))) : W p l e R s m args below meth c H locs cells slots Q (F0 m pc ls st0) := by
  intro T hT X
  rcases hr T hT X with ⟨v, st₀, t, T', L, h0, X', hL, e1, e2, ⟨⟨r, u, hv, hp, hb⟩, hF⟩, st⟩ | ⟨q, st₀, t, T', L, E, ce, h0, X', hL, e1, e2, ⟨u, hp, hb, hF⟩, hce, hcv, hcl, st⟩
  · cases hv
    obtain ⟨k1, k2, k3⟩ := vx_keep h0 e1 hS hA hf hL hF
    obtain ⟨t2, a1, b1⟩ := kk r u t T'.heap (locs ++ L) e1.symm (by rw [← e2]; exact X'.warmed.alike) hp hb k1 k2 k3 T' rfl X'
    exact ⟨t2, st t2 a1, b1⟩
  · obtain ⟨k1, k2, k3⟩ := vx_keep h0 e1 hS hAX hf hL hF
    obtain ⟨t2, a1, b1⟩ := kx E ce q u t T'.heap (locs ++ L) e1.symm (by rw [← e2]; exact X'.warmed.alike) hp hb k1 k2 k3 (by rw [e1]; exact hce) hcv hcl T' rfl X'
    exact ⟨t2, st.trans a1, b1⟩
theorem vx_callv {S SX : Type} {post : S → Prop} {px : SX → Prop} {B : S → State → Prop} {BX : String → SX → State → Prop} {AX : Nat → Prop} (hr : vx_Run p l e R s m args below meth c H locs cells slots mc ms (F0 m pc ls st0) rest (va_Qv post B A1 a) (vx_X px BX AX) free) (hS : va_S A0 H0 H locs) (hA : ∀ q, q < H.size → A1 q → A0 q) (hf : ∀ q, free q → A0 q) (hAX : ∀ q, q < H.size → AX q → A0 q)
    (kx : ∀ (E : String) (ce : Cell) (q9 : Addr) (u : SX) (t : State) (H1 : Heap) (locs1 : List Loc), t.heap = H1 → s.vm.Alike t.vm → px u → BX E u t → H.size ≤ H1.size → (∀ q : Nat, q < H.size → ¬ AX q → H1[q]? = H[q]?) → va_S A0 H0 H1 locs1 → H1[q9]? = some ce → ce.vm = .none → s.vm.findClass E = some ce.cls → vx_W p l e R s m args below meth c H1 locs1 (cells + mc) (slots + ms) Q (F0 m pc ls rest) q9)
    (kk : ∀ (u : S) (t : State) (H1 : Heap) (locs1 : List Loc), t.heap = H1 → s.vm.Alike t.vm → post u → B u t → H.size ≤ H1.size → (∀ q : Nat, q < H.size → ¬ A1 q → H1[q]? = H[q]?) → va_S A0 H0 H1 locs1 → W p l e R s m args below meth c H1 locs1 (cells + mc) (slots + ms) Q (F0 m (pc + 3) ls (rest))) : W p l e R s m args below meth c H locs cells slots Q (F0 m pc ls st0) := by
  intro T hT X
  rcases hr T hT X with ⟨v, st₀, t, T', L, h0, X', hL, e1, e2, ⟨⟨u, hv, hp, hb⟩, hF⟩, st⟩ | ⟨q, st₀, t, T', L, E, ce, h0, X', hL, e1, e2, ⟨u, hp, hb, hF⟩, hce, hcv, hcl, st⟩
  · cases hv
    obtain ⟨k1, k2, k3⟩ := vx_keep h0 e1 hS hA hf hL hF
    obtain ⟨t2, a1, b1⟩ := kk u t T'.heap (locs ++ L) e1.symm (by rw [← e2]; exact X'.warmed.alike) hp hb k1 k2 k3 T' rfl X'
    exact ⟨t2, st t2 a1, b1⟩
  · obtain ⟨k1, k2, k3⟩ := vx_keep h0 e1 hS hAX hf hL hF
    obtain ⟨t2, a1, b1⟩ := kx E ce q u t T'.heap (locs ++ L) e1.symm (by rw [← e2]; exact X'.warmed.alike) hp hb k1 k2 k3 (by rw [e1]; exact hce) hcv hcl T' rfl X'
    exact ⟨t2, st.trans a1, b1⟩
/-- caught by the row x of this method's table; the rows ahead don't take it -/
theorem vx_catch {own name : String} {E : String} {ce : Cell} {q : Addr} (hown : s.vm.findClass own = some m.cls) (pre : List ExceptionTableEntry) (x : ExceptionTableEntry) (suf : List ExceptionTableEntry) (hsplit : c.exceptionTable.toList = pre ++ x :: suf)
    (hpass : ∀ z ∈ pre, covers z pc = false ∨ (z.catchType ≠ 0 ∧ ∃ nm : String, (Cond.classLink own z.catchType nm).before args s = true ∧ va_Nc E nm s)) (hx : covers x pc = true) (h0 : x.catchType ≠ 0)
    (hlink : (Cond.classLink own x.catchType name).before args s = true) (hcast : (Cond.castable E name).before args s = true) (hcell : H[q]? = some ce) (hv : ce.vm = .none) (hcl : s.vm.findClass E = some ce.cls)
    (kk : W p l e R s m args below meth c H locs cells slots Q (F0 m x.handlerPc ls [.ref q])) : vx_W p l e R s m args below meth c H locs cells slots Q (F0 m pc ls rest) q := by
  intro T hT X
  have hpl : e.platform.magicAccessors = ({} : Platform).magicAccessors := by rw [X.admits.platform]
  obtain ⟨c3, c4, hc3, hc4, hasg⟩ := Cond.castable_spec hcast
  cases Option.some.inj (hc3.symm.trans hcl)
  obtain ⟨c5, hc5, hcl5⟩ := Cond.classLink_spec hown hlink e.platform hpl
  cases Option.some.inj (hc4.symm.trans hc5)
  obtain ⟨vm', X', st⟩ := X.thenCaughtThrough q (g := F0 m pc ls rest) rfl (Steps.refl _) (by rw [hT]; exact hcell) (by rw [hv]; rfl) (by obtain ⟨k9, h9, -⟩ := Vm.findClass_spec hcl; exact ⟨k9, h9⟩) pre x suf hsplit
    (fun z hz => by
      rcases hpass z hz with h | ⟨hz0, nm, hl1, hn1⟩
      · exact Or.inl h
      · obtain ⟨c6, hc6, hcl6⟩ := Cond.classLink_spec hown hl1 e.platform hpl
        obtain ⟨a8, b8, h1, h2, h3⟩ := hn1
        cases Option.some.inj (h1.symm.trans hcl)
        cases Option.some.inj (h2.symm.trans hc6)
        exact Or.inr ⟨hz0, _, hcl6, h3⟩) hx (Or.inr ⟨h0, c4, hcl5, hasg⟩)
  obtain ⟨t, a1, b1⟩ := kk (T.setVm vm') hT X'
  exact ⟨t, st.trans a1, b1⟩
end Rows
section Ends
variable {p : Program} {l : Launch} {e : Env} {R : Room} {s : State} {m : MethodId} {args : Array Value} {below : List Frame} {meth : Method} {c : Code} {H : Heap} {locs : List Loc} {cells slots : Nat} {Q : State → Prop}
variable {mc ms : Nat} {free : Addr → Prop} {A0 A1 : Nat → Prop} {H0 : Heap} {a : Array Value} {ls : Array Slot} {st0 rest : List Value}
variable {Qc : Array Value → State → Outcome → State → Prop} {XC : String → State → State → Prop}
/-- what a body that may throw owes at its end -/
def vx_MQ (below : List Frame) (Qc : Array Value → State → Outcome → State → Prop) (XC : String → State → State → Prop) (a : Array Value) (s : State) (mc ms : Nat) (free : Addr → Prop) : State → Prop := fun t =>
  ∃ o, t.status = .running ∧ Ended t below o ∧ vx_Q Qc XC mc ms free a s o t
theorem vx_ret {g : JFrame} {mc ms : Nat} (k : W p l e R s m args below meth c H locs cells slots (MQ below Qc args s mc ms free) g) : W p l e R s m args below meth c H locs cells slots (vx_MQ below Qc XC args s mc ms free) g := by
  intro T hT X
  obtain ⟨t, a1, o, b1, b2, b3, b4⟩ := k T hT X
  exact ⟨t, a1, o, b1, b2, Or.inl ⟨b3, b4⟩⟩
/-- not caught here: it goes on to the caller -/
theorem vx_widen {g : JFrame} {q : Addr} {k n : Nat} (h1 : cells ≤ k) (h2 : slots ≤ n) (kk : vx_W p l e R s m args below meth c H locs k n Q g q) : vx_W p l e R s m args below meth c H locs cells slots Q g q := fun T hT X => kk T hT (stand_widen X h1 h2)
theorem vx_out {pc : Nat} {E : String} {ce : Cell} {q : Addr} {mc ms : Nat} (hout : ∀ x ∈ c.exceptionTable.toList, covers x pc = false) (hlocks : meth.locks = false) (hcell : H[q]? = some ce) (hv : ce.vm = .none) (hcl : s.vm.findClass E = some ce.cls)
    (hx : ∀ t : State, t.heap = H → s.vm.Alike t.vm → XC E s t) (hf : ∀ z ∈ locs, free z.base) (hc : cells ≤ mc) (hs : slots ≤ ms) :
    vx_W p l e R s m args below meth c H locs cells slots (vx_MQ below Qc XC args s mc ms free) (F0 m pc ls rest) q := by
  intro T hT X
  obtain ⟨st1, hrun, hend, hW, hsm⟩ := X.leaveThrown q (g := F0 m pc ls rest) rfl rfl rfl hout hlocks
  have hcell9 : (T.setFrames (.throwing q :: below)).heap[q]? = some ce := by
    show T.heap[q]? = some ce
    rw [hT]; exact hcell
  exact ⟨_, st1, .threw q, hrun, hend, Or.inr ⟨q, rfl, E, ce, locs, hx _ hT hW.alike, hcell9, hv, hcl, hW, hsm.mono hc hs, hf⟩⟩
theorem vx_frame {U : State} {k n : Nat} (h : s.sameButNew ({ U with vm := s.vm } : State) locs k n) : s.heap.size ≤ U.heap.size ∧ ∀ q : Nat, q < s.heap.size → (∀ z ∈ locs, z.base ≠ q) → U.heap[q]? = s.heap[q]? := by
  obtain ⟨-, h2, -, -, -, h6⟩ := h
  refine ⟨h2, fun q hq hz => ?_⟩
  obtain ⟨c9, e1, e2, e3, e4⟩ := h6 q _ (Array.getElem?_eq_getElem hq)
  have hs : c9.slots = (s.heap[q]).slots := Array.ext_getElem? fun i => e4 i fun hm => hz _ hm rfl
  have h9 : c9 = s.heap[q] := by
    rw [hs] at e2
    exact e2
  have e5 : U.heap[q]? = some c9 := e1
  rw [e5, h9, Array.getElem?_eq_getElem hq]
/-- the words of a throw but the four that speak of the heap -/
def vx_no (w : Cond) : Bool := decide (w ≠ .isRef (.static Bundle.tN "UNASSIGNED_STACK" Bundle.steD)) && decide (w ≠ .isRef (.static Bundle.tN "SUPPRESSED_SENTINEL" Bundle.listD)) && decide (w ≠ .laysStatic Bundle.tN "UNASSIGNED_STACK" Bundle.steD) && decide (w ≠ .laysStatic Bundle.tN "SUPPRESSED_SENTINEL" Bundle.listD)
def vx_at0 (own : String) (ic : Nat) (X : String) (names : List String) : List Cond := (Bundle.ownAtoms0 own ic X names).filter vx_no
def vx_atS (own : String) (ic : Nat) (X : String) (names : List String) : List Cond := (Bundle.ownAtoms own ic X names).filter vx_no
/-- a word that the tables alone decide, or a good one -/
def vx_ot (w : Cond) : Bool := w.onTables || goodWord w
theorem vx_ot_at {args a' : Array Value} {s U : State} {w : Cond} (hW : s.WarmedH U.vm) (hvm : s.vm = U.vm) (hg : vx_ot w = true) (h : w.before args s = true) : w.before a' U = true := by
  simp only [vx_ot, Bool.or_eq_true] at hg
  rcases hg with hg | hg
  · exact va_tabs hg hvm h
  · exact word_at hW (good_of_word hg) h
/-- a list's words: the good ones out of the method's own list, the others by premises of their own -/
theorem vx_hat {args : Array Value} {s : State} {L B : List Cond} (h1 : ∀ w ∈ L.filter goodWord, w.before args s = true) (h2 : ∀ w ∈ L.filter (fun w => !goodWord w), w ∈ B) (h3 : ∀ w ∈ B, w.before args s = true) : ∀ w ∈ L, w.before args s = true := by
  intro w hw
  by_cases g : goodWord w = true
  · exact h1 w (List.mem_filter.mpr ⟨hw, g⟩)
  · refine h3 w (h2 w (List.mem_filter.mpr ⟨hw, ?_⟩))
    show (!goodWord w) = true
    cases hgw : goodWord w
    · rfl
    · exact absurd hgw g
theorem vx_c {args : Array Value} {s : State} {w : Cond} {B : List Cond} (h : w.before args s = true) (t : ∀ w ∈ B, w.before args s = true) : ∀ w' ∈ w :: B, w'.before args s = true := fun w' h' => (List.mem_cons.mp h').elim (fun e => by rw [e]; exact h) (t w')
theorem vx_n {args : Array Value} {s : State} : ∀ w ∈ ([] : List Cond), w.before args s = true := fun _ h => nomatch h
theorem vx_own {args : Array Value} {s : State} {L : List Cond} (h1 : ∀ w ∈ L.filter vx_no, w.before args s = true)
    (hU : (Cond.isRef (.static Bundle.tN "UNASSIGNED_STACK" Bundle.steD)).before args s = true) (hN : (Cond.isRef (.static Bundle.tN "SUPPRESSED_SENTINEL" Bundle.listD)).before args s = true)
    (lU : (Cond.laysStatic Bundle.tN "UNASSIGNED_STACK" Bundle.steD).before args s = true) (lN : (Cond.laysStatic Bundle.tN "SUPPRESSED_SENTINEL" Bundle.listD).before args s = true) : ∀ w ∈ L, w.before args s = true := by
  intro w hw
  by_cases e1 : w = .isRef (.static Bundle.tN "UNASSIGNED_STACK" Bundle.steD)
  · rw [e1]; exact hU
  · by_cases e2 : w = .isRef (.static Bundle.tN "SUPPRESSED_SENTINEL" Bundle.listD)
    · rw [e2]; exact hN
    · by_cases e3 : w = .laysStatic Bundle.tN "UNASSIGNED_STACK" Bundle.steD
      · rw [e3]; exact lU
      · by_cases e4 : w = .laysStatic Bundle.tN "SUPPRESSED_SENTINEL" Bundle.listD
        · rw [e4]; exact lN
        · exact h1 w (List.mem_filter.mpr ⟨hw, by unfold vx_no; rw [decide_eq_true e1, decide_eq_true e2, decide_eq_true e3, decide_eq_true e4]; rfl⟩)
/-- where a static field lies, its class's statics cell in H -/
def vx_L (C n d : String) (A : Nat → Prop) (U : State) (H : Heap) : Prop := ∃ (c : ClassId) (k : Class) (i : Nat) (f : Field) (a : Nat) (cell : Cell), U.vm.findClass C = some c ∧ U.fieldFound? C n d = some (c, k, i, f) ∧ f.isStatic = true ∧ k.statics = some a ∧ H[a]? = some cell ∧ cell.vm.isStatics = true ∧ cell.cls = c ∧ f.slot < cell.slots.size ∧ k.staticTypes[f.slot]? = some f.type ∧ ¬ A a
theorem vx_L.moved {C n d : String} {A : Nat → Prop} {u U : State} {H : Heap} (hvm : u.vm.Alike U.vm) (h : vx_L C n d A u H) : vx_L C n d A U H := by
  obtain ⟨c, k, i, f, a, cell, h1, h2, h3, h4, h5, h6, h7, h8, h9, h10⟩ := h
  obtain ⟨k', hi', he⟩ := State.fieldFound?_setVm hvm h2
  exact ⟨c, k', i, f, a, cell, by rw [hvm.findClass]; exact h1, hi', h3, by rw [he]; exact h4, h5, h6, h7, h8, by rw [he]; exact h9, h10⟩
theorem vx_L.kept {C n d : String} {A : Nat → Prop} {U : State} {H H1 : Heap} (h : vx_L C n d A U H) (hq : ∀ a : Nat, a < H.size → ¬ A a → H1[a]? = H[a]?) : vx_L C n d A U H1 := by
  obtain ⟨c, k, i, f, a, cell, h1, h2, h3, h4, h5, h6, h7, h8, h9, h10⟩ := h
  exact ⟨c, k, i, f, a, cell, h1, h2, h3, h4, by rw [hq a (Array.getElem?_eq_some_iff.mp h5).1 h10]; exact h5, h6, h7, h8, h9, h10⟩
theorem vx_L.narrow {C n d : String} {A B : Nat → Prop} {U : State} {H : Heap} (h : vx_L C n d A U H) (hAB : ∀ q, B q → A q) : vx_L C n d B U H := by
  obtain ⟨c, k, i, f, a, cell, h1, h2, h3, h4, h5, h6, h7, h8, h9, h10⟩ := h
  exact ⟨c, k, i, f, a, cell, h1, h2, h3, h4, h5, h6, h7, h8, h9, fun z => h10 (hAB _ z)⟩
theorem vx_L.word {C n d : String} {A : Nat → Prop} {s : State} {args : Array Value} (h : vx_L C n d A s s.heap) : (Cond.laysStatic C n d).before args s = true := by
  obtain ⟨c, k, i, f, a, cell, h1, h2, h3, h4, h5, h6, h7, h8, h9, -⟩ := h
  show (Cond.laysStatic C n d).holds args s none s [] = true
  exact Cond.laysStatic_of h1 h2 h3 h4 h5 h6 h7 h8 h9
/-- .. and what it holds: null or some reference -/
def vx_Zq (C n d : String) (A : Nat → Prop) (U : State) (H : Heap) : Prop := va_Zq C n d A U H ∧ vx_L C n d A U H
theorem vx_Zq.moved {C n d : String} {A : Nat → Prop} {u U : State} {H : Heap} (hvm : u.vm.Alike U.vm) (h : vx_Zq C n d A u H) : vx_Zq C n d A U H := ⟨va_Zq.moved hvm h.1, vx_L.moved hvm h.2⟩
theorem vx_Zq.kept {C n d : String} {A : Nat → Prop} {U : State} {H H1 : Heap} (h : vx_Zq C n d A U H) (hq : ∀ a : Nat, a < H.size → ¬ A a → H1[a]? = H[a]?) : vx_Zq C n d A U H1 := ⟨va_Zq.kept h.1 hq, vx_L.kept h.2 hq⟩
theorem vx_Zq.narrow {C n d : String} {A B : Nat → Prop} {U : State} {H : Heap} (h : vx_Zq C n d A U H) (hAB : ∀ q, B q → A q) : vx_Zq C n d B U H := ⟨va_Zq.narrow h.1 hAB, vx_L.narrow h.2 hAB⟩
theorem vx_Zqof {args : Array Value} {s : State} {C n d : String} {A : Nat → Prop} (hl : (Cond.laysStatic C n d).before args s = true) (hini : (Cond.initialized C).before args s = true) (h : (Cond.isRef (.static C n d)).before args s = true) (hA : ∀ a : Nat, a < s.heap.size → ¬ A a) : vx_Zq C n d A s s.heap := by
  refine ⟨va_Zqof hl hini h hA, ?_⟩
  obtain ⟨c, k, i, f, a, cell, h1, h2, h3, h4, h5, h6, h7, h8, h9⟩ := Cond.laysStatic_spec hl
  exact ⟨c, k, i, f, a, cell, h1, h2, h3, h4, h5, h6, h7, h8, h9, hA a (Array.getElem?_eq_some_iff.mp h5).1⟩
theorem vx_isRef {C n d : String} {v : Value} {A : Nat → Prop} {s : State} {args : Array Value} (h : va_Z C n d v A s s.heap) (hv : v.isRef = true) : (Cond.isRef (.static C n d)).before args s = true := by
  obtain ⟨cf, kf, fi, f, a, cell, h1, h2, h3, h4, h5, h6, h7, -⟩ := h
  have he : (Term.static C n d).eval args s none [] s = some v := by
    simp [Term.eval, State.fieldNamed?, h1, h2, h4, h5, h6, h7]
  simp only [Cond.before, Cond.holds, Cond.value, he]
  cases v <;> simp_all [Value.isRef]
theorem vx_isRefq {C n d : String} {A : Nat → Prop} {s : State} {args : Array Value} (h : va_Zq C n d A s s.heap) : (Cond.isRef (.static C n d)).before args s = true := by
  rcases h with h | ⟨t, h⟩
  · exact vx_isRef h rfl
  · exact vx_isRef h rfl
/-- the same frame, seen from here: as if the method were called anew in this heap -/
theorem vx_rebase {T : State} (X : Stand p l e R s m args below meth c T locs cells slots) {R' : Room} (hf : R'.frames ≤ R.frames) (hl : R'.locals ≤ R.locals) (hc : cells + R'.cells ≤ R.cells) (hs : slots + R'.slots ≤ R.slots) :
    Stand p l e R' ((T.setVm s.vm).setFrames (.invoking m args :: below)) m args below meth c T [] 0 0 := by
  have htop : (T.setVm s.vm).topJava?.isSome := X.here.top
  have hF : ((T.setVm s.vm).setFrames (.invoking m args :: below)).frames = .invoking m args :: below := State.frames_setFrames _ (State.cur_lt_of_top htop)
  obtain ⟨g₀, hg0⟩ := Option.isSome_iff_exists.mp htop
  obtain ⟨r, hr⟩ := State.topJava?_eq_some.mp hg0
  have hl9 : e.platform.stackLimits (T.setVm s.vm).me = e.platform.stackLimits s.me := X.limits
  have hb9 : (T.setVm s.vm).me.stackBytes = s.me.stackBytes := X.bytes
  refine ⟨X.admits, X.cas, X.clock, hF, ?_, X.hears, X.method, X.code, X.here, X.tail, X.warmed, ?_, ?_, ?_⟩
  · have h := X.room
    have hU : ((T.setVm s.vm).setFrames (.invoking m args :: below)).localsInUse = s.localsInUse := by
      rw [State.localsInUse_invoking hF (meth := meth) (c := c) X.method X.code, State.localsInUse_invoking X.frames X.method X.code]
    simp only [State.hasRoom, Bool.and_eq_true, decide_eq_true_eq] at h ⊢
    obtain ⟨⟨⟨⟨h1, h2, h3, h4, h5, h6⟩, h7⟩, h8⟩, h9⟩ := h
    rw [X.frames, List.length_cons] at h2 h3
    have q1 := X.heapSize
    have q2 := X.used
    simp only [hF, hU, List.length_cons, State.stackLimits_setFrames, State.stackBytes_setFrames, hl9, hb9]
    refine ⟨⟨⟨⟨by omega, by omega, by omega, by omega, by omega, h6⟩, ?_⟩, ?_⟩, X.book⟩
    · show T.heap.size + R'.cells ≤ e.platform.maxCells
      omega
    · show T.slotsUsed + R'.slots ≤ e.platform.maxSlots
      omega
  · rw [State.stackLimits_setFrames]; rfl
  · rw [State.stackBytes_setFrames]; rfl
  · refine ⟨?_, Nat.le_refl _, Nat.le_refl _, ?_, ?_, fun a c9 h9 => ⟨c9, h9, rfl, rfl, fun _ _ => rfl⟩⟩
    · obtain ⟨t, ht, -⟩ := State.frames_cons hr
      show T.setVm s.vm = { ((T.setVm s.vm).setFrames (.invoking m args :: below)).setFrames (T.setVm s.vm).frames with heap := T.heap, slotsUsed := T.slotsUsed }
      rw [State.setFrames_setFrames, State.setFrames_self ht]
      rfl
    · show T.slotsUsed = T.slotsUsed + ((T.heap.toList.drop T.heap.size).map (·.slots.size)).sum
      rw [List.drop_eq_nil_of_le (Nat.le_of_eq Array.length_toList)]
      rfl
    · show ((T.heap.toList.drop T.heap.size).map (·.slots.size)).sum ≤ 0
      rw [List.drop_eq_nil_of_le (Nat.le_of_eq Array.length_toList)]
      exact Nat.le_refl _
/-- 'throw new E()': new; dup; invokespecial; athrow -/
theorem vx_throw0 {cc : ByteArray} {pc : Nat} (hexec : p.tables.exec = Jvm.exec) (hb : c.code = cc) (hl : l.stackTraces = false) {own cls : String} {names : List String} {ik ic mc ms : Nat} {A : Nat → Prop}
    (hown : s.vm.findClass own = some m.cls) (hcls : Bundle.fit cls = true) (hnames : ∀ n ∈ names, Bundle.fit n = true)
    (hk : (Cond.classLink own ik cls).before args s = true) (hini : (Cond.initialized cls).before args s = true) (hat : ∀ w ∈ vx_at0 own ic cls names, w.before args s = true)
    (hgood : ∀ w ∈ Cond.classLink own ik cls :: Cond.initialized cls :: vx_at0 own ic cls names, vx_ot w = true)
    (hU : vx_Zq Bundle.tN "UNASSIGNED_STACK" Bundle.steD A s s.heap) (hN : vx_Zq Bundle.tN "SUPPRESSED_SENTINEL" Bundle.listD A s s.heap) (hS : va_S A s.heap H locs) (hsize : ls.size = c.maxLocals)
    (d0 : decode cc pc = .ok (.new ik, 3)) (d3 : decode cc (pc + 3) = .ok (.dup, 1)) (d4 : decode cc (pc + 4) = .ok (.invokespecial ic, 3)) (d7 : decode cc (pc + 7) = .ok (.athrow, 1))
    (hout : ∀ x ∈ c.exceptionTable.toList, covers x (pc + 7) = false)
    (hRframes : names.length + 3 < R.frames) (hRlocals : (rest.map fun v => v.category).sum + (13 * (names.length + 1) + 42) ≤ R.locals) (hRcells : cells + 1 ≤ R.cells) (hRslots : slots + 6 ≤ R.slots) (hlocks : meth.locks = false)
    (hx : ∀ t : State, s.vm.Alike t.vm → H.size ≤ t.heap.size → (∀ q : Nat, q < H.size → t.heap[q]? = H[q]?) → XC cls s t)
    (hf : ∀ z ∈ locs, free z.base) (hc : cells + 1 ≤ mc) (hs : slots + 6 ≤ ms) :
    W p l e R s m args below meth c H locs cells slots (vx_MQ below Qc XC args s mc ms free) (F0 m pc ls rest) := by
  intro T hT X
  have htr : e.platform.stackTraces = false := (show e.platform.stackTraces = l.stackTraces by rw [X.admits.platform]).trans hl
  have Y := vx_rebase X (R' := { frames := R.frames, locals := R.locals, cells := 1, slots := 6 }) (Nat.le_refl _) (Nat.le_refl _) hRcells hRslots
  obtain ⟨s', hA⟩ : ∃ z, z = (T.setVm s.vm).setFrames (.invoking m args :: below) := ⟨_, rfl⟩
  rw [← hA] at Y
  have hvm : s'.vm = s.vm := by rw [hA]; rfl
  have hhp : s'.heap = H := by rw [hA]; exact hT
  have hW0 : s.WarmedH s'.vm := by rw [hvm]; exact State.WarmedH.refl s
  have hat' : ∀ w ∈ vx_at0 own ic cls names, w.before args s' = true := fun w hw => vx_ot_at hW0 hvm.symm (hgood w (List.mem_cons_of_mem _ (List.mem_cons_of_mem _ hw))) (hat w hw)
  have hk' : (Cond.classLink own ik cls).before args s' = true := vx_ot_at hW0 hvm.symm (hgood _ List.mem_cons_self) hk
  have hini' : (Cond.initialized cls).before args s' = true := vx_ot_at hW0 hvm.symm (hgood _ (List.mem_cons_of_mem _ List.mem_cons_self)) hini
  have hU' : vx_Zq Bundle.tN "UNASSIGNED_STACK" Bundle.steD A s' s'.heap := by rw [hhp]; exact vx_Zq.moved hW0.alike (hU.kept hS.2.1)
  have hN' : vx_Zq Bundle.tN "SUPPRESSED_SENTINEL" Bundle.listD A s' s'.heap := by rw [hhp]; exact vx_Zq.moved hW0.alike (hN.kept hS.2.1)
  have h : ∀ w ∈ Bundle.ownAtoms0 own ic cls names, w.before args s' = true := vx_own hat' (vx_isRefq hU'.1) (vx_isRefq hN'.1) hU'.2.word hN'.2.word
  have hown' : s'.vm.findClass own = some m.cls := by rw [hvm]; exact hown
  have hins : (Cond.instantiable cls 6).before args s' = true := h _ (by simp [Bundle.ownAtoms0])
  obtain ⟨vm₁, cX, kX, hfX, hkX, -, -, X₁, st1⟩ := Y.newCold hexec (own := own) (C := cls) (index := ik) (n := 6) hown' hk' hins hini'
    (g := F0 m pc ls rest) rfl (by rw [hb]; exact d0) (Nat.le_refl _) (Nat.le_refl _)
  generalize hT1 : (T.setVm vm₁).pushCell { cls := cX, slots := kX.instanceTypes.map defaultValue, vm := .none } = T1 at X₁ st1
  have hcat : (Value.ref T.heap.size).category = 1 := rfl
  have hcellA : T1.heap[T.heap.size]? = some (freshCell cX kX) := by rw [← hT1]; exact State.heap_pushCell_size _ _
  have d3' : decode c.code (pc + 3) = .ok (.dup, 1) := by rw [hb]; exact d3
  obtain ⟨U, hsteps, hrun, hend, hW, hsame, ce, hce, hO⟩ := X₁.ctorThrow0 hexec htr (own := own) (cls := cls) (names := names) (ic := ic) hown' hcls hnames h (fun x hx => nomatch hx) hfX hkX hcellA (by rw [hhp, hT]; exact Nat.le_refl _)
    (g := { method := m, pc := pc + 4, locals := ls, stack := .ref T.heap.size :: .ref T.heap.size :: rest, locked := none }) rfl hsize rfl rfl (rest := rest) rfl
    (by rw [hb]; exact d4) (by rw [hb]; exact d7) hout hRframes (by simp only [List.map_cons, List.sum_cons, hcat]; omega) hlocks
  obtain ⟨f1, f2⟩ := vx_frame hsame
  rw [hhp] at f1 f2
  have hWs : s.WarmedH U.vm := State.WarmedH.trans hW0 hW
  have hcl : s.vm.findClass cls = some ce.cls := by
    have h9 := hO.cls
    rw [hvm] at h9
    exact h9
  have hall : s.sameButNew ({ U with vm := s.vm } : State) locs mc ms := by
    subst hA
    obtain ⟨e1, e2⟩ := hsame
    rw [State.setFrames_setFrames] at e1
    have h2 : (T.setVm s.vm).sameButNew ({ U with vm := s.vm } : State) [] (0 + 1) (0 + 6) := ⟨e1, e2⟩
    have h3 := X.same.trans h2
    rw [List.append_nil] at h3
    exact h3.mono hc hs
  refine ⟨U, ?_, .threw T.heap.size, hrun, hend, Or.inr ⟨T.heap.size, rfl, cls, ce, locs, hx U hWs.alike f1 (fun q hq => f2 q hq (fun z hz => nomatch hz)), hce, hO.vm, hcl, hWs, hall, hf⟩⟩
  refine st1 _ ?_
  show Steps p.tables e below (T1.setTop { method := m, pc := pc + 3, locals := ls, stack := .ref T.heap.size :: rest, locked := none }) _
  jvm_step X₁.here [X₁.here.top, hexec, d3', Value.category]
  exact hsteps
/-- 'throw new E("text")': new; dup; ldc; invokespecial; athrow -/
theorem vx_throwS {cc : ByteArray} {pc : Nat} (hexec : p.tables.exec = Jvm.exec) (hb : c.code = cc) (hl : l.stackTraces = false) {own cls text : String} {names : List String} {ik is ic mc ms sa : Nat} {A : Nat → Prop}
    (hown : s.vm.findClass own = some m.cls) (hcls : Bundle.fit cls = true) (hnames : ∀ n ∈ names, Bundle.fit n = true)
    (hk : (Cond.classLink own ik cls).before args s = true) (hini : (Cond.initialized cls).before args s = true) (hstr : vk_R own is text sa s) (hat : ∀ w ∈ vx_atS own ic cls names, w.before args s = true)
    (hgood : ∀ w ∈ Cond.classLink own ik cls :: Cond.initialized cls :: vx_atS own ic cls names, vx_ot w = true)
    (hU : vx_Zq Bundle.tN "UNASSIGNED_STACK" Bundle.steD A s s.heap) (hN : vx_Zq Bundle.tN "SUPPRESSED_SENTINEL" Bundle.listD A s s.heap) (hS : va_S A s.heap H locs) (hsize : ls.size = c.maxLocals)
    (d0 : decode cc pc = .ok (.new ik, 3)) (d3 : decode cc (pc + 3) = .ok (.dup, 1)) (d4 : decode cc (pc + 4) = .ok (.ldc is, 2)) (d6 : decode cc (pc + 6) = .ok (.invokespecial ic, 3)) (d9 : decode cc (pc + 9) = .ok (.athrow, 1))
    (hout : ∀ x ∈ c.exceptionTable.toList, covers x (pc + 9) = false)
    (hRframes : names.length + 3 < R.frames) (hRlocals : (rest.map fun v => v.category).sum + (13 * (names.length + 1) + 43) ≤ R.locals) (hRcells : cells + 1 ≤ R.cells) (hRslots : slots + 6 ≤ R.slots) (hlocks : meth.locks = false)
    (hx : ∀ t : State, s.vm.Alike t.vm → H.size ≤ t.heap.size → (∀ q : Nat, q < H.size → t.heap[q]? = H[q]?) → XC cls s t)
    (hf : ∀ z ∈ locs, free z.base) (hc : cells + 1 ≤ mc) (hs : slots + 6 ≤ ms) :
    W p l e R s m args below meth c H locs cells slots (vx_MQ below Qc XC args s mc ms free) (F0 m pc ls rest) := by
  intro T hT X
  have htr : e.platform.stackTraces = false := (show e.platform.stackTraces = l.stackTraces by rw [X.admits.platform]).trans hl
  have Y := vx_rebase X (R' := { frames := R.frames, locals := R.locals, cells := 1, slots := 6 }) (Nat.le_refl _) (Nat.le_refl _) hRcells hRslots
  obtain ⟨s', hA⟩ : ∃ z, z = (T.setVm s.vm).setFrames (.invoking m args :: below) := ⟨_, rfl⟩
  rw [← hA] at Y
  have hvm : s'.vm = s.vm := by rw [hA]; rfl
  have hhp : s'.heap = H := by rw [hA]; exact hT
  have hW0 : s.WarmedH s'.vm := by rw [hvm]; exact State.WarmedH.refl s
  have hat' : ∀ w ∈ vx_atS own ic cls names, w.before args s' = true := fun w hw => vx_ot_at hW0 hvm.symm (hgood w (List.mem_cons_of_mem _ (List.mem_cons_of_mem _ hw))) (hat w hw)
  have hk' : (Cond.classLink own ik cls).before args s' = true := vx_ot_at hW0 hvm.symm (hgood _ List.mem_cons_self) hk
  have hini' : (Cond.initialized cls).before args s' = true := vx_ot_at hW0 hvm.symm (hgood _ (List.mem_cons_of_mem _ List.mem_cons_self)) hini
  have hU' : vx_Zq Bundle.tN "UNASSIGNED_STACK" Bundle.steD A s' s'.heap := by rw [hhp]; exact vx_Zq.moved hW0.alike (hU.kept hS.2.1)
  have hN' : vx_Zq Bundle.tN "SUPPRESSED_SENTINEL" Bundle.listD A s' s'.heap := by rw [hhp]; exact vx_Zq.moved hW0.alike (hN.kept hS.2.1)
  have h : ∀ w ∈ Bundle.ownAtoms own ic cls names, w.before args s' = true := vx_own hat' (vx_isRefq hU'.1) (vx_isRefq hN'.1) hU'.2.word hN'.2.word
  have hown' : s'.vm.findClass own = some m.cls := by rw [hvm]; exact hown
  have hins : (Cond.instantiable cls 6).before args s' = true := h _ (by simp [Bundle.ownAtoms])
  obtain ⟨vm₁, cX, kX, hfX, hkX, -, -, X₁, st1⟩ := Y.newCold hexec (own := own) (C := cls) (index := ik) (n := 6) hown' hk' hins hini'
    (g := F0 m pc ls rest) rfl (by rw [hb]; exact d0) (Nat.le_refl _) (Nat.le_refl _)
  generalize hT1 : (T.setVm vm₁).pushCell { cls := cX, slots := kX.instanceTypes.map defaultValue, vm := .none } = T1 at X₁ st1
  have hcat : (Value.ref T.heap.size).category = 1 := rfl
  have hcellA : T1.heap[T.heap.size]? = some (freshCell cX kX) := by rw [← hT1]; exact State.heap_pushCell_size _ _
  have d3' : decode c.code (pc + 3) = .ok (.dup, 1) := by rw [hb]; exact d3
  have d4' : decode c.code (pc + 4) = .ok (.ldc is, 2) := by rw [hb]; exact d4
  have hstr' : vk_R own is text sa s' := vk_R.warm hW0 hstr
  obtain ⟨U, hsteps, hrun, hend, hW, hsame, ce, hce, hO⟩ := X₁.ctorThrowS hexec htr (own := own) (cls := cls) (names := names) (ic := ic) hown' hcls hnames h (fun x hx => nomatch hx) hfX hkX hcellA (by rw [hhp, hT]; exact Nat.le_refl _) (msg := .ref sa) rfl
    (g := { method := m, pc := pc + 6, locals := ls, stack := .ref sa :: .ref T.heap.size :: .ref T.heap.size :: rest, locked := none }) rfl hsize rfl rfl (rest := rest) rfl
    (by rw [hb]; exact d6) (by rw [hb]; exact d9) hout hRframes (by simp only [List.map_cons, List.sum_cons, hcat]; omega) hlocks
  obtain ⟨f1, f2⟩ := vx_frame hsame
  rw [hhp] at f1 f2
  have hWs : s.WarmedH U.vm := State.WarmedH.trans hW0 hW
  have hcl : s.vm.findClass cls = some ce.cls := by
    have h9 := hO.cls
    rw [hvm] at h9
    exact h9
  have hall : s.sameButNew ({ U with vm := s.vm } : State) locs mc ms := by
    subst hA
    obtain ⟨e1, e2⟩ := hsame
    rw [State.setFrames_setFrames] at e1
    have h2 : (T.setVm s.vm).sameButNew ({ U with vm := s.vm } : State) [] (0 + 1) (0 + 6) := ⟨e1, e2⟩
    have h3 := X.same.trans h2
    rw [List.append_nil] at h3
    exact h3.mono hc hs
  refine ⟨U, ?_, .threw T.heap.size, hrun, hend, Or.inr ⟨T.heap.size, rfl, cls, ce, locs, hx U hWs.alike f1 (fun q hq => f2 q hq (fun z hz => nomatch hz)), hce, hO.vm, hcl, hWs, hall, hf⟩⟩
  refine st1 _ ?_
  show Steps p.tables e below (T1.setTop { method := m, pc := pc + 3, locals := ls, stack := .ref T.heap.size :: rest, locked := none }) _
  jvm_step X₁.here [X₁.here.top, hexec, d3', Value.category]
  exact X₁.ldcString hexec (own := own) (text := text) (index := is) (a := sa) hown' hstr'.1 hstr'.2
    (g := { method := m, pc := pc + 4, locals := ls, stack := .ref T.heap.size :: .ref T.heap.size :: rest, locked := none }) rfl d4' _ hsteps
/-- 'throw new E("text")', the text by a wide index -/
theorem vx_throwSW {cc : ByteArray} {pc : Nat} (hexec : p.tables.exec = Jvm.exec) (hb : c.code = cc) (hl : l.stackTraces = false) {own cls text : String} {names : List String} {ik is ic mc ms sa : Nat} {A : Nat → Prop}
    (hown : s.vm.findClass own = some m.cls) (hcls : Bundle.fit cls = true) (hnames : ∀ n ∈ names, Bundle.fit n = true)
    (hk : (Cond.classLink own ik cls).before args s = true) (hini : (Cond.initialized cls).before args s = true) (hstr : vk_R own is text sa s) (hat : ∀ w ∈ vx_atS own ic cls names, w.before args s = true)
    (hgood : ∀ w ∈ Cond.classLink own ik cls :: Cond.initialized cls :: vx_atS own ic cls names, vx_ot w = true)
    (hU : vx_Zq Bundle.tN "UNASSIGNED_STACK" Bundle.steD A s s.heap) (hN : vx_Zq Bundle.tN "SUPPRESSED_SENTINEL" Bundle.listD A s s.heap) (hS : va_S A s.heap H locs) (hsize : ls.size = c.maxLocals)
    (d0 : decode cc pc = .ok (.new ik, 3)) (d3 : decode cc (pc + 3) = .ok (.dup, 1)) (d4 : decode cc (pc + 4) = .ok (.ldc_w is, 3)) (d7 : decode cc (pc + 7) = .ok (.invokespecial ic, 3)) (d10 : decode cc (pc + 10) = .ok (.athrow, 1))
    (hout : ∀ x ∈ c.exceptionTable.toList, covers x (pc + 10) = false)
    (hRframes : names.length + 3 < R.frames) (hRlocals : (rest.map fun v => v.category).sum + (13 * (names.length + 1) + 43) ≤ R.locals) (hRcells : cells + 1 ≤ R.cells) (hRslots : slots + 6 ≤ R.slots) (hlocks : meth.locks = false)
    (hx : ∀ t : State, s.vm.Alike t.vm → H.size ≤ t.heap.size → (∀ q : Nat, q < H.size → t.heap[q]? = H[q]?) → XC cls s t)
    (hf : ∀ z ∈ locs, free z.base) (hc : cells + 1 ≤ mc) (hs : slots + 6 ≤ ms) :
    W p l e R s m args below meth c H locs cells slots (vx_MQ below Qc XC args s mc ms free) (F0 m pc ls rest) := by
  intro T hT X
  have htr : e.platform.stackTraces = false := (show e.platform.stackTraces = l.stackTraces by rw [X.admits.platform]).trans hl
  have Y := vx_rebase X (R' := { frames := R.frames, locals := R.locals, cells := 1, slots := 6 }) (Nat.le_refl _) (Nat.le_refl _) hRcells hRslots
  obtain ⟨s', hA⟩ : ∃ z, z = (T.setVm s.vm).setFrames (.invoking m args :: below) := ⟨_, rfl⟩
  rw [← hA] at Y
  have hvm : s'.vm = s.vm := by rw [hA]; rfl
  have hhp : s'.heap = H := by rw [hA]; exact hT
  have hW0 : s.WarmedH s'.vm := by rw [hvm]; exact State.WarmedH.refl s
  have hat' : ∀ w ∈ vx_atS own ic cls names, w.before args s' = true := fun w hw => vx_ot_at hW0 hvm.symm (hgood w (List.mem_cons_of_mem _ (List.mem_cons_of_mem _ hw))) (hat w hw)
  have hk' : (Cond.classLink own ik cls).before args s' = true := vx_ot_at hW0 hvm.symm (hgood _ List.mem_cons_self) hk
  have hini' : (Cond.initialized cls).before args s' = true := vx_ot_at hW0 hvm.symm (hgood _ (List.mem_cons_of_mem _ List.mem_cons_self)) hini
  have hU' : vx_Zq Bundle.tN "UNASSIGNED_STACK" Bundle.steD A s' s'.heap := by rw [hhp]; exact vx_Zq.moved hW0.alike (hU.kept hS.2.1)
  have hN' : vx_Zq Bundle.tN "SUPPRESSED_SENTINEL" Bundle.listD A s' s'.heap := by rw [hhp]; exact vx_Zq.moved hW0.alike (hN.kept hS.2.1)
  have h : ∀ w ∈ Bundle.ownAtoms own ic cls names, w.before args s' = true := vx_own hat' (vx_isRefq hU'.1) (vx_isRefq hN'.1) hU'.2.word hN'.2.word
  have hown' : s'.vm.findClass own = some m.cls := by rw [hvm]; exact hown
  have hins : (Cond.instantiable cls 6).before args s' = true := h _ (by simp [Bundle.ownAtoms])
  obtain ⟨vm₁, cX, kX, hfX, hkX, -, -, X₁, st1⟩ := Y.newCold hexec (own := own) (C := cls) (index := ik) (n := 6) hown' hk' hins hini'
    (g := F0 m pc ls rest) rfl (by rw [hb]; exact d0) (Nat.le_refl _) (Nat.le_refl _)
  generalize hT1 : (T.setVm vm₁).pushCell { cls := cX, slots := kX.instanceTypes.map defaultValue, vm := .none } = T1 at X₁ st1
  have hcat : (Value.ref T.heap.size).category = 1 := rfl
  have hcellA : T1.heap[T.heap.size]? = some (freshCell cX kX) := by rw [← hT1]; exact State.heap_pushCell_size _ _
  have d3' : decode c.code (pc + 3) = .ok (.dup, 1) := by rw [hb]; exact d3
  have d4' : decode c.code (pc + 4) = .ok (.ldc_w is, 3) := by rw [hb]; exact d4
  have hstr' : vk_R own is text sa s' := vk_R.warm hW0 hstr
  obtain ⟨U, hsteps, hrun, hend, hW, hsame, ce, hce, hO⟩ := X₁.ctorThrowS hexec htr (own := own) (cls := cls) (names := names) (ic := ic) hown' hcls hnames h (fun x hx => nomatch hx) hfX hkX hcellA (by rw [hhp, hT]; exact Nat.le_refl _) (msg := .ref sa) rfl
    (g := { method := m, pc := pc + 7, locals := ls, stack := .ref sa :: .ref T.heap.size :: .ref T.heap.size :: rest, locked := none }) rfl hsize rfl rfl (rest := rest) rfl
    (by rw [hb]; exact d7) (by rw [hb]; exact d10) hout hRframes (by simp only [List.map_cons, List.sum_cons, hcat]; omega) hlocks
  obtain ⟨f1, f2⟩ := vx_frame hsame
  rw [hhp] at f1 f2
  have hWs : s.WarmedH U.vm := State.WarmedH.trans hW0 hW
  have hcl : s.vm.findClass cls = some ce.cls := by
    have h9 := hO.cls
    rw [hvm] at h9
    exact h9
  have hall : s.sameButNew ({ U with vm := s.vm } : State) locs mc ms := by
    subst hA
    obtain ⟨e1, e2⟩ := hsame
    rw [State.setFrames_setFrames] at e1
    have h2 : (T.setVm s.vm).sameButNew ({ U with vm := s.vm } : State) [] (0 + 1) (0 + 6) := ⟨e1, e2⟩
    have h3 := X.same.trans h2
    rw [List.append_nil] at h3
    exact h3.mono hc hs
  refine ⟨U, ?_, .threw T.heap.size, hrun, hend, Or.inr ⟨T.heap.size, rfl, cls, ce, locs, hx U hWs.alike f1 (fun q hq => f2 q hq (fun z hz => nomatch hz)), hce, hO.vm, hcl, hWs, hall, hf⟩⟩
  refine st1 _ ?_
  show Steps p.tables e below (T1.setTop { method := m, pc := pc + 3, locals := ls, stack := .ref T.heap.size :: rest, locked := none }) _
  jvm_step X₁.here [X₁.here.top, hexec, d3', Value.category]
  exact X₁.ldcStringW hexec (own := own) (text := text) (index := is) (a := sa) hown' hstr'.1 hstr'.2
    (g := { method := m, pc := pc + 4, locals := ls, stack := .ref T.heap.size :: .ref T.heap.size :: rest, locked := none }) rfl d4' _ hsteps
end Ends
section Bodies
variable {l : Launch}
theorem vx_ofW {y : MethodName} {ws ws' : List Cond} {rm : Room} {Pc : Array Value → State → Prop} {Qc : Array Value → State → Outcome → State → Prop} {XC : String → State → State → Prop} {mc ms : Nat} {free : Addr → Prop} {cc : ByteArray} {maxL : Nat} {ret : Option FieldType}
    (hy : plainName y.cls = true) (hw : ws = Cond.code y cc maxL ret :: ws')
    (body : ∀ p e s m args below meth c s₁, BodyLoose p l y (headSpec ws rm) cc maxL ret e s m args below meth c s₁ → c.maxLocals = maxL → (∀ x ∈ c.exceptionTable.toList, False) → Pc args s →
      W p l e (headSpec ws rm).room s m args below meth c s.heap [] 0 0 (vx_MQ below Qc XC args s mc ms free) (entryFrame m args maxL)) : vx_Met l y ws rm Pc Qc XC mc ms free := by
  refine MetFree.of_bodyS (code := cc) (maxLocals := maxL) (ret := ret) hy ?_ ?_
  · intro args s m h hn
    obtain ⟨meth, c, h1, h2, h3, h4, h5, h6, -, -⟩ := Cond.code_spec hn (atoms_spec (ws := ws) h _ (by rw [hw]; exact List.mem_cons_self))
    exact ⟨meth, c, h1, h2, h3, h4, h5, h6⟩
  · intro p e s m args below meth c s₁ B hml hP _
    have hh0 : s₁.heap = s.heap := by rw [B.state]; rfl
    have ht : ∀ x ∈ c.exceptionTable.toList, False := by
      obtain ⟨meth9, c9, h1, h2, -, -, -, -, h7, -⟩ := Cond.code_spec B.named (atoms_spec (ws := ws) B.pre _ (by rw [hw]; exact List.mem_cons_self))
      cases Option.some.inj (h1.symm.trans B.method)
      cases Option.some.inj (h2.symm.trans (Stand.of_body B).code)
      intro x hx
      rw [Array.isEmpty_iff.mp h7] at hx
      cases hx
    obtain ⟨t, a1, o, b1, b2, b3⟩ := body p e s m args below meth c s₁ B hml ht hP s₁ hh0 (Stand.of_body B)
    exact ⟨t, o, a1, b1, b2, b3⟩
/-- the table of a body with handlers -/
theorem vx_table {p : Program} {x y : MethodName} {S : Spec} {cc bytes : ByteArray} {maxL maxL' : Nat} {ret ret' : Option FieldType} {e : Env} {s s₁ : State} {m : MethodId} {args : Array Value} {below : List Frame} {meth : Method} {c : Code} {hh : List (Nat × Nat × Nat × Nat)}
    (B : BodyLoose p l y S cc maxL ret e s m args below meth c s₁) (h : (Cond.codeWith y bytes maxL' ret' hh).before args s = true) : c.exceptionTable.toList = tableOf hh := by
  obtain ⟨m9, meth9, c9, hn9, h1, h2, -, -, h6, -⟩ := Cond.codeWith_spec h
  cases Option.some.inj (hn9.symm.trans B.named)
  cases Option.some.inj (h1.symm.trans B.method)
  cases Option.some.inj (h2.symm.trans (Stand.of_body B).code)
  rw [← h6, table_eq]
end Bodies
end VXA
/-! ===== END ===== -/
/-! ===== BEGIN a static call of a method with an exception table ===== -/
section VXS
variable {p : Program} {l : Launch} {e : Env} {R : Room} {s : State} {m : MethodId} {args : Array Value} {below : List Frame} {meth : Method} {c : Code} {T : State} {H : Heap} {locs : List Loc} {cells slots : Nat}
abbrev vx_CSW (R : Room) (s : State) (args : Array Value) (own : String) (index : Nat) (y : MethodName) (bytes : ByteArray) (maxL : Nat) (ret : Option FieldType) (hh : List (Nat × Nat × Nat × Nat)) (ws : List Cond) (rm : Room) (mc ms n : Nat) : Prop :=
  (rm.cells = mc ∧ rm.slots = ms ∧ rm.frames + 1 ≤ R.frames ∧ 8 + (maxL + 11) + rm.locals ≤ R.locals ∧ (∀ w ∈ ws, ∀ (a' : Array Value) (U : State), s.WarmedH U.vm → w.before a' U = true) ∧ Cond.codeWith y bytes maxL ret hh ∈ ws) ∧
  (Cond.codeWith y bytes maxL ret hh).before args s = true ∧ (Cond.initialized y.cls).before args s = true ∧ (y.cls ≠ "java/lang/invoke/MethodHandle" ∧ y.cls ≠ "java/lang/invoke/VarHandle") ∧
  (∀ sig, parseMethodDescriptor y.desc = some sig → n = sig.parameters.length) ∧ (Cond.methodLink own index y).before args s = true ∧ (Cond.static y).before args s = true
theorem vx_cwSW {own : String} {index maxL mc ms : Nat} {y : MethodName} {bytes : ByteArray} {ret : Option FieldType} {hh : List (Nat × Nat × Nat × Nat)} {Ts ws ws' : List Cond} {rm : Room} (n : Nat) (ht : ∀ w ∈ Ts, w.before args s = true) (hT : GoodIn Ts (va_wsS own index y ws)) (hw : ws = Cond.codeWith y bytes maxL ret hh :: ws') (hrc : rm.cells = mc) (hrs : rm.slots = ms)
    (hd : y.cls ≠ "java/lang/invoke/MethodHandle" ∧ y.cls ≠ "java/lang/invoke/VarHandle" ∧ (parseMethodDescriptor y.desc).map (fun d => d.parameters.length) = some n) (hR : rm.frames + 1 ≤ R.frames ∧ 8 + (maxL + 11) + rm.locals ≤ R.locals) :
    vx_CSW R s args own index y bytes maxL ret hh ws rm mc ms n := by
  have ok : ∀ w ∈ va_wsS own index y ws, w.before args s = true := fun w h => ht w (hT w h).1
  have hG : GoodIn Ts ws := fun w h => hT w (by unfold va_wsS; exact List.mem_append_right _ h)
  have hc : Cond.codeWith y bytes maxL ret hh ∈ ws := by rw [hw]; exact List.mem_cons_self
  refine ⟨⟨hrc, hrs, hR.1, hR.2, pay_in ht hG, hc⟩, ht _ (hG _ hc).1, ok _ (by simp [va_wsS]), ⟨hd.1, hd.2.1⟩, fun sig h => ?_, ok _ (by simp [va_wsS]), ok _ (by simp [va_wsS])⟩
  have h2 := hd.2.2
  rw [h] at h2
  exact (Option.some.inj h2).symm
theorem vx_callSW (X : Stand p l e R s m args below meth c T locs cells slots) (hexec : p.tables.exec = Jvm.exec) {own : String} {index : Nat} {y : MethodName} {bytes : ByteArray} {maxL : Nat} {ret : Option FieldType} {hh : List (Nat × Nat × Nat × Nat)}
    (hown : s.vm.findClass own = some m.cls) (hlink : (Cond.methodLink own index y).before args s = true) (hstat : (Cond.static y).before args s = true) (hinit : (Cond.initialized y.cls).before args s = true)
    (hcode : (Cond.codeWith y bytes maxL ret hh).before args s = true) (hy : y.cls ≠ "java/lang/invoke/MethodHandle" ∧ y.cls ≠ "java/lang/invoke/VarHandle")
    {W9 : Nat} {Pre : Pt → Array Value → Prop} {Post : Pt → Array Value → Option Value → Pt → Prop} (hK : Back l R p e below s args y 3 W9 Pre Post)
    {g : JFrame} (hg : g.method = m) (hsize : g.locals.size = c.maxLocals) {argsL rest : List Value} (hlen : ∀ sig, parseMethodDescriptor y.desc = some sig → argsL.length = sig.parameters.length)
    (hstack : g.stack = argsL.reverse ++ rest) (hW : 2 * g.monitorRoom + (rest.map fun v => v.category).sum ≤ W9) (hdg : decode c.code g.pc = .ok (.invokestatic index, 3))
    (hpre : ∀ vm₁, s.WarmedH vm₁ → Pre ⟨T.setVm vm₁, locs, cells, slots⟩ argsL.toArray) :
    ∃ (v : Option Value) (vm₁ : Vm) (B : Pt), s.WarmedH vm₁ ∧ Stand p l e R s m args below meth c B.U B.locs B.cells B.slots ∧ Post ⟨T.setVm vm₁, locs, cells, slots⟩ argsL.toArray v B ∧
      ∀ target, Steps p.tables e below (B.U.setTop { g with pc := g.pc + 3, stack := v.toList ++ rest }) target → Steps p.tables e below (T.setTop g) target := by
  obtain ⟨mk, methM, cM, hnamed, hmethM, -, -, -, -, -, -, hsigM⟩ := Cond.codeWith_spec hcode
  have hstatic : methM.isStatic = true := Cond.static_spec hnamed hmethM hstat
  obtain ⟨kP, hkP, -⟩ := className_of_methodNamed hnamed
  have hinitP : kP.init = .initialized := Cond.initialized_spec (findClass_of_methodNamed hnamed) hkP hinit
  obtain ⟨vm₁, X₁, hstep₁⟩ := X.invokestatic hexec hown hlink hnamed hmethM hstatic hkP hinitP hy (g := g) hg (argsL := argsL) (rest := rest) (hlen _ hsigM) hstack hdg
  obtain ⟨v, B, X', hpost, hsteps⟩ := hK m meth c ⟨T.setVm vm₁, locs, cells, slots⟩ { g with stack := rest } (.invokestatic index) mk argsL.toArray X₁ hg hsize hdg hW (X₁.named hnamed) (hpre vm₁ X₁.warmed)
  exact ⟨v, vm₁, B, X₁.warmed, X', hpost, fun target h => hstep₁ _ fun acts => by rw [doInvoke_state]; exact hsteps.trans h⟩
theorem vx_runSW {y : MethodName} {bytes cc : ByteArray} {maxL nL mc ms n index : Nat} {ret : Option FieldType} {hh : List (Nat × Nat × Nat × Nat)} {ws : List Cond} {rm : Room} {Pc : Array Value → State → Prop} {Qc : Array Value → State → Outcome → State → Prop} {free : Addr → Prop} {Ts : List Cond} {own : String} {As rest : List Value} {g : JFrame}
    (S : CallFix p m c cc nL s args Ts own) (hM : Met l y ws rm Pc Qc mc ms free) (cw : vx_CSW R s args own index y bytes maxL ret hh ws rm mc ms n) (hp : PreS s H Pc As)
    (hg : g.method = m) (hn : As.length = n) (hsize : g.locals.size = nL) (hstack : g.stack = As.reverse ++ rest) (hW : 2 * g.monitorRoom + (rest.map fun v => v.category).sum ≤ 8) (hdg : decode cc g.pc = .ok (.invokestatic index, 3)) (hf : cells + mc ≤ R.cells ∧ slots + ms ≤ R.slots) :
    va_Run p l e R s m args below meth c H locs cells slots mc ms g rest (Qc As.toArray) (free) := by
  obtain ⟨⟨hrc, hrs, hfr, hlo, hws, hcw⟩, hcode, hini, hy, hlen, hl, hstt⟩ := cw
  have hK : Back l R p e below s args y 3 8 (PreOf R mc ms Pc) (PostOf Qc mc ms free) := va_backW (hh := hh) (bytes := bytes) (maxL := maxL) (ret := ret) hM hp.1 hrc hrs hfr hlo hws hcw (fun a' U hW => word_at hW (Or.inl (by first | rfl | simp [Cond.onTables, Cond.keeps, Cond.steady])) hini)
  obtain ⟨hx, hb, hml, ho, -⟩ := S
  intro T hT X
  obtain ⟨v, vm₁, ⟨U', l2, c2, s2⟩, hW₁, X', ⟨g', mk, t, L, e1, e2, hq, h1, hL, h2, h3⟩, st⟩ := vx_callSW X hx (hh := hh) (bytes := bytes) (maxL := maxL) (ret := ret) ho hl hstt hini hcode hy hK hg (hsize.trans hml.symm) (argsL := As) (rest := rest) (fun sig h => hn.trans (hlen sig h)) hstack hW (by rw [hb]; exact hdg)
    (fun vm₁ hW₁ => ⟨hf.1, hf.2, hp.2 (T.setVm vm₁) hT hW₁⟩)
  dsimp only [Pt.U, Pt.locs, Pt.cells, Pt.slots] at X' e1 e2 h1 h2 h3 st
  subst h1; subst h2; subst h3
  exact ⟨v, (T.setVm vm₁).calling g' mk As.toArray, t, U', L, hT, X', hL, e1, e2, hq, st⟩
/-- not caught here, past rows that name other classes: it goes on to the caller -/
theorem vx_outP {p : Program} {l : Launch} {e : Env} {R : Room} {s : State} {m : MethodId} {args : Array Value} {below : List Frame} {meth : Method} {c : Code} {H : Heap} {locs : List Loc} {cells slots : Nat} {free : Addr → Prop} {ls : Array Slot} {rest : List Value} {Qc : Array Value → State → Outcome → State → Prop} {XC : String → State → State → Prop}
    {pc : Nat} {own E : String} {ce : Cell} {q : Addr} {mc ms : Nat} (hown : s.vm.findClass own = some m.cls) (hlocks : meth.locks = false)
    (hpass : ∀ z ∈ c.exceptionTable.toList, covers z pc = false ∨ (z.catchType ≠ 0 ∧ ∃ nm : String, (Cond.classLink own z.catchType nm).before args s = true ∧ va_Nc E nm s)) (hcell : H[q]? = some ce) (hv : ce.vm = .none) (hcl : s.vm.findClass E = some ce.cls)
    (hx : ∀ t : State, t.heap = H → s.vm.Alike t.vm → XC E s t) (hf : ∀ z ∈ locs, free z.base) (hc : cells ≤ mc) (hs : slots ≤ ms) :
    vx_W p l e R s m args below meth c H locs cells slots (vx_MQ below Qc XC args s mc ms free) (F0 m pc ls rest) q := by
  intro T hT X
  have hpl : e.platform.magicAccessors = ({} : Platform).magicAccessors := by rw [X.admits.platform]
  obtain ⟨vm', hW', X', st⟩ := X.outThrough hlocks q (g := F0 m pc ls rest) rfl rfl rfl (cell := ce) (by rw [hT]; exact hcell) (by rw [hv]; rfl)
    (by obtain ⟨k9, h9, -⟩ := Vm.findClass_spec hcl; exact ⟨k9, h9⟩) (fun z hz => by
      rcases hpass z hz with h | ⟨hz0, nm, hl1, hn1⟩
      · exact Or.inl h
      · obtain ⟨c6, hc6, hcl6⟩ := Cond.classLink_spec hown hl1 e.platform hpl
        obtain ⟨a8, b8, h1, h2, h3⟩ := hn1
        cases Option.some.inj (h1.symm.trans hcl)
        cases Option.some.inj (h2.symm.trans hc6)
        exact Or.inr ⟨hz0, _, hcl6, h3⟩)
  obtain ⟨g₀, hfr⟩ := X'.frames_eq
  have hcell9 : ((T.setVm vm').setFrames (.throwing q :: below)).heap[q]? = some ce := by
    show T.heap[q]? = some ce
    rw [hT]; exact hcell
  have hend : Ended ((T.setVm vm').setFrames (.throwing q :: below)) below (.threw q) := State.frames_setFrames _ (State.cur_lt_of_frames hfr)
  refine ⟨(T.setVm vm').setFrames (.throwing q :: below), ?_, .threw q, X'.here.running, hend, Or.inr ⟨q, rfl, E, ce, locs, hx _ hT (X'.ends _).1.alike, hcell9, hv, hcl, (X'.ends _).1, (X'.ends _).2.mono hc hs, hf⟩⟩
  rw [X.pushThrowing_eq]
  exact st
/-- a thing of a world lies in the heap -/
theorem vx_lt {D : va_G} {cl : List vw_C} {ws : va_W} {H1 : Heap} (h : va_P D cl ws H1) {k : Nat} {q : Nat × va_E} (hk : ws[k]? = some q) : q.1 < H1.size := (h k q hk).lt
end VXS
/-! ===== END ===== -/
/-! ===== BEGIN methods with a table of their own: called by a name, returning or throwing ===== -/
section VXH
/-! vx_backW, vx_callVX, vx_callSX, vx_callVW, vx_runVW, vx_runVX, vx_runSX, vx_ofWH follow the same proofs as their sisters above (Free/Laws.lean, Shelf42/LK1.lean); vx_outP calls Shelf42/NT130.lean (outThrough). -/
section
variable {l : Launch} {R : Room} {p : Program} {e : Env} {below : List Frame} {s : State} {sargs : Array Value} {y : MethodName} {len W9 : Nat}
theorem vx_backW {ws : List Cond} {rm : Room} {Pc : Array Value → State → Prop} {Qc : Array Value → State → Outcome → State → Prop} {XC : String → State → State → Prop} {mc ms : Nat} {free : Addr → Prop} {bytes : ByteArray} {maxL : Nat} {ret : Option FieldType} {hh : List (Nat × Nat × Nat × Nat)}
    (hM : vx_Met l y ws rm Pc Qc XC mc ms free) (hblind : FrameBlind Pc) (hrc : rm.cells = mc) (hrs : rm.slots = ms)
    (hframes : rm.frames + 1 ≤ R.frames) (hlocals : W9 + (maxL + 11) + rm.locals ≤ R.locals)
    (hws : ∀ w ∈ ws, ∀ a' U, s.WarmedH U.vm → w.before a' U = true) (hcode : Cond.codeWith y bytes maxL ret hh ∈ ws) (hinit : ∀ a' U, s.WarmedH U.vm → (Cond.initialized y.cls).before a' U = true) :
    vx_Back l R p e below s sargs y len W9 (PreOf R mc ms Pc) (PostOf Qc mc ms free) (vx_Post XC mc ms free) := by
  intro m meth c A g ig mk a X hg hsize hdg hW hn hp
  have h1 : (headSpec ws rm).pre.before a A.U = true := atoms_intro fun w hw => hws w hw _ _ X.warmed
  have h2 : (Cond.codeWith y bytes maxL ret hh).before a A.U = true := hws _ hcode _ _ X.warmed
  have h3 : (Cond.initialized y.cls).before a A.U = true := hinit _ _ X.warmed
  have h4 : A.cells + (headSpec ws rm).room.cells ≤ R.cells := by rw [show (headSpec ws rm).room.cells = mc from hrc]; exact hp.1
  have h5 : A.slots + (headSpec ws rm).room.slots ≤ R.slots := by rw [show (headSpec ws rm).room.slots = ms from hrs]; exact hp.2.1
  have hPc : Pc a (A.U.calling g mk a) := hblind _ _ _ _ hp.2.2
  obtain ⟨U, Ls, c0, s0⟩ := A
  dsimp only [Pt.U, Pt.locs, Pt.cells, Pt.slots] at h1 h2 h3 h4 h5 X hn hPc ⊢
  obtain ⟨m9, methY, cY, hn9, hmY, hcY, -, hlY, -⟩ := Cond.codeWith_spec h2
  cases Option.some.inj (hn9.symm.trans hn)
  obtain ⟨kY, hkY, -⟩ := className_of_methodNamed hn
  have hinitY : kY.init = .initialized := Cond.initialized_spec (findClass_of_methodNamed hn) hkY h3
  have h : At U g.method c below := by rw [hg]; exact X.here
  have hlocals9 : W9 + (maxL + 11) + (headSpec ws rm).room.locals ≤ R.locals := hlocals
  have happ : (headSpec ws rm).appliesLoose y e.platform (U.calling g mk a) = true :=
    Spec.appliesLoose_calling (g := g) h hdg hn hkY hinitY
      (X.room_calling (g := g) (R' := (headSpec ws rm).room) hsize hmY hcY hframes (by rw [hlY]; omega) h4 h5) h1
  obtain ⟨mid, hmid⟩ := h.above
  have hfr : (U.setTop g).frames = (.java g :: mid) ++ below := by rw [State.frames_setTop' g h.top, hmid]; rfl
  obtain ⟨o, s₂, hsteps, -, hend, hq⟩ := Steps.callFree hM p X.admits X.cas X.clock (acts := []) hfr happ hPc trivial
  have hq' : vx_Q Qc XC mc ms free a (U.calling g mk a) o s₂ := hq
  rw [State.frames_setTop' g h.top] at hend
  obtain ⟨g₀, hg0⟩ := Option.isSome_iff_exists.mp h.top
  obtain ⟨r, hr⟩ := State.topJava?_eq_some.mp hg0
  have hr' : (({ U with heap := s₂.heap, slotsUsed := s₂.slotsUsed } : State).setVm s₂.vm).frames = .java g₀ :: r := hr
  rcases hq' with ⟨hqc, L, hfe, hL⟩ | ⟨q, rfl, E, ce, L, hx, hce, hcv, hcl, hW₂, hsm, hL⟩
  · obtain ⟨⟨v, rfl⟩, hW₂, e2, q2, q3, q4, q5, q6⟩ := id hfe
    have e3 : s₂ = ({ (U.calling g mk a).setFrames s₂.frames with heap := s₂.heap, slotsUsed := s₂.slotsUsed } : State).setVm s₂.vm := by
      have : s₂ = ({ s₂ with vm := (U.calling g mk a).vm } : State).setVm s₂.vm := rfl
      rw [e2] at this
      exact this
    obtain ⟨c₂, i₂, len₂, hc₂, hd₂, hf₂⟩ := hend
    have hW' : U.WarmedH s₂.vm := hW₂
    have hcc : c₂ = c := by
      have h1 : s₂.code? g.method = U.code? g.method := by
        rw [State.code?_eq, State.code?_eq, hW'.alike.method?]
      exact Option.some.inj (hc₂.symm.trans (h1.trans h.code))
    subst hcc
    have hlen : len₂ = len := by rw [hdg] at hd₂; cases hd₂; rfl
    subst hlen
    have hs₂ : s₂ = (({ U with heap := s₂.heap, slotsUsed := s₂.slotsUsed } : State).setVm s₂.vm).setTop { g with pc := g.pc + len₂, stack := v.toList ++ g.stack } := by
      refine e3.trans ?_
      rw [hf₂, State.calling_eq h.top, State.setFrames_setFrames, State.setTop_of_frames _ hr', hr]
      rfl
    have hsame : U.sameButNew ({ U with heap := s₂.heap, slotsUsed := s₂.slotsUsed } : State) L mc ms := by
      refine ⟨?_, q2, q3, q4, q5, q6⟩
      obtain ⟨t, ht, -⟩ := State.frames_cons hr
      show ({ U with heap := s₂.heap, slotsUsed := s₂.slotsUsed } : State) = { U.setFrames U.frames with heap := s₂.heap, slotsUsed := s₂.slotsUsed }
      rw [State.setFrames_self ht]
    subst hg
    refine Or.inl ⟨v, ⟨(({ U with heap := s₂.heap, slotsUsed := s₂.slotsUsed } : State).setVm s₂.vm), Ls ++ L, c0 + mc, s0 + ms⟩,
      ⟨X.admits, X.cas, X.clock, X.frames, X.room, X.hears, X.method, X.code, (X.here.setHeapUsed s₂.heap s₂.slotsUsed).setVm hW'.alike, X.tail, State.WarmedH.trans X.warmed hW', X.limits, X.bytes, X.same.trans (hsame.setVm s.vm)⟩,
      ⟨g, mk, s₂, L, rfl, rfl, hqc, rfl, hL, rfl, rfl⟩, ?_⟩
    show Steps p.tables e below _ ((({ U with heap := s₂.heap, slotsUsed := s₂.slotsUsed } : State).setVm s₂.vm).setTop { g with pc := g.pc + len₂, stack := v.toList ++ g.stack })
    rw [← hs₂]
    exact hsteps
  · obtain ⟨e2, q2, q3, q4, q5, q6⟩ := id hsm
    have e3 : s₂ = ({ (U.calling g mk a).setFrames s₂.frames with heap := s₂.heap, slotsUsed := s₂.slotsUsed } : State).setVm s₂.vm := by
      have : s₂ = ({ s₂ with vm := (U.calling g mk a).vm } : State).setVm s₂.vm := rfl
      rw [e2] at this
      exact this
    have hf₂ : s₂.frames = .throwing q :: .java g :: U.frames.tail := hend
    have hW' : U.WarmedH s₂.vm := hW₂
    have hs₂ : s₂ = ((({ U with heap := s₂.heap, slotsUsed := s₂.slotsUsed } : State).setVm s₂.vm).setTop g).pushFrame (.throwing q) := by
      refine e3.trans ?_
      rw [hf₂, State.calling_eq h.top, State.setFrames_setFrames, State.pushFrame, State.frames_setTop _ hr', State.setTop_of_frames _ hr', State.setFrames_setFrames, hr]
      rfl
    have hsame : U.sameButNew ({ U with heap := s₂.heap, slotsUsed := s₂.slotsUsed } : State) L mc ms := by
      refine ⟨?_, q2, q3, q4, q5, q6⟩
      obtain ⟨t, ht, -⟩ := State.frames_cons hr
      show ({ U with heap := s₂.heap, slotsUsed := s₂.slotsUsed } : State) = { U.setFrames U.frames with heap := s₂.heap, slotsUsed := s₂.slotsUsed }
      rw [State.setFrames_self ht]
    subst hg
    refine Or.inr ⟨q, ⟨(({ U with heap := s₂.heap, slotsUsed := s₂.slotsUsed } : State).setVm s₂.vm), Ls ++ L, c0 + mc, s0 + ms⟩,
      ⟨X.admits, X.cas, X.clock, X.frames, X.room, X.hears, X.method, X.code, (X.here.setHeapUsed s₂.heap s₂.slotsUsed).setVm hW'.alike, X.tail, State.WarmedH.trans X.warmed hW', X.limits, X.bytes, X.same.trans (hsame.setVm s.vm)⟩,
      ⟨g, mk, s₂, L, E, ce, rfl, rfl, hx, hce, hcv, hcl, rfl, hL, rfl, rfl⟩, ?_⟩
    show Steps p.tables e below _ (((({ U with heap := s₂.heap, slotsUsed := s₂.slotsUsed } : State).setVm s₂.vm).setTop g).pushFrame (.throwing q))
    rw [← hs₂]
    exact hsteps
end
variable {p : Program} {l : Launch} {e : Env} {R : Room} {s : State} {m : MethodId} {args : Array Value} {below : List Frame} {meth : Method} {c : Code} {T : State} {H : Heap} {locs : List Loc} {cells slots : Nat}
theorem vx_callVX (X : Stand p l e R s m args below meth c T locs cells slots) (hexec : p.tables.exec = Jvm.exec) {own C : String} {index : Nat} {y : MethodName} {bytes : ByteArray} {maxL : Nat} {ret : Option FieldType} {hh : List (Nat × Nat × Nat × Nat)}
    (hown : s.vm.findClass own = some m.cls) (hlink : (Cond.methodLink own index y).before args s = true) (hinst : (Cond.instanceMethod y).before args s = true) (hsel : (Cond.selects C y y).before args s = true)
    (hcode : (Cond.codeWith y bytes maxL ret hh).before args s = true) (hy : y.cls ≠ "java/lang/invoke/MethodHandle" ∧ y.cls ≠ "java/lang/invoke/VarHandle")
    {W9 : Nat} {Pre : Pt → Array Value → Prop} {Post : Pt → Array Value → Option Value → Pt → Prop} {PostX : Pt → Array Value → Addr → Pt → Prop} (hK : vx_Back l R p e below s args y 3 W9 Pre Post PostX)
    {b : Addr} {cellB : Cell} (hcell : T.heap[b]? = some cellB) (hobj : cellB.vm.isStatics = false) (hcls : s.vm.findClass C = some cellB.cls)
    {g : JFrame} (hg : g.method = m) (hsize : g.locals.size = c.maxLocals) {argsL rest : List Value} (hlen : ∀ sig, parseMethodDescriptor y.desc = some sig → argsL.length = sig.parameters.length)
    (hstack : g.stack = argsL.reverse ++ .ref b :: rest) (hW : 2 * g.monitorRoom + (rest.map fun v => v.category).sum ≤ W9) (hdg : decode c.code g.pc = .ok (.invokevirtual index, 3))
    (hpre : ∀ vm₁, s.WarmedH vm₁ → Pre ⟨T.setVm vm₁, locs, cells, slots⟩ (Value.ref b :: argsL).toArray) :
    (∃ (v : Option Value) (vm₁ : Vm) (B : Pt), s.WarmedH vm₁ ∧ Stand p l e R s m args below meth c B.U B.locs B.cells B.slots ∧ Post ⟨T.setVm vm₁, locs, cells, slots⟩ (Value.ref b :: argsL).toArray v B ∧
      ∀ target, Steps p.tables e below (B.U.setTop { g with pc := g.pc + 3, stack := v.toList ++ rest }) target → Steps p.tables e below (T.setTop g) target) ∨
    (∃ (q : Addr) (vm₁ : Vm) (B : Pt), s.WarmedH vm₁ ∧ Stand p l e R s m args below meth c B.U B.locs B.cells B.slots ∧ PostX ⟨T.setVm vm₁, locs, cells, slots⟩ (Value.ref b :: argsL).toArray q B ∧
      Steps p.tables e below (T.setTop g) ((B.U.setTop { g with stack := rest }).pushFrame (.throwing q))) := by
  obtain ⟨mk, methM, hnamed, hmethM, hstM, habM⟩ := Cond.instanceMethod_spec hinst
  obtain ⟨m8, methM', cM, hn8, hmethM', -, -, -, -, -, -, hsigM⟩ := Cond.codeWith_spec hcode
  cases Option.some.inj (hn8.symm.trans hnamed)
  cases hmethM.symm.trans hmethM'
  obtain ⟨c2, r2, m2, q1, q2, q3, q4, kP, hkP, hkPi⟩ := Cond.selects_spec hsel
  cases hcls.symm.trans q1
  cases (State.methodFound?_of_named hnamed hy).symm.trans q2
  cases hnamed.symm.trans q3
  have hselP : selectMethod e.platform s.vm cellB.cls mk = .method mk := by rw [Launch.admits_selectMethod X.admits]; exact q4
  obtain ⟨vm₁, X₁, hstep₁⟩ := X.invokevirtual hexec hown hlink hnamed hmethM hstM hkP hkPi hy (a := b) (cell := cellB) hcell
    (fun z h => by rw [h] at hobj; cases hobj) hselP hmethM habM hkP hkPi (g := g) hg (argsL := argsL) (rest := rest) (hlen _ hsigM) hstack hdg
  rcases hK m meth c ⟨T.setVm vm₁, locs, cells, slots⟩ { g with stack := rest } (.invokevirtual index) mk (Value.ref b :: argsL).toArray X₁ hg hsize hdg hW (X₁.named hnamed) (hpre vm₁ X₁.warmed) with ⟨v, B, X', hpost, hsteps⟩ | ⟨q, B, X', hpost, hsteps⟩
  · exact Or.inl ⟨v, vm₁, B, X₁.warmed, X', hpost, fun target h => hstep₁ _ fun acts => by rw [doInvoke_state]; exact hsteps.trans h⟩
  · exact Or.inr ⟨q, vm₁, B, X₁.warmed, X', hpost, hstep₁ _ fun acts => by rw [doInvoke_state]; exact hsteps⟩
theorem vx_callSX (X : Stand p l e R s m args below meth c T locs cells slots) (hexec : p.tables.exec = Jvm.exec) {own : String} {index : Nat} {y : MethodName} {bytes : ByteArray} {maxL : Nat} {ret : Option FieldType} {hh : List (Nat × Nat × Nat × Nat)}
    (hown : s.vm.findClass own = some m.cls) (hlink : (Cond.methodLink own index y).before args s = true) (hstat : (Cond.static y).before args s = true) (hinit : (Cond.initialized y.cls).before args s = true)
    (hcode : (Cond.codeWith y bytes maxL ret hh).before args s = true) (hy : y.cls ≠ "java/lang/invoke/MethodHandle" ∧ y.cls ≠ "java/lang/invoke/VarHandle")
    {W9 : Nat} {Pre : Pt → Array Value → Prop} {Post : Pt → Array Value → Option Value → Pt → Prop} {PostX : Pt → Array Value → Addr → Pt → Prop} (hK : vx_Back l R p e below s args y 3 W9 Pre Post PostX)
    {g : JFrame} (hg : g.method = m) (hsize : g.locals.size = c.maxLocals) {argsL rest : List Value} (hlen : ∀ sig, parseMethodDescriptor y.desc = some sig → argsL.length = sig.parameters.length)
    (hstack : g.stack = argsL.reverse ++ rest) (hW : 2 * g.monitorRoom + (rest.map fun v => v.category).sum ≤ W9) (hdg : decode c.code g.pc = .ok (.invokestatic index, 3))
    (hpre : ∀ vm₁, s.WarmedH vm₁ → Pre ⟨T.setVm vm₁, locs, cells, slots⟩ argsL.toArray) :
    (∃ (v : Option Value) (vm₁ : Vm) (B : Pt), s.WarmedH vm₁ ∧ Stand p l e R s m args below meth c B.U B.locs B.cells B.slots ∧ Post ⟨T.setVm vm₁, locs, cells, slots⟩ argsL.toArray v B ∧
      ∀ target, Steps p.tables e below (B.U.setTop { g with pc := g.pc + 3, stack := v.toList ++ rest }) target → Steps p.tables e below (T.setTop g) target) ∨
    (∃ (q : Addr) (vm₁ : Vm) (B : Pt), s.WarmedH vm₁ ∧ Stand p l e R s m args below meth c B.U B.locs B.cells B.slots ∧ PostX ⟨T.setVm vm₁, locs, cells, slots⟩ argsL.toArray q B ∧
      Steps p.tables e below (T.setTop g) ((B.U.setTop { g with stack := rest }).pushFrame (.throwing q))) := by
  obtain ⟨mk, methM, cM, hnamed, hmethM, -, -, -, -, -, -, hsigM⟩ := Cond.codeWith_spec hcode
  have hstatic : methM.isStatic = true := Cond.static_spec hnamed hmethM hstat
  obtain ⟨kP, hkP, -⟩ := className_of_methodNamed hnamed
  have hinitP : kP.init = .initialized := Cond.initialized_spec (findClass_of_methodNamed hnamed) hkP hinit
  obtain ⟨vm₁, X₁, hstep₁⟩ := X.invokestatic hexec hown hlink hnamed hmethM hstatic hkP hinitP hy (g := g) hg (argsL := argsL) (rest := rest) (hlen _ hsigM) hstack hdg
  rcases hK m meth c ⟨T.setVm vm₁, locs, cells, slots⟩ { g with stack := rest } (.invokestatic index) mk argsL.toArray X₁ hg hsize hdg hW (X₁.named hnamed) (hpre vm₁ X₁.warmed) with ⟨v, B, X', hpost, hsteps⟩ | ⟨q, B, X', hpost, hsteps⟩
  · exact Or.inl ⟨v, vm₁, B, X₁.warmed, X', hpost, fun target h => hstep₁ _ fun acts => by rw [doInvoke_state]; exact hsteps.trans h⟩
  · exact Or.inr ⟨q, vm₁, B, X₁.warmed, X', hpost, hstep₁ _ fun acts => by rw [doInvoke_state]; exact hsteps⟩
theorem vx_callVW (X : Stand p l e R s m args below meth c T locs cells slots) (hexec : p.tables.exec = Jvm.exec) {own C : String} {index : Nat} {y : MethodName} {bytes : ByteArray} {maxL : Nat} {ret : Option FieldType} {hh : List (Nat × Nat × Nat × Nat)}
    (hown : s.vm.findClass own = some m.cls) (hlink : (Cond.methodLink own index y).before args s = true) (hinst : (Cond.instanceMethod y).before args s = true) (hsel : (Cond.selects C y y).before args s = true)
    (hcode : (Cond.codeWith y bytes maxL ret hh).before args s = true) (hy : y.cls ≠ "java/lang/invoke/MethodHandle" ∧ y.cls ≠ "java/lang/invoke/VarHandle")
    {W9 : Nat} {Pre : Pt → Array Value → Prop} {Post : Pt → Array Value → Option Value → Pt → Prop} (hK : Back l R p e below s args y 3 W9 Pre Post)
    {b : Addr} {cellB : Cell} (hcell : T.heap[b]? = some cellB) (hobj : cellB.vm.isStatics = false) (hcls : s.vm.findClass C = some cellB.cls)
    {g : JFrame} (hg : g.method = m) (hsize : g.locals.size = c.maxLocals) {argsL rest : List Value} (hlen : ∀ sig, parseMethodDescriptor y.desc = some sig → argsL.length = sig.parameters.length)
    (hstack : g.stack = argsL.reverse ++ .ref b :: rest) (hW : 2 * g.monitorRoom + (rest.map fun v => v.category).sum ≤ W9) (hdg : decode c.code g.pc = .ok (.invokevirtual index, 3))
    (hpre : ∀ vm₁, s.WarmedH vm₁ → Pre ⟨T.setVm vm₁, locs, cells, slots⟩ (Value.ref b :: argsL).toArray) :
    ∃ (v : Option Value) (vm₁ : Vm) (B : Pt), s.WarmedH vm₁ ∧ Stand p l e R s m args below meth c B.U B.locs B.cells B.slots ∧ Post ⟨T.setVm vm₁, locs, cells, slots⟩ (Value.ref b :: argsL).toArray v B ∧
      ∀ target, Steps p.tables e below (B.U.setTop { g with pc := g.pc + 3, stack := v.toList ++ rest }) target → Steps p.tables e below (T.setTop g) target := by
  obtain ⟨mk, methM, hnamed, hmethM, hstM, habM⟩ := Cond.instanceMethod_spec hinst
  obtain ⟨m8, methM', cM, hn8, hmethM', -, -, -, -, -, -, hsigM⟩ := Cond.codeWith_spec hcode
  cases Option.some.inj (hn8.symm.trans hnamed)
  cases hmethM.symm.trans hmethM'
  obtain ⟨c2, r2, m2, q1, q2, q3, q4, kP, hkP, hkPi⟩ := Cond.selects_spec hsel
  cases hcls.symm.trans q1
  cases (State.methodFound?_of_named hnamed hy).symm.trans q2
  cases hnamed.symm.trans q3
  have hselP : selectMethod e.platform s.vm cellB.cls mk = .method mk := by rw [Launch.admits_selectMethod X.admits]; exact q4
  obtain ⟨vm₁, X₁, hstep₁⟩ := X.invokevirtual hexec hown hlink hnamed hmethM hstM hkP hkPi hy (a := b) (cell := cellB) hcell
    (fun z h => by rw [h] at hobj; cases hobj) hselP hmethM habM hkP hkPi (g := g) hg (argsL := argsL) (rest := rest) (hlen _ hsigM) hstack hdg
  obtain ⟨v, B, X', hpost, hsteps⟩ := hK m meth c ⟨T.setVm vm₁, locs, cells, slots⟩ { g with stack := rest } (.invokevirtual index) mk (Value.ref b :: argsL).toArray X₁ hg hsize hdg hW (X₁.named hnamed) (hpre vm₁ X₁.warmed)
  exact ⟨v, vm₁, B, X₁.warmed, X', hpost, fun target h => hstep₁ _ fun acts => by rw [doInvoke_state]; exact hsteps.trans h⟩
abbrev vx_CVW (R : Room) (s : State) (args : Array Value) (own C : String) (index : Nat) (y : MethodName) (bytes : ByteArray) (maxL : Nat) (ret : Option FieldType) (hh : List (Nat × Nat × Nat × Nat)) (ws : List Cond) (rm : Room) (mc ms n : Nat) : Prop :=
  (rm.cells = mc ∧ rm.slots = ms ∧ rm.frames + 1 ≤ R.frames ∧ 8 + (maxL + 11) + rm.locals ≤ R.locals ∧ (∀ w ∈ ws, ∀ (a' : Array Value) (U : State), s.WarmedH U.vm → w.before a' U = true) ∧ Cond.codeWith y bytes maxL ret hh ∈ ws) ∧
  (Cond.codeWith y bytes maxL ret hh).before args s = true ∧ (Cond.initialized y.cls).before args s = true ∧ (y.cls ≠ "java/lang/invoke/MethodHandle" ∧ y.cls ≠ "java/lang/invoke/VarHandle") ∧
  (∀ sig, parseMethodDescriptor y.desc = some sig → n = sig.parameters.length) ∧ (Cond.methodLink own index y).before args s = true ∧ (Cond.instanceMethod y).before args s = true ∧ (Cond.selects C y y).before args s = true
theorem vx_cwVW {own C : String} {index maxL mc ms : Nat} {y : MethodName} {bytes : ByteArray} {ret : Option FieldType} {hh : List (Nat × Nat × Nat × Nat)} {Ts ws ws' : List Cond} {rm : Room} (n : Nat) (ht : ∀ w ∈ Ts, w.before args s = true) (hT : GoodIn Ts (wsV own index C y ws)) (hw : ws = Cond.codeWith y bytes maxL ret hh :: ws') (hrc : rm.cells = mc) (hrs : rm.slots = ms)
    (hd : y.cls = C ∧ y.cls ≠ "java/lang/invoke/MethodHandle" ∧ y.cls ≠ "java/lang/invoke/VarHandle" ∧ (parseMethodDescriptor y.desc).map (fun d => d.parameters.length) = some n) (hR : rm.frames + 1 ≤ R.frames ∧ 8 + (maxL + 11) + rm.locals ≤ R.locals) :
    vx_CVW R s args own C index y bytes maxL ret hh ws rm mc ms n := by
  obtain ⟨hC, hd⟩ := hd
  subst hC
  have ok : ∀ w ∈ wsV own index y.cls y ws, w.before args s = true := fun w h => ht w (hT w h).1
  have hG : GoodIn Ts ws := fun w h => hT w (by unfold wsV; exact List.mem_append_right _ h)
  have hc : Cond.codeWith y bytes maxL ret hh ∈ ws := by rw [hw]; exact List.mem_cons_self
  refine ⟨⟨hrc, hrs, hR.1, hR.2, pay_in ht hG, hc⟩, ht _ (hG _ hc).1, ok _ (by simp [wsV]), ⟨hd.1, hd.2.1⟩, fun sig h => ?_, ok _ (by simp [wsV]), ok _ (by simp [wsV]), ok _ (by simp [wsV])⟩
  have h2 := hd.2.2
  rw [h] at h2
  exact (Option.some.inj h2).symm
theorem vx_runVW {y : MethodName} {bytes cc : ByteArray} {maxL nL mc ms n index : Nat} {ret : Option FieldType} {hh : List (Nat × Nat × Nat × Nat)} {ws : List Cond} {rm : Room} {Pc : Array Value → State → Prop} {Qc : Array Value → State → Outcome → State → Prop} {free : Addr → Prop} {Ts : List Cond} {own C : String} {b : Addr} {As rest : List Value} {g : JFrame}
    (S : CallFix p m c cc nL s args Ts own) (hM : Met l y ws rm Pc Qc mc ms free) (cw : vx_CVW R s args own C index y bytes maxL ret hh ws rm mc ms n) (hp : PreV s H C b Pc As)
    (hg : g.method = m) (hn : As.length = n) (hsize : g.locals.size = nL) (hstack : g.stack = As.reverse ++ .ref b :: rest) (hW : 2 * g.monitorRoom + (rest.map fun v => v.category).sum ≤ 8) (hdg : decode cc g.pc = .ok (.invokevirtual index, 3)) (hf : cells + mc ≤ R.cells ∧ slots + ms ≤ R.slots) :
    va_Run p l e R s m args below meth c H locs cells slots mc ms g rest (Qc (Value.ref b :: As).toArray) free := by
  obtain ⟨⟨hrc, hrs, hfr, hlo, hws, hcw⟩, hcode, hini, hy, hlen, hl, hin, hse⟩ := cw
  have hK : Back l R p e below s args y 3 8 (PreOf R mc ms Pc) (PostOf Qc mc ms free) := va_backW (hh := hh) (bytes := bytes) (maxL := maxL) (ret := ret) hM hp.1 hrc hrs hfr hlo hws hcw (fun a' U hW => word_at hW (Or.inl (by first | rfl | simp [Cond.onTables, Cond.keeps, Cond.steady])) hini)
  obtain ⟨hx, hb, hml, ho, -⟩ := S
  obtain ⟨-, ⟨cellB, hcB, hoB, hclB⟩, hPc⟩ := hp
  intro T hT X
  obtain ⟨v, vm₁, ⟨U', l2, c2, s2⟩, hW₁, X', ⟨g', mk, t, L, e1, e2, hq, h1, hL, h2, h3⟩, st⟩ := vx_callVW X hx (C := C) (hh := hh) (bytes := bytes) (maxL := maxL) (ret := ret) ho hl hin hse hcode hy hK (by rw [hT]; exact hcB) hoB hclB hg (hsize.trans hml.symm) (argsL := As) (rest := rest) (fun sig h => hn.trans (hlen sig h)) hstack hW (by rw [hb]; exact hdg)
    (fun vm₁ hW₁ => ⟨hf.1, hf.2, hPc (T.setVm vm₁) hT hW₁⟩)
  dsimp only [Pt.U, Pt.locs, Pt.cells, Pt.slots] at X' e1 e2 h1 h2 h3 st
  subst h1; subst h2; subst h3
  exact ⟨v, (T.setVm vm₁).calling g' mk (Value.ref b :: As).toArray, t, U', L, hT, X', hL, e1, e2, hq, st⟩
section
variable {y : MethodName} {bytes cc : ByteArray} {maxL nL mc ms n index : Nat} {ret : Option FieldType} {ws : List Cond} {rm : Room} {Pc : Array Value → State → Prop} {Qc : Array Value → State → Outcome → State → Prop} {XC : String → State → State → Prop} {free : Addr → Prop} {Ts : List Cond} {own C : String} {b : Addr} {As rest : List Value} {g : JFrame}
theorem vx_runVX {hh : List (Nat × Nat × Nat × Nat)} (S : CallFix p m c cc nL s args Ts own) (hM : vx_Met l y ws rm Pc Qc XC mc ms free) (cw : vx_CVW R s args own C index y bytes maxL ret hh ws rm mc ms n) (hp : PreV s H C b Pc As)
    (hg : g.method = m) (hn : As.length = n) (hsize : g.locals.size = nL) (hstack : g.stack = As.reverse ++ .ref b :: rest) (hW : 2 * g.monitorRoom + (rest.map fun v => v.category).sum ≤ 8) (hdg : decode cc g.pc = .ok (.invokevirtual index, 3)) (hf : cells + mc ≤ R.cells ∧ slots + ms ≤ R.slots) :
    vx_Run p l e R s m args below meth c H locs cells slots mc ms g rest (Qc (Value.ref b :: As).toArray) XC free := by
  obtain ⟨⟨hrc, hrs, hfr, hlo, hws, hcw⟩, hcode, hini, hy, hlen, hl, hin, hse⟩ := cw
  have hK : vx_Back l R p e below s args y 3 8 (PreOf R mc ms Pc) (PostOf Qc mc ms free) (vx_Post XC mc ms free) := vx_backW (hh := hh) (bytes := bytes) (maxL := maxL) (ret := ret) hM hp.1 hrc hrs hfr hlo hws hcw (fun a' U hW => word_at hW (Or.inl (by first | rfl | simp [Cond.onTables, Cond.keeps, Cond.steady])) hini)
  obtain ⟨hx, hb, hml, ho, -⟩ := S
  obtain ⟨-, ⟨cellB, hcB, hoB, hclB⟩, hPc⟩ := hp
  intro T hT X
  rcases vx_callVX X hx (C := C) (hh := hh) (bytes := bytes) (maxL := maxL) (ret := ret) ho hl hin hse hcode hy hK (by rw [hT]; exact hcB) hoB hclB hg (hsize.trans hml.symm) (argsL := As) (rest := rest) (fun sig h => hn.trans (hlen sig h)) hstack hW (by rw [hb]; exact hdg)
    (fun vm₁ hW₁ => ⟨hf.1, hf.2, hPc (T.setVm vm₁) hT hW₁⟩) with ⟨v, vm₁, ⟨U', l2, c2, s2⟩, hW₁, X', ⟨g', mk, t, L, e1, e2, hq, h1, hL, h2, h3⟩, st⟩ | ⟨q, vm₁, ⟨U', l2, c2, s2⟩, hW₁, X', ⟨g', mk, t, L, E, ce, e1, e2, hq, hce, hcv, hcl, h1, hL, h2, h3⟩, st⟩
  · dsimp only [Pt.U, Pt.locs, Pt.cells, Pt.slots] at X' e1 e2 h1 h2 h3 st
    subst h1; subst h2; subst h3
    exact Or.inl ⟨v, (T.setVm vm₁).calling g' mk (Value.ref b :: As).toArray, t, U', L, hT, X', hL, e1, e2, hq, st⟩
  · dsimp only [Pt.U, Pt.locs, Pt.cells, Pt.slots] at X' e1 e2 h1 h2 h3 st hcl
    subst h1; subst h2; subst h3
    exact Or.inr ⟨q, (T.setVm vm₁).calling g' mk (Value.ref b :: As).toArray, t, U', L, E, ce, hT, X', hL, e1, e2, hq, hce, hcv, vx_cls hW₁ hcl, st⟩
theorem vx_runSX {hh : List (Nat × Nat × Nat × Nat)} (S : CallFix p m c cc nL s args Ts own) (hM : vx_Met l y ws rm Pc Qc XC mc ms free) (cw : vx_CSW R s args own index y bytes maxL ret hh ws rm mc ms n) (hp : PreS s H Pc As)
    (hg : g.method = m) (hn : As.length = n) (hsize : g.locals.size = nL) (hstack : g.stack = As.reverse ++ rest) (hW : 2 * g.monitorRoom + (rest.map fun v => v.category).sum ≤ 8) (hdg : decode cc g.pc = .ok (.invokestatic index, 3)) (hf : cells + mc ≤ R.cells ∧ slots + ms ≤ R.slots) :
    vx_Run p l e R s m args below meth c H locs cells slots mc ms g rest (Qc As.toArray) XC free := by
  obtain ⟨⟨hrc, hrs, hfr, hlo, hws, hcw⟩, hcode, hini, hy, hlen, hl, hstt⟩ := cw
  have hK : vx_Back l R p e below s args y 3 8 (PreOf R mc ms Pc) (PostOf Qc mc ms free) (vx_Post XC mc ms free) := vx_backW (hh := hh) (bytes := bytes) (maxL := maxL) (ret := ret) hM hp.1 hrc hrs hfr hlo hws hcw (fun a' U hW => word_at hW (Or.inl (by first | rfl | simp [Cond.onTables, Cond.keeps, Cond.steady])) hini)
  obtain ⟨hx, hb, hml, ho, -⟩ := S
  intro T hT X
  rcases vx_callSX X hx (hh := hh) (bytes := bytes) (maxL := maxL) (ret := ret) ho hl hstt hini hcode hy hK hg (hsize.trans hml.symm) (argsL := As) (rest := rest) (fun sig h => hn.trans (hlen sig h)) hstack hW (by rw [hb]; exact hdg)
    (fun vm₁ hW₁ => ⟨hf.1, hf.2, hp.2 (T.setVm vm₁) hT hW₁⟩) with ⟨v, vm₁, ⟨U', l2, c2, s2⟩, hW₁, X', ⟨g', mk, t, L, e1, e2, hq, h1, hL, h2, h3⟩, st⟩ | ⟨q, vm₁, ⟨U', l2, c2, s2⟩, hW₁, X', ⟨g', mk, t, L, E, ce, e1, e2, hq, hce, hcv, hcl, h1, hL, h2, h3⟩, st⟩
  · dsimp only [Pt.U, Pt.locs, Pt.cells, Pt.slots] at X' e1 e2 h1 h2 h3 st
    subst h1; subst h2; subst h3
    exact Or.inl ⟨v, (T.setVm vm₁).calling g' mk As.toArray, t, U', L, hT, X', hL, e1, e2, hq, st⟩
  · dsimp only [Pt.U, Pt.locs, Pt.cells, Pt.slots] at X' e1 e2 h1 h2 h3 st hcl
    subst h1; subst h2; subst h3
    exact Or.inr ⟨q, (T.setVm vm₁).calling g' mk As.toArray, t, U', L, E, ce, hT, X', hL, e1, e2, hq, hce, hcv, vx_cls hW₁ hcl, st⟩
end
end VXH
theorem vx_ofWH {l : Launch} {y : MethodName} {ws ws' : List Cond} {rm : Room} {Pc : Array Value → State → Prop} {Qc : Array Value → State → Outcome → State → Prop} {XC : String → State → State → Prop} {mc ms : Nat} {free : Addr → Prop} {cc : ByteArray} {maxL : Nat} {ret : Option FieldType} {hh : List (Nat × Nat × Nat × Nat)}
    (hy : plainName y.cls = true) (hw : ws = Cond.codeWith y cc maxL ret hh :: ws')
    (body : ∀ p e s m args below meth c s₁, BodyLoose p l y (headSpec ws rm) cc maxL ret e s m args below meth c s₁ → c.maxLocals = maxL → Pc args s →
      W p l e (headSpec ws rm).room s m args below meth c s.heap [] 0 0 (vx_MQ below Qc XC args s mc ms free) (entryFrame m args maxL)) : vx_Met l y ws rm Pc Qc XC mc ms free := by
  refine MetFree.of_bodyS (code := cc) (maxLocals := maxL) (ret := ret) hy ?_ ?_
  · intro args s m h hn
    obtain ⟨m9, meth, c, hn9, h1, h2, h3, h4, -, h5, h6, -⟩ := Cond.codeWith_spec (atoms_spec (ws := ws) h _ (by rw [hw]; exact List.mem_cons_self))
    cases hn.symm.trans hn9
    exact ⟨meth, c, h1, h2, h3, h4, h5, h6⟩
  · intro p e s m args below meth c s₁ B hml hP _
    have hh0 : s₁.heap = s.heap := by rw [B.state]; rfl
    obtain ⟨t, a1, o, b1, b2, b3⟩ := body p e s m args below meth c s₁ B hml hP s₁ hh0 (Stand.of_body B)
    exact ⟨t, o, a1, b1, b2, b3⟩
/-! ===== END ===== -/

def RX0 : String := "Collationer$Collator"
def TX0 : u_T := fun k => match k with
  | 0 => ("Collationer$Collator", "elements", "LCollationer$Elements;", true)
  | 1 => ("Collationer$Collator", "partElements", "LCollationer$Elements;", true)
  | 2 => ("Collationer$Collator", "weights", "LCollationer$Row;", true)
  | 3 => ("Collationer$Collator", "otherWeights", "LCollationer$Row;", true)
  | 4 => ("Collationer$Collator", "bytes", "LCollationer$Row;", true)
  | 5 => ("Collationer$Collator", "otherBytes", "LCollationer$Row;", true)
  | _ => ("Collationer$Collator", "part", "LCollationer$Row;", true)
def tyX0 : Nat → FieldType := fun k => match k with
  | 0 => .object "Collationer$Elements"
  | 1 => .object "Collationer$Elements"
  | 2 => .object "Collationer$Row"
  | 3 => .object "Collationer$Row"
  | 4 => .object "Collationer$Row"
  | 5 => .object "Collationer$Row"
  | _ => .object "Collationer$Row"
theorem nmX0 : ∀ a, a < 7 → ∀ b, b < 7 → a ≠ b → (TX0 a).2.1 ≠ (TX0 b).2.1 := by decide +kernel
theorem tyX0_ok : ∀ k, k < 7 → parseFieldDescriptor (TX0 k).2.2.1 = some (tyX0 k) := by decide +kernel
abbrev cX0_init : ByteArray := prog_2_method_1_code
def yX0_init : MethodName := ⟨RX0, "<init>", "()V"⟩
abbrev cX0_putKey : ByteArray := prog_2_method_3_code
def yX0_putKey : MethodName := ⟨RX0, "putKey", "(LCollationer$Tailoring;ILCollationer$Row;LCollationer$Row;)V"⟩
abbrev cX0_firstWeightIn : ByteArray := prog_2_method_4_code
def yX0_firstWeightIn : MethodName := ⟨RX0, "firstWeightIn", "(LCollationer$Row;)I"⟩
abbrev cX0_putRaised : ByteArray := prog_2_method_5_code
def yX0_putRaised : MethodName := ⟨RX0, "putRaised", "(LCollationer$Row;LCollationer$Row;)V"⟩
abbrev cX0_putRuns : ByteArray := prog_2_method_6_code
def yX0_putRuns : MethodName := ⟨RX0, "putRuns", "(LCollationer$Row;LCollationer$Row;)V"⟩
abbrev cX0_putRun : ByteArray := prog_2_method_7_code
def yX0_putRun : MethodName := ⟨RX0, "putRun", "(IZLCollationer$Row;)V"⟩
abbrev cX0_byteAt : ByteArray := prog_2_method_8_code
def yX0_byteAt : MethodName := ⟨RX0, "byteAt", "(LCollationer$Tailoring;ILCollationer$Row;I)I"⟩
abbrev cX0_compareByKeys : ByteArray := prog_2_method_9_code
def yX0_compareByKeys : MethodName := ⟨RX0, "compareByKeys", "(LCollationer$Tailoring;ILCollationer$Row;LCollationer$Row;)I"⟩
abbrev cX0_compareByRows : ByteArray := prog_2_method_10_code
def yX0_compareByRows : MethodName := ⟨RX0, "compareByRows", "(LCollationer$Tailoring;ILCollationer$Row;LCollationer$Row;)I"⟩
def RX1 : String := "Collationer$Compositions"
def TX1 : u_T := fun k => match k with
  | 0 => ("Collationer$Compositions", "bases", "[I", true)
  | 1 => ("Collationer$Compositions", "marks", "[I", true)
  | _ => ("Collationer$Compositions", "count", "I", false)
def tyX1 : Nat → FieldType := fun k => match k with
  | 0 => .array .int
  | 1 => .array .int
  | _ => .int
theorem nmX1 : ∀ a, a < 3 → ∀ b, b < 3 → a ≠ b → (TX1 a).2.1 ≠ (TX1 b).2.1 := by decide +kernel
theorem tyX1_ok : ∀ k, k < 3 → parseFieldDescriptor (TX1 k).2.2.1 = some (tyX1 k) := by decide +kernel
abbrev cX1_init : ByteArray := prog_3_method_1_code
def yX1_init : MethodName := ⟨RX1, "<init>", "()V"⟩
abbrev cX1_count : ByteArray := prog_3_method_2_code
def yX1_count : MethodName := ⟨RX1, "count", "()I"⟩
abbrev cX1_has : ByteArray := prog_3_method_3_code
def yX1_has : MethodName := ⟨RX1, "has", "(I)Z"⟩
abbrev cX1_baseOf : ByteArray := prog_3_method_4_code
def yX1_baseOf : MethodName := ⟨RX1, "baseOf", "(I)I"⟩
abbrev cX1_markOf : ByteArray := prog_3_method_5_code
def yX1_markOf : MethodName := ⟨RX1, "markOf", "(I)I"⟩
abbrev cX1_canBeBase : ByteArray := prog_3_method_6_code
def yX1_canBeBase : MethodName := ⟨RX1, "canBeBase", "(I)Z"⟩
abbrev cX1_tell : ByteArray := prog_3_method_7_code
def yX1_tell : MethodName := ⟨RX1, "tell", "(III)V"⟩
abbrev cX1_composedOf : ByteArray := prog_3_method_8_code
def yX1_composedOf : MethodName := ⟨RX1, "composedOf", "(II)I"⟩
abbrev cX1_takeApart : ByteArray := prog_3_method_9_code
def yX1_takeApart : MethodName := ⟨RX1, "takeApart", "(LCollationer$Row;LCollationer$Row;)V"⟩
abbrev cX1_putApart : ByteArray := prog_3_method_10_code
def yX1_putApart : MethodName := ⟨RX1, "putApart", "(ILCollationer$Row;)V"⟩
abbrev cX1_sinkMark : ByteArray := prog_3_method_11_code
def yX1_sinkMark : MethodName := ⟨RX1, "sinkMark", "(LCollationer$Row;I)V"⟩
abbrev cX1_putTogether : ByteArray := prog_3_method_12_code
def yX1_putTogether : MethodName := ⟨RX1, "putTogether", "(LCollationer$Row;LCollationer$Row;)V"⟩
def RX2 : String := "Collationer$Corpus"
def TX2 : u_T := fun k => match k with
  | 0 => ("Collationer$Corpus", "wordTexts", "LCollationer$Row;", true)
  | 1 => ("Collationer$Corpus", "wordReads", "LCollationer$Row;", true)
  | _ => ("Collationer$Corpus", "readings", "[LCollationer$Row;", true)
def tyX2 : Nat → FieldType := fun k => match k with
  | 0 => .object "Collationer$Row"
  | 1 => .object "Collationer$Row"
  | _ => .array (.object "Collationer$Row")
theorem nmX2 : ∀ a, a < 3 → ∀ b, b < 3 → a ≠ b → (TX2 a).2.1 ≠ (TX2 b).2.1 := by decide +kernel
theorem tyX2_ok : ∀ k, k < 3 → parseFieldDescriptor (TX2 k).2.2.1 = some (tyX2 k) := by decide +kernel
abbrev cX2_init : ByteArray := prog_4_method_1_code
def yX2_init : MethodName := ⟨RX2, "<init>", "()V"⟩
abbrev cX2_wordCount : ByteArray := prog_4_method_2_code
def yX2_wordCount : MethodName := ⟨RX2, "wordCount", "()I"⟩
abbrev cX2_hasWord : ByteArray := prog_4_method_3_code
def yX2_hasWord : MethodName := ⟨RX2, "hasWord", "(I)Z"⟩
abbrev cX2_addWord : ByteArray := prog_4_method_4_code
def yX2_addWord : MethodName := ⟨RX2, "addWord", "(I)V"⟩
abbrev cX2_textOf : ByteArray := prog_4_method_5_code
def yX2_textOf : MethodName := ⟨RX2, "textOf", "(I)I"⟩
abbrev cX2_readAs : ByteArray := prog_4_method_6_code
def yX2_readAs : MethodName := ⟨RX2, "readAs", "(I)I"⟩
abbrev cX2_readingsOf : ByteArray := prog_4_method_8_code
def yX2_readingsOf : MethodName := ⟨RX2, "readingsOf", "(I)LCollationer$Row;"⟩
abbrev cX2_isOf : ByteArray := prog_4_method_9_code
def yX2_isOf : MethodName := ⟨RX2, "isOf", "(II)Z"⟩
abbrev cX2_countOf : ByteArray := prog_4_method_10_code
def yX2_countOf : MethodName := ⟨RX2, "countOf", "(I)I"⟩
def RX3 : String := "Collationer$Elements"
def TX3 : u_T := fun k => match k with
  | 0 => ("Collationer$Elements", "firsts", "LCollationer$Row;", true)
  | 1 => ("Collationer$Elements", "seconds", "LCollationer$Row;", true)
  | 2 => ("Collationer$Elements", "thirds", "LCollationer$Row;", true)
  | 3 => ("Collationer$Elements", "kinds", "LCollationer$Row;", true)
  | 4 => ("Collationer$Elements", "takers", "LCollationer$Row;", true)
  | _ => ("Collationer$Elements", "kind", "I", false)
def tyX3 : Nat → FieldType := fun k => match k with
  | 0 => .object "Collationer$Row"
  | 1 => .object "Collationer$Row"
  | 2 => .object "Collationer$Row"
  | 3 => .object "Collationer$Row"
  | 4 => .object "Collationer$Row"
  | _ => .int
theorem nmX3 : ∀ a, a < 6 → ∀ b, b < 6 → a ≠ b → (TX3 a).2.1 ≠ (TX3 b).2.1 := by decide +kernel
theorem tyX3_ok : ∀ k, k < 6 → parseFieldDescriptor (TX3 k).2.2.1 = some (tyX3 k) := by decide +kernel
abbrev cX3_init : ByteArray := prog_5_method_1_code
def yX3_init : MethodName := ⟨RX3, "<init>", "()V"⟩
abbrev cX3_gather : ByteArray := prog_5_method_2_code
def yX3_gather : MethodName := ⟨RX3, "gather", "(LCollationer$Tailoring;LCollationer$Row;)V"⟩
abbrev cX3_begin : ByteArray := prog_5_method_3_code
def yX3_begin : MethodName := ⟨RX3, "begin", "(I)V"⟩
abbrev cX3_put : ByteArray := prog_5_method_4_code
def yX3_put : MethodName := ⟨RX3, "put", "(III)V"⟩
abbrev cX3_take : ByteArray := prog_5_method_5_code
def yX3_take : MethodName := ⟨RX3, "take", "(III)V"⟩
abbrev cX3_putMark : ByteArray := prog_5_method_6_code
def yX3_putMark : MethodName := ⟨RX3, "putMark", "(II)V"⟩
abbrev cX3_putNumber : ByteArray := prog_5_method_7_code
def yX3_putNumber : MethodName := ⟨RX3, "putNumber", "(LCollationer$Tailoring;LCollationer$Row;I)V"⟩
abbrev cX3_putItem : ByteArray := prog_5_method_8_code
def yX3_putItem : MethodName := ⟨RX3, "putItem", "(LCollationer$Tailoring;LCollationer$Row;I)V"⟩
abbrev cX3_takeMarks : ByteArray := prog_5_method_9_code
def yX3_takeMarks : MethodName := ⟨RX3, "takeMarks", "(LCollationer$Tailoring;LCollationer$Row;II)I"⟩
abbrev cX3_putLevel : ByteArray := prog_5_method_12_code
def yX3_putLevel : MethodName := ⟨RX3, "putLevel", "(LCollationer$Tailoring;ILCollationer$Row;)V"⟩
abbrev cX3_weightOn : ByteArray := prog_5_method_13_code
def yX3_weightOn : MethodName := ⟨RX3, "weightOn", "(IZI)I"⟩
abbrev cX3_lastWeight : ByteArray := prog_5_method_14_code
def yX3_lastWeight : MethodName := ⟨RX3, "lastWeight", "(ZI)I"⟩
def RX4 : String := "Collationer$Entry"
def TX4 : u_T := fun k => match k with
  | 0 => ("Collationer$Entry", "textNumber", "I", false)
  | 1 => ("Collationer$Entry", "parent", "I", false)
  | 2 => ("Collationer$Entry", "indexSet", "I", false)
  | 3 => ("Collationer$Entry", "formKind", "I", false)
  | 4 => ("Collationer$Entry", "formSigns", "I", false)
  | 5 => ("Collationer$Entry", "locators", "LCollationer$Row;", true)
  | 6 => ("Collationer$Entry", "staying", "LCollationer$Row;", true)
  | 7 => ("Collationer$Entry", "seen", "I", false)
  | _ => ("Collationer$Entry", "seenAlso", "I", false)
def tyX4 : Nat → FieldType := fun k => match k with
  | 0 => .int
  | 1 => .int
  | 2 => .int
  | 3 => .int
  | 4 => .int
  | 5 => .object "Collationer$Row"
  | 6 => .object "Collationer$Row"
  | 7 => .int
  | _ => .int
theorem nmX4 : ∀ a, a < 9 → ∀ b, b < 9 → a ≠ b → (TX4 a).2.1 ≠ (TX4 b).2.1 := by decide +kernel
theorem tyX4_ok : ∀ k, k < 9 → parseFieldDescriptor (TX4 k).2.2.1 = some (tyX4 k) := by decide +kernel
abbrev cX4_init : ByteArray := prog_6_method_1_code
def yX4_init : MethodName := ⟨RX4, "<init>", "()V"⟩
abbrev cX4_begin : ByteArray := prog_6_method_2_code
def yX4_begin : MethodName := ⟨RX4, "begin", "(III)V"⟩
abbrev cX4_textNumber : ByteArray := prog_6_method_3_code
def yX4_textNumber : MethodName := ⟨RX4, "textNumber", "()I"⟩
abbrev cX4_parent : ByteArray := prog_6_method_4_code
def yX4_parent : MethodName := ⟨RX4, "parent", "()I"⟩
abbrev cX4_hasParent : ByteArray := prog_6_method_5_code
def yX4_hasParent : MethodName := ⟨RX4, "hasParent", "()Z"⟩
abbrev cX4_indexSet : ByteArray := prog_6_method_6_code
def yX4_indexSet : MethodName := ⟨RX4, "indexSet", "()I"⟩
abbrev cX4_isIn : ByteArray := prog_6_method_7_code
def yX4_isIn : MethodName := ⟨RX4, "isIn", "(I)Z"⟩
abbrev cX4_formKind : ByteArray := prog_6_method_8_code
def yX4_formKind : MethodName := ⟨RX4, "formKind", "()I"⟩
abbrev cX4_formSigns : ByteArray := prog_6_method_9_code
def yX4_formSigns : MethodName := ⟨RX4, "formSigns", "()I"⟩
abbrev cX4_isTurned : ByteArray := prog_6_method_10_code
def yX4_isTurned : MethodName := ⟨RX4, "isTurned", "()Z"⟩
abbrev cX4_setForm : ByteArray := prog_6_method_11_code
def yX4_setForm : MethodName := ⟨RX4, "setForm", "(II)V"⟩
abbrev cX4_locators : ByteArray := prog_6_method_12_code
def yX4_locators : MethodName := ⟨RX4, "locators", "()LCollationer$Row;"⟩
abbrev cX4_rankOf : ByteArray := prog_6_method_13_code
def yX4_rankOf : MethodName := ⟨RX4, "rankOf", "(I)I"⟩
abbrev cX4_locatorCode : ByteArray := prog_6_method_14_code
def yX4_locatorCode : MethodName := ⟨RX4, "locatorCode", "(II)I"⟩
abbrev cX4_pageOf : ByteArray := prog_6_method_15_code
def yX4_pageOf : MethodName := ⟨RX4, "pageOf", "(I)I"⟩
abbrev cX4_sortOf : ByteArray := prog_6_method_16_code
def yX4_sortOf : MethodName := ⟨RX4, "sortOf", "(I)I"⟩
abbrev cX4_hasLocator : ByteArray := prog_6_method_17_code
def yX4_hasLocator : MethodName := ⟨RX4, "hasLocator", "(II)Z"⟩
abbrev cX4_addLocator : ByteArray := prog_6_method_18_code
def yX4_addLocator : MethodName := ⟨RX4, "addLocator", "(II)V"⟩
abbrev cX4_seen : ByteArray := prog_6_method_20_code
def yX4_seen : MethodName := ⟨RX4, "seen", "()I"⟩
abbrev cX4_seesAlso : ByteArray := prog_6_method_21_code
def yX4_seesAlso : MethodName := ⟨RX4, "seesAlso", "(I)Z"⟩
abbrev cX4_alsoCount : ByteArray := prog_6_method_22_code
def yX4_alsoCount : MethodName := ⟨RX4, "alsoCount", "()I"⟩
abbrev cX4_addReference : ByteArray := prog_6_method_23_code
def yX4_addReference : MethodName := ⟨RX4, "addReference", "(IZ)V"⟩
def RX5 : String := "Collationer$Groups"
def TX5 : u_T := fun k => match k with
  | 0 => ("Collationer$Groups", "sorts", "LCollationer$Row;", true)
  | 1 => ("Collationer$Groups", "firsts", "LCollationer$Row;", true)
  | _ => ("Collationer$Groups", "lasts", "LCollationer$Row;", true)
def tyX5 : Nat → FieldType := fun k => match k with
  | 0 => .object "Collationer$Row"
  | 1 => .object "Collationer$Row"
  | _ => .object "Collationer$Row"
theorem nmX5 : ∀ a, a < 3 → ∀ b, b < 3 → a ≠ b → (TX5 a).2.1 ≠ (TX5 b).2.1 := by decide +kernel
theorem tyX5_ok : ∀ k, k < 3 → parseFieldDescriptor (TX5 k).2.2.1 = some (tyX5 k) := by decide +kernel
abbrev cX5_init : ByteArray := prog_7_method_1_code
def yX5_init : MethodName := ⟨RX5, "<init>", "()V"⟩
abbrev cX5_count : ByteArray := prog_7_method_2_code
def yX5_count : MethodName := ⟨RX5, "count", "()I"⟩
abbrev cX5_asNumber : ByteArray := prog_7_method_3_code
def yX5_asNumber : MethodName := ⟨RX5, "asNumber", "(I)I"⟩
abbrev cX5_gather : ByteArray := prog_7_method_4_code
def yX5_gather : MethodName := ⟨RX5, "gather", "(LCollationer$Row;)V"⟩
abbrev cX5_addPage : ByteArray := prog_7_method_5_code
def yX5_addPage : MethodName := ⟨RX5, "addPage", "(II)V"⟩
abbrev cX5_joinFrom : ByteArray := prog_7_method_6_code
def yX5_joinFrom : MethodName := ⟨RX5, "joinFrom", "(I)V"⟩
def RX6 : String := "Collationer$Index"
def TX6 : u_T := fun k => match k with
  | 0 => ("Collationer$Index", "order", "LCollationer$Row;", true)
  | 1 => ("Collationer$Index", "firstWeights", "LCollationer$Row;", true)
  | 2 => ("Collationer$Index", "before", "LCollationer$Row;", true)
  | _ => ("Collationer$Index", "isOrdered", "Z", false)
def tyX6 : Nat → FieldType := fun k => match k with
  | 0 => .object "Collationer$Row"
  | 1 => .object "Collationer$Row"
  | 2 => .object "Collationer$Row"
  | _ => .boolean
theorem nmX6 : ∀ a, a < 4 → ∀ b, b < 4 → a ≠ b → (TX6 a).2.1 ≠ (TX6 b).2.1 := by decide +kernel
theorem tyX6_ok : ∀ k, k < 4 → parseFieldDescriptor (TX6 k).2.2.1 = some (tyX6 k) := by decide +kernel
abbrev cX6_init : ByteArray := prog_8_method_1_code
def yX6_init : MethodName := ⟨RX6, "<init>", "()V"⟩
abbrev cX6_isOrdered : ByteArray := prog_8_method_2_code
def yX6_isOrdered : MethodName := ⟨RX6, "isOrdered", "()Z"⟩
abbrev cX6_order : ByteArray := prog_8_method_3_code
def yX6_order : MethodName := ⟨RX6, "order", "()LCollationer$Row;"⟩
abbrev cX6_begin : ByteArray := prog_8_method_4_code
def yX6_begin : MethodName := ⟨RX6, "begin", "()V"⟩
abbrev cX6_addFirstWeight : ByteArray := prog_8_method_5_code
def yX6_addFirstWeight : MethodName := ⟨RX6, "addFirstWeight", "(I)V"⟩
abbrev cX6_firstWeightOf : ByteArray := prog_8_method_6_code
def yX6_firstWeightOf : MethodName := ⟨RX6, "firstWeightOf", "(I)I"⟩
abbrev cX6_forget : ByteArray := prog_8_method_7_code
def yX6_forget : MethodName := ⟨RX6, "forget", "()V"⟩
abbrev cX6_before : ByteArray := prog_8_method_8_code
def yX6_before : MethodName := ⟨RX6, "before", "()LCollationer$Row;"⟩
abbrev cX6_remember : ByteArray := prog_8_method_9_code
def yX6_remember : MethodName := ⟨RX6, "remember", "(LCollationer$Row;)V"⟩
def RX7 : String := "Collationer$Pins"
def TX7 : u_T := fun k => match k with
  | 0 => ("Collationer$Pins", "pages", "LCollationer$Row;", true)
  | _ => ("Collationer$Pins", "nexts", "LCollationer$Row;", true)
def tyX7 : Nat → FieldType := fun k => match k with
  | 0 => .object "Collationer$Row"
  | _ => .object "Collationer$Row"
theorem nmX7 : ∀ a, a < 2 → ∀ b, b < 2 → a ≠ b → (TX7 a).2.1 ≠ (TX7 b).2.1 := by decide +kernel
theorem tyX7_ok : ∀ k, k < 2 → parseFieldDescriptor (TX7 k).2.2.1 = some (tyX7 k) := by decide +kernel
abbrev cX7_init : ByteArray := prog_9_method_1_code
def yX7_init : MethodName := ⟨RX7, "<init>", "()V"⟩
def RX8 : String := "Collationer$Row"
def TX8 : u_T := fun k => match k with
  | 0 => ("Collationer$Row", "cells", "[I", true)
  | _ => ("Collationer$Row", "size", "I", false)
def tyX8 : Nat → FieldType := fun k => match k with
  | 0 => .array .int
  | _ => .int
theorem nmX8 : ∀ a, a < 2 → ∀ b, b < 2 → a ≠ b → (TX8 a).2.1 ≠ (TX8 b).2.1 := by decide +kernel
theorem tyX8_ok : ∀ k, k < 2 → parseFieldDescriptor (TX8 k).2.2.1 = some (tyX8 k) := by decide +kernel
abbrev cX8_init : ByteArray := prog_10_method_1_code
def yX8_init : MethodName := ⟨RX8, "<init>", "(I)V"⟩
abbrev cX8_size : ByteArray := prog_10_method_2_code
def yX8_size : MethodName := ⟨RX8, "size", "()I"⟩
abbrev cX8_isEmpty : ByteArray := prog_10_method_3_code
def yX8_isEmpty : MethodName := ⟨RX8, "isEmpty", "()Z"⟩
abbrev cX8_at : ByteArray := prog_10_method_4_code
def yX8_at : MethodName := ⟨RX8, "at", "(I)I"⟩
abbrev cX8_set : ByteArray := prog_10_method_5_code
def yX8_set : MethodName := ⟨RX8, "set", "(II)V"⟩
abbrev cX8_put : ByteArray := prog_10_method_6_code
def yX8_put : MethodName := ⟨RX8, "put", "(I)V"⟩
abbrev cX8_insert : ByteArray := prog_10_method_7_code
def yX8_insert : MethodName := ⟨RX8, "insert", "(II)V"⟩
abbrev cX8_removeAt : ByteArray := prog_10_method_8_code
def yX8_removeAt : MethodName := ⟨RX8, "removeAt", "(I)V"⟩
abbrev cX8_clear : ByteArray := prog_10_method_9_code
def yX8_clear : MethodName := ⟨RX8, "clear", "()V"⟩
abbrev cX8_append : ByteArray := prog_10_method_10_code
def yX8_append : MethodName := ⟨RX8, "append", "(LCollationer$Row;II)V"⟩
abbrev cX8_copy : ByteArray := prog_10_method_11_code
def yX8_copy : MethodName := ⟨RX8, "copy", "(LCollationer$Row;)V"⟩
abbrev cX8_placeOf : ByteArray := prog_10_method_12_code
def yX8_placeOf : MethodName := ⟨RX8, "placeOf", "(I)I"⟩
abbrev cX8_has : ByteArray := prog_10_method_13_code
def yX8_has : MethodName := ⟨RX8, "has", "(I)Z"⟩
def RX9 : String := "Collationer$Tailoring"
def TX9 : u_T := fun k => match k with
  | 0 => ("Collationer$Tailoring", "items", "LCollationer$Row;", true)
  | 1 => ("Collationer$Tailoring", "levels", "LCollationer$Row;", true)
  | 2 => ("Collationer$Tailoring", "firsts", "LCollationer$Row;", true)
  | 3 => ("Collationer$Tailoring", "seconds", "LCollationer$Row;", true)
  | 4 => ("Collationer$Tailoring", "thirds", "LCollationer$Row;", true)
  | 5 => ("Collationer$Tailoring", "severalItems", "LCollationer$Row;", true)
  | 6 => ("Collationer$Tailoring", "severalSigns", "LCollationer$Row;", true)
  | 7 => ("Collationer$Tailoring", "hows", "LCollationer$Row;", true)
  | 8 => ("Collationer$Tailoring", "anchorCodes", "LCollationer$Row;", true)
  | 9 => ("Collationer$Tailoring", "itemCodes", "LCollationer$Row;", true)
  | _ => ("Collationer$Tailoring", "options", "[Z", true)
def tyX9 : Nat → FieldType := fun k => match k with
  | 0 => .object "Collationer$Row"
  | 1 => .object "Collationer$Row"
  | 2 => .object "Collationer$Row"
  | 3 => .object "Collationer$Row"
  | 4 => .object "Collationer$Row"
  | 5 => .object "Collationer$Row"
  | 6 => .object "Collationer$Row"
  | 7 => .object "Collationer$Row"
  | 8 => .object "Collationer$Row"
  | 9 => .object "Collationer$Row"
  | _ => .array .boolean
theorem nmX9 : ∀ a, a < 11 → ∀ b, b < 11 → a ≠ b → (TX9 a).2.1 ≠ (TX9 b).2.1 := by decide +kernel
theorem tyX9_ok : ∀ k, k < 11 → parseFieldDescriptor (TX9 k).2.2.1 = some (tyX9 k) := by decide +kernel
abbrev cX9_init : ByteArray := prog_11_method_1_code
def yX9_init : MethodName := ⟨RX9, "<init>", "()V"⟩
abbrev cX9_addItem : ByteArray := prog_11_method_2_code
def yX9_addItem : MethodName := ⟨RX9, "addItem", "(II)V"⟩
abbrev cX9_weigh : ByteArray := prog_11_method_3_code
def yX9_weigh : MethodName := ⟨RX9, "weigh", "()V"⟩
abbrev cX9_hasOption : ByteArray := prog_11_method_4_code
def yX9_hasOption : MethodName := ⟨RX9, "hasOption", "(I)Z"⟩
abbrev cX9_setOption : ByteArray := prog_11_method_5_code
def yX9_setOption : MethodName := ⟨RX9, "setOption", "(IZ)V"⟩
abbrev cX9_itemCount : ByteArray := prog_11_method_6_code
def yX9_itemCount : MethodName := ⟨RX9, "itemCount", "()I"⟩
abbrev cX9_ruleCount : ByteArray := prog_11_method_7_code
def yX9_ruleCount : MethodName := ⟨RX9, "ruleCount", "()I"⟩
abbrev cX9_levelAndItem : ByteArray := prog_11_method_8_code
def yX9_levelAndItem : MethodName := ⟨RX9, "levelAndItem", "(I)I"⟩
abbrev cX9_knows : ByteArray := prog_11_method_9_code
def yX9_knows : MethodName := ⟨RX9, "knows", "(I)Z"⟩
abbrev cX9_firstWeightOf : ByteArray := prog_11_method_10_code
def yX9_firstWeightOf : MethodName := ⟨RX9, "firstWeightOf", "(I)I"⟩
abbrev cX9_putWeights : ByteArray := prog_11_method_11_code
def yX9_putWeights : MethodName := ⟨RX9, "putWeights", "(ILCollationer$Elements;)V"⟩
abbrev cX9_canTell : ByteArray := prog_11_method_12_code
def yX9_canTell : MethodName := ⟨RX9, "canTell", "(III)Z"⟩
abbrev cX9_canBeItem : ByteArray := prog_11_method_13_code
def yX9_canBeItem : MethodName := ⟨RX9, "canBeItem", "(I)Z"⟩
abbrev cX9_canSortAs : ByteArray := prog_11_method_14_code
def yX9_canSortAs : MethodName := ⟨RX9, "canSortAs", "(II)Z"⟩
abbrev cX9_isOneOfSeveral : ByteArray := prog_11_method_15_code
def yX9_isOneOfSeveral : MethodName := ⟨RX9, "isOneOfSeveral", "(I)Z"⟩
abbrev cX9_tell : ByteArray := prog_11_method_16_code
def yX9_tell : MethodName := ⟨RX9, "tell", "(III)V"⟩
abbrev cX9_leaveList : ByteArray := prog_11_method_17_code
def yX9_leaveList : MethodName := ⟨RX9, "leaveList", "(I)V"⟩
abbrev cX9_leaveSeveral : ByteArray := prog_11_method_18_code
def yX9_leaveSeveral : MethodName := ⟨RX9, "leaveSeveral", "(I)V"⟩
abbrev cX9_putBehind : ByteArray := prog_11_method_19_code
def yX9_putBehind : MethodName := ⟨RX9, "putBehind", "(III)V"⟩
abbrev cX9_putAhead : ByteArray := prog_11_method_20_code
def yX9_putAhead : MethodName := ⟨RX9, "putAhead", "(III)V"⟩
def RX10 : String := "Collationer"
def TX10 : u_T := fun k => match k with
  | 0 => ("Collationer", "compositions", "LCollationer$Compositions;", true)
  | 1 => ("Collationer", "draft", "LCollationer$Row;", true)
  | 2 => ("Collationer", "ruleAnchor", "LCollationer$Row;", true)
  | 3 => ("Collationer", "apartTexts", "[LCollationer$Row;", true)
  | 4 => ("Collationer", "textCount", "I", false)
  | 5 => ("Collationer", "tailorings", "[LCollationer$Tailoring;", true)
  | 6 => ("Collationer", "trial", "LCollationer$Tailoring;", true)
  | 7 => ("Collationer", "isHeading", "[Z", true)
  | 8 => ("Collationer", "allEntries", "[LCollationer$Entry;", true)
  | 9 => ("Collationer", "entryCount", "I", false)
  | 10 => ("Collationer", "orders", "[LCollationer$Index;", true)
  | 11 => ("Collationer", "corpus", "LCollationer$Corpus;", true)
  | 12 => ("Collationer", "pins", "LCollationer$Pins;", true)
  | 13 => ("Collationer", "columnWidth", "I", false)
  | 14 => ("Collationer", "columnHeight", "I", false)
  | 15 => ("Collationer", "collator", "LCollationer$Collator;", true)
  | 16 => ("Collationer", "keys", "[LCollationer$Row;", true)
  | 17 => ("Collationer", "signRow", "LCollationer$Row;", true)
  | 18 => ("Collationer", "orderRow", "LCollationer$Row;", true)
  | _ => ("Collationer", "groups", "LCollationer$Groups;", true)
def tyX10 : Nat → FieldType := fun k => match k with
  | 0 => .object "Collationer$Compositions"
  | 1 => .object "Collationer$Row"
  | 2 => .object "Collationer$Row"
  | 3 => .array (.object "Collationer$Row")
  | 4 => .int
  | 5 => .array (.object "Collationer$Tailoring")
  | 6 => .object "Collationer$Tailoring"
  | 7 => .array .boolean
  | 8 => .array (.object "Collationer$Entry")
  | 9 => .int
  | 10 => .array (.object "Collationer$Index")
  | 11 => .object "Collationer$Corpus"
  | 12 => .object "Collationer$Pins"
  | 13 => .int
  | 14 => .int
  | 15 => .object "Collationer$Collator"
  | 16 => .array (.object "Collationer$Row")
  | 17 => .object "Collationer$Row"
  | 18 => .object "Collationer$Row"
  | _ => .object "Collationer$Groups"
theorem nmX10 : ∀ a, a < 20 → ∀ b, b < 20 → a ≠ b → (TX10 a).2.1 ≠ (TX10 b).2.1 := by decide +kernel
theorem tyX10_ok : ∀ k, k < 20 → parseFieldDescriptor (TX10 k).2.2.1 = some (tyX10 k) := by decide +kernel
abbrev cX10_init : ByteArray := prog_1_method_1_code
def yX10_init : MethodName := ⟨RX10, "<init>", "()V"⟩
abbrev cX10_sign : ByteArray := prog_1_method_2_code
def yX10_sign : MethodName := ⟨RX10, "sign", "(I)I"⟩
abbrev cX10_compose : ByteArray := prog_1_method_3_code
def yX10_compose : MethodName := ⟨RX10, "compose", "(III)I"⟩
abbrev cX10_text : ByteArray := prog_1_method_4_code
def yX10_text : MethodName := ⟨RX10, "text", "()I"⟩
abbrev cX10_wipe : ByteArray := prog_1_method_5_code
def yX10_wipe : MethodName := ⟨RX10, "wipe", "()I"⟩
abbrev cX10_anchor : ByteArray := prog_1_method_6_code
def yX10_anchor : MethodName := ⟨RX10, "anchor", "()I"⟩
abbrev cX10_rule : ByteArray := prog_1_method_7_code
def yX10_rule : MethodName := ⟨RX10, "rule", "(II)I"⟩
abbrev cX10_option : ByteArray := prog_1_method_9_code
def yX10_option : MethodName := ⟨RX10, "option", "(IIZ)Z"⟩
abbrev cX10_heading : ByteArray := prog_1_method_10_code
def yX10_heading : MethodName := ⟨RX10, "heading", "(IZ)I"⟩
abbrev cX10_entry : ByteArray := prog_1_method_11_code
def yX10_entry : MethodName := ⟨RX10, "entry", "(III)I"⟩
abbrev cX10_form : ByteArray := prog_1_method_12_code
def yX10_form : MethodName := ⟨RX10, "form", "(III)I"⟩
abbrev cX10_locate : ByteArray := prog_1_method_13_code
def yX10_locate : MethodName := ⟨RX10, "locate", "(III)Z"⟩
abbrev cX10_see : ByteArray := prog_1_method_14_code
def yX10_see : MethodName := ⟨RX10, "see", "(IIZ)Z"⟩
abbrev cX10_word : ByteArray := prog_1_method_15_code
def yX10_word : MethodName := ⟨RX10, "word", "(I)I"⟩
abbrev cX10_columns : ByteArray := prog_1_method_20_code
def yX10_columns : MethodName := ⟨RX10, "columns", "(II)I"⟩
abbrev cX10_texts : ByteArray := prog_1_method_21_code
def yX10_texts : MethodName := ⟨RX10, "texts", "()I"⟩
abbrev cX10_signAt : ByteArray := prog_1_method_22_code
def yX10_signAt : MethodName := ⟨RX10, "signAt", "(IZI)I"⟩
abbrev cX10_rules : ByteArray := prog_1_method_23_code
def yX10_rules : MethodName := ⟨RX10, "rules", "(I)I"⟩
abbrev cX10_itemAt : ByteArray := prog_1_method_24_code
def yX10_itemAt : MethodName := ⟨RX10, "itemAt", "(II)I"⟩
abbrev cX10_keyAt : ByteArray := prog_1_method_26_code
def yX10_keyAt : MethodName := ⟨RX10, "keyAt", "(IIII)I"⟩
abbrev cX10_compare : ByteArray := prog_1_method_27_code
def yX10_compare : MethodName := ⟨RX10, "compare", "(IIII)I"⟩
abbrev cX10_compareByLevels : ByteArray := prog_1_method_28_code
def yX10_compareByLevels : MethodName := ⟨RX10, "compareByLevels", "(IIII)I"⟩
abbrev cX10_entries : ByteArray := prog_1_method_30_code
def yX10_entries : MethodName := ⟨RX10, "entries", "()I"⟩
abbrev cX10_entryAt : ByteArray := prog_1_method_31_code
def yX10_entryAt : MethodName := ⟨RX10, "entryAt", "(II)I"⟩
abbrev cX10_beneath : ByteArray := prog_1_method_32_code
def yX10_beneath : MethodName := ⟨RX10, "beneath", "(II)I"⟩
abbrev cX10_locatorAt : ByteArray := prog_1_method_33_code
def yX10_locatorAt : MethodName := ⟨RX10, "locatorAt", "(II)I"⟩
abbrev cX10_leads : ByteArray := prog_1_method_34_code
def yX10_leads : MethodName := ⟨RX10, "leads", "(I)I"⟩
abbrev cX10_dead : ByteArray := prog_1_method_35_code
def yX10_dead : MethodName := ⟨RX10, "dead", "()I"⟩
abbrev cX10_moved : ByteArray := prog_1_method_36_code
def yX10_moved : MethodName := ⟨RX10, "moved", "(I)I"⟩
abbrev cX10_columnOf : ByteArray := prog_1_method_37_code
def yX10_columnOf : MethodName := ⟨RX10, "columnOf", "(II)I"⟩
abbrev cX10_lineAt : ByteArray := prog_1_method_38_code
def yX10_lineAt : MethodName := ⟨RX10, "lineAt", "(IZI)I"⟩
abbrev cX10_isThere : ByteArray := prog_1_method_39_code
def yX10_isThere : MethodName := ⟨RX10, "isThere", "(I)Z"⟩
abbrev cX10_hasText : ByteArray := prog_1_method_40_code
def yX10_hasText : MethodName := ⟨RX10, "hasText", "(I)Z"⟩
abbrev cX10_hasEntry : ByteArray := prog_1_method_41_code
def yX10_hasEntry : MethodName := ⟨RX10, "hasEntry", "(I)Z"⟩
abbrev cX10_isInIndex : ByteArray := prog_1_method_42_code
def yX10_isInIndex : MethodName := ⟨RX10, "isInIndex", "(II)Z"⟩
abbrev cX10_textNumbered : ByteArray := prog_1_method_43_code
def yX10_textNumbered : MethodName := ⟨RX10, "textNumbered", "(I)LCollationer$Row;"⟩
abbrev cX10_keyNumbered : ByteArray := prog_1_method_44_code
def yX10_keyNumbered : MethodName := ⟨RX10, "keyNumbered", "(I)LCollationer$Row;"⟩
abbrev cX10_entryNumbered : ByteArray := prog_1_method_45_code
def yX10_entryNumbered : MethodName := ⟨RX10, "entryNumbered", "(I)LCollationer$Entry;"⟩
abbrev cX10_tailoringNumbered : ByteArray := prog_1_method_46_code
def yX10_tailoringNumbered : MethodName := ⟨RX10, "tailoringNumbered", "(I)LCollationer$Tailoring;"⟩
abbrev cX10_indexNumbered : ByteArray := prog_1_method_47_code
def yX10_indexNumbered : MethodName := ⟨RX10, "indexNumbered", "(I)LCollationer$Index;"⟩
abbrev cX10_isTailoring : ByteArray := prog_1_method_48_code
def yX10_isTailoring : MethodName := ⟨RX10, "isTailoring", "(I)Z"⟩
abbrev cX10_isStrength : ByteArray := prog_1_method_49_code
def yX10_isStrength : MethodName := ⟨RX10, "isStrength", "(I)Z"⟩
abbrev cX10_isPage : ByteArray := prog_1_method_50_code
def yX10_isPage : MethodName := ⟨RX10, "isPage", "(I)Z"⟩
abbrev cX10_isSide : ByteArray := prog_1_method_51_code
def yX10_isSide : MethodName := ⟨RX10, "isSide", "(I)Z"⟩
abbrev cX10_isLetter : ByteArray := prog_1_method_52_code
def yX10_isLetter : MethodName := ⟨RX10, "isLetter", "(I)Z"⟩
abbrev cX10_isMark : ByteArray := prog_1_method_53_code
def yX10_isMark : MethodName := ⟨RX10, "isMark", "(I)Z"⟩
abbrev cX10_isBlank : ByteArray := prog_1_method_54_code
def yX10_isBlank : MethodName := ⟨RX10, "isBlank", "(I)Z"⟩
abbrev cX10_isDigit : ByteArray := prog_1_method_55_code
def yX10_isDigit : MethodName := ⟨RX10, "isDigit", "(I)Z"⟩
abbrev cX10_classOf : ByteArray := prog_1_method_56_code
def yX10_classOf : MethodName := ⟨RX10, "classOf", "(I)I"⟩
abbrev cX10_scriptOf : ByteArray := prog_1_method_57_code
def yX10_scriptOf : MethodName := ⟨RX10, "scriptOf", "(I)I"⟩
abbrev cX10_codeOf : ByteArray := prog_1_method_58_code
def yX10_codeOf : MethodName := ⟨RX10, "codeOf", "(LCollationer$Row;II)I"⟩
abbrev cX10_codeOfSign : ByteArray := prog_1_method_59_code
def yX10_codeOfSign : MethodName := ⟨RX10, "codeOfSign", "(I)I"⟩
abbrev cX10_signsIn : ByteArray := prog_1_method_60_code
def yX10_signsIn : MethodName := ⟨RX10, "signsIn", "(I)I"⟩
abbrev cX10_signIn : ByteArray := prog_1_method_61_code
def yX10_signIn : MethodName := ⟨RX10, "signIn", "(II)I"⟩
abbrev cX10_orderOf : ByteArray := prog_1_method_62_code
def yX10_orderOf : MethodName := ⟨RX10, "orderOf", "(I)LCollationer$Row;"⟩
abbrev cX10_forgetOrders : ByteArray := prog_1_method_63_code
def yX10_forgetOrders : MethodName := ⟨RX10, "forgetOrders", "()V"⟩
abbrev cX10_putSubEntries : ByteArray := prog_1_method_64_code
def yX10_putSubEntries : MethodName := ⟨RX10, "putSubEntries", "(ILCollationer$Row;)V"⟩
abbrev cX10_insertByKey : ByteArray := prog_1_method_65_code
def yX10_insertByKey : MethodName := ⟨RX10, "insertByKey", "(LCollationer$Row;II)V"⟩
abbrev cX10_compareRows : ByteArray := prog_1_method_66_code
def yX10_compareRows : MethodName := ⟨RX10, "compareRows", "(LCollationer$Row;LCollationer$Row;)I"⟩
abbrev cX10_putForm : ByteArray := prog_1_method_67_code
def yX10_putForm : MethodName := ⟨RX10, "putForm", "(LCollationer$Entry;LCollationer$Row;)V"⟩
abbrev cX10_headingAbove : ByteArray := prog_1_method_68_code
def yX10_headingAbove : MethodName := ⟨RX10, "headingAbove", "(II)I"⟩
abbrev cX10_headingFor : ByteArray := prog_1_method_69_code
def yX10_headingFor : MethodName := ⟨RX10, "headingFor", "(LCollationer$Tailoring;I)I"⟩
abbrev cX10_firstLetter : ByteArray := prog_1_method_70_code
def yX10_firstLetter : MethodName := ⟨RX10, "firstLetter", "(LCollationer$Row;)I"⟩
abbrev cX10_endOfReferences : ByteArray := prog_1_method_71_code
def yX10_endOfReferences : MethodName := ⟨RX10, "endOfReferences", "(I)I"⟩
abbrev cX10_isLocated : ByteArray := prog_1_method_72_code
def yX10_isLocated : MethodName := ⟨RX10, "isLocated", "(I)Z"⟩
abbrev cX10_referencesTo : ByteArray := prog_1_method_73_code
def yX10_referencesTo : MethodName := ⟨RX10, "referencesTo", "(I)I"⟩
abbrev cX10_lineInColumns : ByteArray := prog_1_method_74_code
def yX10_lineInColumns : MethodName := ⟨RX10, "lineInColumns", "(ILCollationer$Row;I)I"⟩
abbrev cX10_needsNewColumn : ByteArray := prog_1_method_75_code
def yX10_needsNewColumn : MethodName := ⟨RX10, "needsNewColumn", "(IIZZ)Z"⟩
abbrev cX10_linesOf : ByteArray := prog_1_method_76_code
def yX10_linesOf : MethodName := ⟨RX10, "linesOf", "(LCollationer$Entry;)I"⟩
abbrev cX10_orderLines : ByteArray := prog_1_method_77_code
def yX10_orderLines : MethodName := ⟨RX10, "orderLines", "(IZ)V"⟩
abbrev cX10_insertByNeighbours : ByteArray := prog_1_method_78_code
def yX10_insertByNeighbours : MethodName := ⟨RX10, "insertByNeighbours", "(II)V"⟩
abbrev cX10_compareNeighbours : ByteArray := prog_1_method_79_code
def yX10_compareNeighbours : MethodName := ⟨RX10, "compareNeighbours", "(III)I"⟩
abbrev cX10_compareWords : ByteArray := prog_1_method_80_code
def yX10_compareWords : MethodName := ⟨RX10, "compareWords", "(II)I"⟩
def RX11 : String := "CollationerModel"
def TX11 : u_T := fun k => match k with
  | _ => ("", "", "", false)
def tyX11 : Nat → FieldType := fun k => match k with
  | _ => .int
theorem nmX11 : ∀ a, a < 0 → ∀ b, b < 0 → a ≠ b → (TX11 a).2.1 ≠ (TX11 b).2.1 := by decide +kernel
theorem tyX11_ok : ∀ k, k < 0 → parseFieldDescriptor (TX11 k).2.2.1 = some (tyX11 k) := by decide +kernel
def RJ6 : String := "java/lang/Integer"
def TJ6 : u_T := fun k => match k with
  | _ => ("", "", "", false)
def tyJ6 : Nat → FieldType := fun k => match k with
  | _ => .int
theorem nmJ6 : ∀ a, a < 0 → ∀ b, b < 0 → a ≠ b → (TJ6 a).2.1 ≠ (TJ6 b).2.1 := by decide +kernel
theorem tyJ6_ok : ∀ k, k < 0 → parseFieldDescriptor (TJ6 k).2.2.1 = some (tyJ6 k) := by decide +kernel
abbrev cJ6_compare_7cf53 : ByteArray := prog_18_method_40_code
def yJ6_compare_7cf53 : MethodName := ⟨RJ6, "compare", "(II)I"⟩
abbrev cJ6_bitCount_0f7a4 : ByteArray := prog_18_method_49_code
def yJ6_bitCount_0f7a4 : MethodName := ⟨RJ6, "bitCount", "(I)I"⟩
def RJ9 : String := "java/lang/Math"
def TJ9 : u_T := fun k => match k with
  | _ => ("", "", "", false)
def tyJ9 : Nat → FieldType := fun k => match k with
  | _ => .int
theorem nmJ9 : ∀ a, a < 0 → ∀ b, b < 0 → a ≠ b → (TJ9 a).2.1 ≠ (TJ9 b).2.1 := by decide +kernel
theorem tyJ9_ok : ∀ k, k < 0 → parseFieldDescriptor (TJ9 k).2.2.1 = some (tyJ9 k) := by decide +kernel
abbrev cJ9_max_7cf53 : ByteArray := prog_19_method_65_code
def yJ9_max_7cf53 : MethodName := ⟨RJ9, "max", "(II)I"⟩
abbrev cJ9_min_7cf53 : ByteArray := prog_19_method_69_code
def yJ9_min_7cf53 : MethodName := ⟨RJ9, "min", "(II)I"⟩
def RJ0 : String := "java/lang/String"
def TJ0 : u_T := fun k => match k with
  | _ => ("", "", "", false)
def tyJ0 : Nat → FieldType := fun k => match k with
  | _ => .int
theorem nmJ0 : ∀ a, a < 0 → ∀ b, b < 0 → a ≠ b → (TJ0 a).2.1 ≠ (TJ0 b).2.1 := by decide +kernel
theorem tyJ0_ok : ∀ k, k < 0 → parseFieldDescriptor (TJ0 k).2.2.1 = some (tyJ0 k) := by decide +kernel
def RL : String := "CollationerLaw"
abbrev cL_asks : ByteArray := method_2_code
def yL_asks : MethodName := ⟨RL, "asks", "(LCollationer;IIII)I"⟩
abbrev cL_on : ByteArray := method_3_code
def yL_on : MethodName := ⟨RL, "on", "(LCollationer;IIII)I"⟩
abbrev cL_isText : ByteArray := method_4_code
def yL_isText : MethodName := ⟨RL, "isText", "(LCollationer;I)Z"⟩
abbrev cL_isCompared : ByteArray := method_5_code
def yL_isCompared : MethodName := ⟨RL, "isCompared", "(LCollationer;III)Z"⟩
abbrev cL_isList : ByteArray := method_6_code
def yL_isList : MethodName := ⟨RL, "isList", "(LCollationer;I)Z"⟩
abbrev cL_isIndex : ByteArray := method_7_code
def yL_isIndex : MethodName := ⟨RL, "isIndex", "(LCollationer;[I[III)Z"⟩
abbrev cL_isLocated : ByteArray := method_8_code
def yL_isLocated : MethodName := ⟨RL, "isLocated", "(LCollationer;II)Z"⟩
abbrev cL_law : ByteArray := code
def yL_law : MethodName := ⟨RL, "law", "([I)Z"⟩
end
section
/-! A small pure machine: the class's and the law's code run over a heap of numbers. -/
abbrev mV : Type := Int ⊕ (Int ⊕ Option Nat)
abbrev mI (x : Int) : mV := .inl x
abbrev mJ (x : Int) : mV := .inr (.inl x)
abbrev mP (o : Option Nat) : mV := .inr (.inr o)
/-- kinds and sizes of the cells; their contents; may cells still be made -/
abbrev mH : Type := List (Nat × Nat) × (Nat → Nat → Int) × Bool
abbrev mE : Type := Instr × Nat × Nat × Nat × Nat
abbrev mLs : Type := List (Option mV)
/-- goes on | calls | returns | throws -/
abbrev mO : Type := (Nat × mLs × List mV × mH × Nat × Nat) ⊕ ((Nat × List mV × List mV) ⊕ (Option mV ⊕ Nat))
def m32 (x : Int) : Int := (Int32.ofInt x).toInt
def m64 (x : Int) : Int := (Int64.ofInt x).toInt
def mup (hp : Nat → Nat → Int) (a i : Nat) (x : Int) : Nat → Nat → Int := fun b j => if b = a then (if j = i then x else hp b j) else hp b j
def mnx (pc : Nat) (L : mLs) (st : List mV) (h : mH) : Option mO := some (.inl (pc, L, st, h, 0, 0))
def mi1 (st : List mV) (f : Int → List mV → Option mO) : Option mO := match st with
  | .inl x :: r => f x r
  | _ => none
def mi2 (st : List mV) (f : Int → Int → List mV → Option mO) : Option mO := match st with
  | .inl y :: .inl x :: r => f x y r
  | _ => none
def mj2 (st : List mV) (f : Int → Int → List mV → Option mO) : Option mO := match st with
  | .inr (.inl y) :: .inr (.inl x) :: r => f x y r
  | _ => none
def mji (st : List mV) (f : Int → Int → List mV → Option mO) : Option mO := match st with
  | .inl y :: .inr (.inl x) :: r => f x y r
  | _ => none
def mp1 (st : List mV) (f : Nat → List mV → Option mO) : Option mO := match st with
  | .inr (.inr (some a)) :: r => f a r
  | _ => none
/-- an index and an array below it -/
def mix (st : List mV) (f : Nat → Int → List mV → Option mO) : Option mO := match st with
  | .inl i :: .inr (.inr (some a)) :: r => f a i r
  | _ => none
def mci (i : Nat) (L : mLs) (f : Int → Option mO) : Option mO := match L[i]? with
  | some (some (.inl x)) => f x
  | _ => none
def mcj (i : Nat) (L : mLs) (f : Int → Option mO) : Option mO := match L[i]? with
  | some (some (.inr (.inl x))) => f x
  | _ => none
def mcp (i : Nat) (L : mLs) (f : Nat → Option mO) : Option mO := match L[i]? with
  | some (some (.inr (.inr (some a)))) => f a
  | _ => none
/-- is there no long before place i -/
def mok (i : Nat) (L : mLs) : Bool := match i with
  | 0 => true
  | i + 1 => match L[i]? with
    | some (some (.inr (.inl _))) => false
    | _ => true
def mst (i : Nat) (v : mV) (pc : Nat) (L : mLs) (r : List mV) (h : mH) : Option mO := if i < L.length ∧ mok i L = true then mnx pc (L.set i (some v)) r h else none
def mcat (v : mV) : Nat := match v with
  | .inr (.inl _) => 2
  | _ => 1
def mis1 (v : mV) : Bool := match v with
  | .inr (.inl _) => false
  | _ => true
/-- the cell a is of kind kd: its size -/
def msz (h : mH) (a kd : Nat) : Option Nat := match h.1[a]? with
  | some (k, n) => if k = kd then some n else none
  | none => none
def mcnd (c : Jvm.ClassFile.Cond) (x y : Int) : Bool := match c with
  | .eq => decide (x = y)
  | .ne => decide (x ≠ y)
  | .lt => decide (x < y)
  | .ge => decide (y ≤ x)
  | .gt => decide (y < x)
  | .le => decide (x ≤ y)
def mif (c : Jvm.ClassFile.Cond) (x y : Int) (t f : Option mO) : Option mO := if mcnd c x y = true then t else f
/-- read the element i of the array a of kind kd -/
def mrd (h : mH) (kd a : Nat) (i : Int) (f : Int → Option mO) : Option mO := match msz h a kd with
  | some n => if 0 ≤ m32 i ∧ m32 i < n then f (h.2.1 a (m32 i).toNat) else none
  | none => none
def mwr (h : mH) (kd a : Nat) (i x : Int) (f : mH → Option mO) : Option mO := match msz h a kd with
  | some n => if 2 ≤ a ∧ 0 ≤ m32 i ∧ m32 i < n then f (h.1, mup h.2.1 a (m32 i).toNat x, h.2.2) else none
  | none => none
/-- a new cell of kind kd, size n, all of it d -/
def mnew (h : mH) (kd n : Nat) (d : Nat → Int) (f : Nat → mH → Option mO) : Option mO := if h.2.2 = true then f h.1.length (h.1 ++ [(kd, n)], (fun b j => if b = h.1.length then d j else h.2.1 b j), true) else none
def mpay (ds : Nat) (o : Option mO) : Option mO := match o with
  | some (.inl (pc, L, st, h, dc, s)) => some (.inl (pc, L, st, h, dc + 1, s + ds))
  | _ => none
def mref (v : Int) (f : Option Nat → Option mO) : Option mO := if 0 ≤ v then f (some v.toNat) else f none
/-- a call's arguments, n of them, off the stack -/
def mcall (k n : Nat) (st : List mV) : Option mO := if n ≤ st.length ∧ ((st.take n).all mis1) = true ∧ ((st.drop n).map mcat).sum ≤ 8 then some (.inr (.inl (k, (st.take n).reverse, st.drop n))) else none
def mobj (h : mH) (c : Nat) (v : Option mV) : Bool := match v with
  | some (.inr (.inr (some a))) => decide (2 ≤ a) && (match msz h a (16 + c) with | some _ => true | none => false)
  | _ => false
def mkArr : ArrayType → Nat
  | .int => 0
  | .boolean => 1
  | _ => 9
def mstep (fd : Nat → Nat → Int) (nf : Nat → Nat) (e : mE) (pc : Nat) (L : mLs) (st : List mV) (h : mH) : Option mO :=
  let i := e.1
  let n := pc + e.2.1
  let a := e.2.2.1
  let b := e.2.2.2.1
  let c := e.2.2.2.2
  match i with
  | .aload_n k => mcp k L fun q => mnx n L (mP (some q) :: st) h
  | .aload k => mcp k L fun q => mnx n L (mP (some q) :: st) h
  | .iload_n k => mci k L fun x => mnx n L (mI x :: st) h
  | .iload k => mci k L fun x => mnx n L (mI x :: st) h
  | .lload_n k => mcj k L fun x => mnx n L (mJ x :: st) h
  | .lload k => mcj k L fun x => mnx n L (mJ x :: st) h
  | .iconst x => mnx n L (mI x :: st) h
  | .bipush x => if -128 ≤ x ∧ x < 128 then mnx n L (mI x :: st) h else none
  | .sipush x => if -32768 ≤ x ∧ x < 32768 then mnx n L (mI x :: st) h else none
  | .lconst x => mnx n L (mJ (x : Nat) :: st) h
  | .ldc _ => mnx n L (mI a :: st) h
  | .ldc_w _ => mnx n L (mI a :: st) h
  | .istore_n k => mi1 st fun x r => mst k (mI x) n L r h
  | .istore k => mi1 st fun x r => mst k (mI x) n L r h
  | .astore_n k => mp1 st fun q r => mst k (mP (some q)) n L r h
  | .astore k => mp1 st fun q r => mst k (mP (some q)) n L r h
  | .lstore_n k => (match st with
    | .inr (.inl x) :: r => if (k : Nat) + 1 < L.length ∧ mok k L = true then mnx n ((L.set k (some (mJ x))).set (k + 1) none) r h else none
    | _ => none)
  | .lstore k => (match st with
    | .inr (.inl x) :: r => if k + 1 < L.length ∧ mok k L = true then mnx n ((L.set k (some (mJ x))).set (k + 1) none) r h else none
    | _ => none)
  | .iinc k x => mci k L fun y => mst k (mI (y + x)) n L st h
  | .iadd => mi2 st fun x y r => mnx n L (mI (x + y) :: r) h
  | .isub => mi2 st fun x y r => mnx n L (mI (x - y) :: r) h
  | .imul => mi2 st fun x y r => mnx n L (mI (x * y) :: r) h
  | .idiv => mi2 st fun x y r => if m32 y = 0 then none else mnx n L (mI (Int32.ofInt x / Int32.ofInt y).toInt :: r) h
  | .irem => mi2 st fun x y r => if m32 y = 0 then none else mnx n L (mI (Int32.ofInt x - Int32.ofInt x / Int32.ofInt y * Int32.ofInt y).toInt :: r) h
  | .iand => mi2 st fun x y r => mnx n L (mI (Int32.ofInt x &&& Int32.ofInt y).toInt :: r) h
  | .ior => mi2 st fun x y r => mnx n L (mI (Int32.ofInt x ||| Int32.ofInt y).toInt :: r) h
  | .ishl => mi2 st fun x y r => mnx n L (mI (Int32.ofInt x <<< (Int32.ofInt y &&& 31)).toInt :: r) h
  | .ishr => mi2 st fun x y r => mnx n L (mI (Int32.ofInt x >>> (Int32.ofInt y &&& 31)).toInt :: r) h
  | .iushr => mi2 st fun x y r => mnx n L (mI (((Int32.ofInt x).toUInt32 >>> ((Int32.ofInt y).toUInt32 &&& Int32.toUInt32 31)).toInt32).toInt :: r) h
  | .ineg => mi1 st fun x r => mnx n L (mI (-x) :: r) h
  | .i2l => mi1 st fun x r => mnx n L (mJ (m32 x) :: r) h
  | .lcmp => mj2 st fun x y r => mnx n L (mI (if m64 x < m64 y then -1 else if m64 x = m64 y then 0 else 1) :: r) h
  | .land => mj2 st fun x y r => mnx n L (mJ (Int64.ofInt x &&& Int64.ofInt y).toInt :: r) h
  | .lor => mj2 st fun x y r => mnx n L (mJ (Int64.ofInt x ||| Int64.ofInt y).toInt :: r) h
  | .lshl => mji st fun x y r => mnx n L (mJ (Int64.ofInt x <<< ((Int32.ofInt y).toInt64 &&& 63)).toInt :: r) h
  | .lshr => mji st fun x y r => mnx n L (mJ (Int64.ofInt x >>> ((Int32.ofInt y).toInt64 &&& 63)).toInt :: r) h
  | .dup => (match st with
    | v :: r => if mis1 v = true then mnx n L (v :: v :: r) h else none
    | _ => none)
  | .dup2 => (match st with
    | v :: w :: r => if mis1 v = true ∧ mis1 w = true then mnx n L (v :: w :: v :: w :: r) h else none
    | _ => none)
  | .pop => (match st with
    | v :: r => if mis1 v = true then mnx n L r h else none
    | _ => none)
  | .goto _ => mnx a L st h
  | .ifCond k _ => mi1 st fun x r => mif k (m32 x) 0 (mnx a L r h) (mnx n L r h)
  | .if_icmp k _ => mi2 st fun x y r => mif k (m32 x) (m32 y) (mnx a L r h) (mnx n L r h)
  | .tableswitch d lo hi offs => mi1 st fun x r => if m32 x < lo ∨ hi < m32 x then (if 0 ≤ (pc : Int) + d then mnx ((pc : Int) + d).toNat L r h else none) else (match offs[(m32 x - lo).toNat]? with
    | some off => if 0 ≤ (pc : Int) + off then mnx ((pc : Int) + off).toNat L r h else none
    | none => none)
  | .getfield _ => mp1 st fun q r => (match msz h q (16 + a) with
    | some N => if 2 ≤ q ∧ b < N then (if c = 1 then (if 0 ≤ h.2.1 q b then mnx n L (mP (some (h.2.1 q b).toNat) :: r) h else none) else mnx n L (mI (h.2.1 q b) :: r) h) else none
    | none => none)
  | .putfield _ => (match st with
    | .inl x :: .inr (.inr (some q)) :: r => (match msz h q (16 + a) with
      | some N => if 2 ≤ q ∧ b < N ∧ (c = 0 ∨ (c = 2 ∧ (x = 0 ∨ x = 1))) then mnx n L r (h.1, mup h.2.1 q b x, h.2.2) else none
      | none => none)
    | .inr (.inr (some v)) :: .inr (.inr (some q)) :: r => (match msz h q (16 + a) with
      | some N => if 2 ≤ q ∧ b < N ∧ c = 1 then mnx n L r (h.1, mup h.2.1 q b v, h.2.2) else none
      | none => none)
    | _ => none)
  | .getstatic _ => mnx n L (mP (some 1) :: st) h
  | .arraylength => mp1 st fun q r => (match h.1[q]? with
    | some (k, N) => if k ≤ 6 ∧ N < 2147483648 then mnx n L (mI N :: r) h else none
    | none => none)
  | .iaload => mix st fun q x r => mrd h 0 q x fun y => mnx n L (mI y :: r) h
  | .baload => mix st fun q x r => mrd h 1 q x fun y => mnx n L (mI y :: r) h
  | .aaload => mix st fun q x r => mrd h a q x fun y => if 0 ≤ y then mnx n L (mP (some y.toNat) :: r) h else none
  | .iastore => (match st with
    | .inl y :: .inl x :: .inr (.inr (some q)) :: r => mwr h 0 q x y fun h' => mnx n L r h'
    | _ => none)
  | .bastore => (match st with
    | .inl y :: .inl x :: .inr (.inr (some q)) :: r => if y = 0 ∨ y = 1 then mwr h 1 q x y fun h' => mnx n L r h' else none
    | _ => none)
  | .aastore => (match st with
    | .inr (.inr (some y)) :: .inl x :: .inr (.inr (some q)) :: r => if mobj h b (some (mP (some y))) = true then mwr h a q x y fun h' => mnx n L r h' else none
    | _ => none)
  | .newarray t => mi1 st fun x r => if 0 ≤ m32 x ∧ m32 x < 100000 ∧ mkArr t ≤ 2 then mpay (m32 x).toNat (mnew h (mkArr t) (m32 x).toNat (fun _ => 0) fun q h' => mnx n L (mP (some q) :: r) h') else none
  | .anewarray _ => mi1 st fun x r => if 0 ≤ m32 x ∧ m32 x < 100000 then mpay (m32 x).toNat (mnew h a (m32 x).toNat (fun _ => -1) fun q h' => mnx n L (mP (some q) :: r) h') else none
  | .new _ => if b = 1 then (if st = [] then some (.inr (.inr (.inr a))) else none) else mpay (nf a) (mnew h (16 + a) (nf a) (fd a) fun q h' => mnx n L (mP (some q) :: st) h')
  | .invokestatic _ => mcall a b st
  | .invokevirtual _ => if mobj h c (st[b]?) = true then mcall a (b + 1) st else none
  | .invokespecial _ => if c = 99 then mp1 st fun _ r => (if (r.map mcat).sum ≤ 8 then mnx n L r h else none) else (match st[b]? with
    | some (.inr (.inr (some _))) => mcall a (b + 1) st
    | _ => none)
  | .ireturn => mi1 st fun x r => if r = [] ∧ (c = 0 ∨ x = 0 ∨ x = 1) then some (.inr (.inr (.inl (some (mI x))))) else none
  | .lreturn => (match st with
    | [.inr (.inl x)] => some (.inr (.inr (.inl (some (mJ x)))))
    | _ => none)
  | .areturn => (match st with
    | [.inr (.inr (some q))] => some (.inr (.inr (.inl (some (mP (some q))))))
    | _ => none)
  | .return_ => if st = [] then some (.inr (.inr (.inl none))) else none
  | _ => none
abbrev mR : Type := (Option mV ⊕ Nat) × mH × Nat × Nat
def mbump (c s : Nat) (r : Option mR) : Option mR := match r with
  | some (o, h, c', s') => some (o, h, c + c', s + s')
  | none => none
def mentry (vs : List mV) (n : Nat) : mLs := vs.map some ++ List.replicate (n - vs.length) none
/-- the program: its code, its catches (method, pc, exception: where it goes on, the local that the exception goes into), its numbers of locals -/
abbrev mProg : Type := (Nat → Nat → Option mE) × (Nat → Nat → Nat → Option (Nat × Nat)) × (Nat → Nat) × (Nat → Nat → Int) × (Nat → Nat)
def mrun (P : mProg) : Nat → Nat → Nat → mLs → List mV → mH → Option mR
  | 0, _, _, _, _, _ => none
  | f + 1, k, pc, L, st, h => match P.1 k pc with
    | none => none
    | some e => match mstep P.2.2.2.1 P.2.2.2.2 e pc L st h with
      | none => none
      | some (.inl (pc', L', st', h', dc, ds)) => mbump dc ds (mrun P f k pc' L' st' h')
      | some (.inr (.inl (k', as, rest))) => (match mrun P f k' 0 (mentry as (P.2.2.1 k')) [] h with
        | none => none
        | some (.inl v, h', c, s) => mbump c s (mrun P f k (pc + 3) L (v.toList ++ rest) h')
        | some (.inr E, h', c, s) => (match P.2.1 k pc E with
          | none => some (.inr E, h', c, s)
          | some (pc', i) => if mok i L = true then mbump c s (mrun P f k pc' (L.set i none) [] h') else none))
      | some (.inr (.inr (.inl v))) => some (.inl v, h, 0, 0)
      | some (.inr (.inr (.inr E))) => some (.inr E, (h.1, h.2.1, false), 1, 6)
/-- an instruction's length -/
def mlen (i : Instr) (n : Nat) : Bool := match i with
  | .aload _ | .iload _ | .lload _ | .bipush _ | .istore _ | .astore _ | .lstore _ | .ldc _ | .newarray _ => n == 2
  | .sipush _ | .iinc _ _ | .ldc_w _ | .goto _ | .ifCond _ _ | .if_icmp _ _ | .getfield _ | .putfield _ | .getstatic _ | .new _ | .anewarray _ | .invokestatic _ | .invokevirtual _ | .invokespecial _ => n == 3
  | .tableswitch _ _ _ _ => true
  | _ => n == 1
end
section
/-! The small machine's values, locals and cells as the machine has them. -/
def mad (n0 b mt a : Nat) : Nat := match a with
  | 0 => b
  | 1 => mt
  | a + 2 => n0 + a
def menc (ad : Nat → Nat) (v : mV) : Value := match v with
  | .inl x => .int (Int32.ofInt x)
  | .inr (.inl x) => .long (Int64.ofInt x)
  | .inr (.inr none) => .null
  | .inr (.inr (some a)) => .ref (ad a)
theorem menc_cat (ad : Nat → Nat) (v : mV) : (menc ad v).category = mcat v := by
  obtain x | x | (_ | a) := v <;> rfl
theorem menc_cat1 (ad : Nat → Nat) {v : mV} (h : mis1 v = true) : (menc ad v).category = 1 := by
  obtain x | x | (_ | a) := v <;> first | rfl | cases h
theorem menc_cats (ad : Nat → Nat) (l : List mV) : ((l.map (menc ad)).map fun v => v.category).sum = (l.map mcat).sum := by
  rw [List.map_map]
  congr 1
  exact List.map_congr_left fun v _ => menc_cat ad v
def mLR (ad : Nat → Nat) (L : mLs) (ls : Array Slot) : Prop := ls.size = L.length ∧ lv_wf ls ∧ ∀ (i : Nat) (v : mV), L[i]? = some (some v) → ls[i]? = some (.val (menc ad v))
def mlv (ad : Nat → Nat) (L : mLs) : List (Nat × Value) := (List.range L.length).filterMap fun i => match L[i]? with
  | some (some v) => some (i, menc ad v)
  | _ => none
theorem mlv_mem {ad : Nat → Nat} {L : mLs} {i : Nat} {v : mV} (h : L[i]? = some (some v)) : (i, menc ad v) ∈ mlv ad L := by
  refine List.mem_filterMap.mpr ⟨i, List.mem_range.mpr (List.getElem?_eq_some_iff.mp h).1, ?_⟩
  rw [h]
theorem mlv_of {ad : Nat → Nat} {L : mLs} {q : Nat × Value} (h : q ∈ mlv ad L) : ∃ v, L[q.1]? = some (some v) ∧ q.2 = menc ad v := by
  obtain ⟨i, -, hi⟩ := List.mem_filterMap.mp h
  split at hi
  · rename_i v hv
    cases hi
    exact ⟨v, hv, rfl⟩
  · cases hi
theorem mLR.has {ad : Nat → Nat} {L : mLs} {ls : Array Slot} (h : mLR ad L ls) : lv_has ls L.length (mlv ad L) := by
  refine ⟨h.1, h.2.1, fun q hq => ?_⟩
  obtain ⟨v, h1, h2⟩ := mlv_of hq
  rw [h2]
  exact h.2.2 _ _ h1
theorem mok_ne {i j : Nat} {L : mLs} {w : mV} (h : mok i L = true) (hj : j + 1 = i) (hw : L[j]? = some (some w)) : mcat w = 1 := by
  subst hj
  simp only [mok, hw] at h
  obtain x | x | a := w
  · rfl
  · cases h
  · rfl
theorem mLR.set1 {ad : Nat → Nat} {L : mLs} {ls ls' : Array Slot} {i : Nat} {v : mV} {x : Value} (h : mLR ad L ls) (hi : i < L.length) (hok : mok i L = true) (hx : menc ad v = x)
    (h' : lv_has ls' L.length ((i, x) :: (mlv ad L).filter (fun q => !(q.1 == i) && !(q.1 + 1 == i && q.2.category == 2)))) : mLR ad (L.set i (some v)) ls' := by
  refine ⟨by rw [List.length_set]; exact h'.1, h'.2.1, fun j w hw => ?_⟩
  by_cases hj : j = i
  · subst hj
    rw [List.getElem?_set_self hi] at hw
    cases hw
    rw [hx]
    exact h'.2.2 (j, x) List.mem_cons_self
  · rw [List.getElem?_set_ne (Ne.symm hj)] at hw
    refine h'.2.2 (j, menc ad w) (List.mem_cons_of_mem _ (List.mem_filter.mpr ⟨mlv_mem hw, ?_⟩))
    have h1 : (j == i) = false := by simpa using hj
    by_cases hk : j + 1 = i
    · have h2 : (menc ad w).category = 1 := by rw [menc_cat]; exact mok_ne hok hk hw
      simp [h1, h2]
    · have h3 : (j + 1 == i) = false := by simpa using hk
      simp [h1, h3]
theorem mLR.set2 {ad : Nat → Nat} {L : mLs} {ls ls' : Array Slot} {i : Nat} {v : mV} {x : Value} (h : mLR ad L ls) (hi : i + 1 < L.length) (hok : mok i L = true) (hx : menc ad v = x)
    (h' : lv_has ls' L.length ((i, x) :: (mlv ad L).filter (fun q => !(q.1 == i) && (!(q.1 == i + 1) && !(q.1 + 1 == i && q.2.category == 2))))) : mLR ad ((L.set i (some v)).set (i + 1) none) ls' := by
  refine ⟨by rw [List.length_set, List.length_set]; exact h'.1, h'.2.1, fun j w hw => ?_⟩
  by_cases hj1 : j = i + 1
  · subst hj1
    rw [List.getElem?_set_self (by rw [List.length_set]; exact hi)] at hw
    cases hw
  rw [List.getElem?_set_ne (Ne.symm hj1)] at hw
  by_cases hj : j = i
  · subst hj
    rw [List.getElem?_set_self (by omega)] at hw
    cases hw
    rw [hx]
    exact h'.2.2 (j, x) List.mem_cons_self
  · rw [List.getElem?_set_ne (Ne.symm hj)] at hw
    refine h'.2.2 (j, menc ad w) (List.mem_cons_of_mem _ (List.mem_filter.mpr ⟨mlv_mem hw, ?_⟩))
    have h1 : (j == i) = false := by simpa using hj
    have h0 : (j == i + 1) = false := by simpa using hj1
    by_cases hk : j + 1 = i
    · have h2 : (menc ad w).category = 1 := by rw [menc_cat]; exact mok_ne hok hk hw
      simp [h1, h0, h2]
    · have h3 : (j + 1 == i) = false := by simpa using hk
      simp [h1, h0, h3]
theorem mLR.drop {ad : Nat → Nat} {L : mLs} {ls ls' : Array Slot} {i : Nat} {x : Value} (h : mLR ad L ls) (hok : mok i L = true)
    (h' : lv_has ls' L.length ((i, x) :: (mlv ad L).filter (fun q => !(q.1 == i) && !(q.1 + 1 == i && q.2.category == 2)))) : mLR ad (L.set i none) ls' := by
  refine ⟨by rw [List.length_set]; exact h'.1, h'.2.1, fun j w hw => ?_⟩
  by_cases hj : j = i
  · subst hj
    rw [List.getElem?_set] at hw
    split at hw
    · split at hw <;> cases hw
    · rename_i hne
      exact absurd rfl hne
  · rw [List.getElem?_set_ne (Ne.symm hj)] at hw
    refine h'.2.2 (j, menc ad w) (List.mem_cons_of_mem _ (List.mem_filter.mpr ⟨mlv_mem hw, ?_⟩))
    have h1 : (j == i) = false := by simpa using hj
    by_cases hk : j + 1 = i
    · have h2 : (menc ad w).category = 1 := by rw [menc_cat]; exact mok_ne hok hk hw
      simp [h1, h2]
    · have h3 : (j + 1 == i) = false := by simpa using hk
      simp [h1, h3]
theorem mLR.entry {ad : Nat → Nat} {m : MethodId} {vs : List mV} {n : Nat} (h1 : ∀ v ∈ vs, mis1 v = true) (hn : vs.length ≤ n) :
    ∃ ls, entryFrame m (vs.map (menc ad)).toArray n = F0 m 0 ls [] ∧ mLR ad (mentry vs n) ls := by
  refine ⟨_, entry_eq m (vs.map (menc ad)) (fun v hv => ?_) n, ?_, ⟨fun i v hv hc => ?_, fun i hi => ?_⟩, fun i v hv => ?_⟩
  · obtain ⟨w, hw, rfl⟩ := List.mem_map.mp hv
    exact menc_cat1 ad (h1 w hw)
  · simp [mentry]
  · have hv' : ((vs.map (menc ad)).map Slot.val ++ List.replicate (n - (vs.map (menc ad)).length) Slot.unset)[i]? = some (.val v) := by simpa using hv
    by_cases hl : i < ((vs.map (menc ad)).map Slot.val).length
    · rw [List.getElem?_append_left hl] at hv'
      obtain ⟨w, hw, e⟩ := List.mem_map.mp (List.mem_of_getElem? hv')
      obtain ⟨u, hu, e2⟩ := List.mem_map.mp hw
      cases e
      rw [← e2, menc_cat1 ad (h1 u hu)] at hc
      cases hc
    · rw [List.getElem?_append_right (by omega)] at hv'
      have := List.eq_of_mem_replicate (List.mem_of_getElem? hv')
      cases this
  · have hv' : ((vs.map (menc ad)).map Slot.val ++ List.replicate (n - (vs.map (menc ad)).length) Slot.unset)[i]? = some .second := by simpa using hi
    rcases List.mem_append.mp (List.mem_of_getElem? hv') with q | q
    · obtain ⟨w, -, e⟩ := List.mem_map.mp q
      cases e
    · have := List.eq_of_mem_replicate q
      cases this
  · have hl : i < (vs.map some).length := by
      by_cases hl : i < (vs.map some).length
      · exact hl
      · unfold mentry at hv
        rw [List.getElem?_append_right (by omega)] at hv
        have := List.eq_of_mem_replicate (List.mem_of_getElem? hv)
        cases this
    unfold mentry at hv
    rw [List.getElem?_append_left hl] at hv
    have hv2 : vs[i]? = some v := by
      rw [List.getElem?_map] at hv
      cases h : vs[i]? with
      | none => rw [h] at hv; cases hv
      | some w => rw [h] at hv; cases hv; rfl
    show ((vs.map (menc ad)).map Slot.val ++ List.replicate (n - (vs.map (menc ad)).length) Slot.unset).toArray[i]? = _
    have hl2 : i < ((vs.map (menc ad)).map Slot.val).length := by simpa using hl
    simp only [List.getElem?_toArray]
    rw [List.getElem?_append_left hl2]
    simp [hv2]
end
section
/-! The small machine's heap as the machine has it. -/
/-- what an array holds, by its kind -/
def mky (k : Nat) : FieldType := match k with
  | 0 => .int
  | 1 => .boolean
  | 2 => .byte
  | 3 => .object "Collationer$Row"
  | 4 => .object "Collationer$Tailoring"
  | 5 => .object "Collationer$Entry"
  | _ => .object "Collationer$Index"
def mty (cA : Nat → ClassId) : List (ClassId × FieldType) := (List.range 7).map fun k => (cA k, mky k)
theorem mty_get {cA : Nat → ClassId} {k : Nat} (h : k < 7) : (mty cA)[k]? = some (cA k, mky k) := by
  simp [mty, h]
/-- a reference in a cell: negative is null -/
def mro (ad : Nat → Nat) (x : Int) : Option Nat := if x < 0 then none else some (ad x.toNat)
def mfv (ad : Nat → Nat) (t : Nat) (x : Int) : Value := if t = 1 then va_rf (mro ad x) else .int (Int32.ofInt x)
def mcell (ad : Nat → Nat) (cA : Nat → ClassId) (ft : Nat → Nat → Nat) (kd n : Nat) (f : Nat → Int) : va_E :=
  if kd < 2 then .inl (cA kd, n, .inl fun i => Int32.ofInt (f i))
  else if kd = 2 then .inl (cA 2, n, .inr (.inl fun i => Int64.ofInt (f i)))
  else if kd < 16 then .inl (cA kd, n, .inr (.inr (.inr (.inr fun i => mro ad (f i)))))
  else .inr (kd - 16, (List.range n).map fun j => mfv ad (ft (kd - 16) j) (f j))
theorem mcell_i {ad : Nat → Nat} {cA : Nat → ClassId} {ft : Nat → Nat → Nat} {kd n : Nat} {f : Nat → Int} (h : kd < 2) : mcell ad cA ft kd n f = .inl (cA kd, n, .inl fun i => Int32.ofInt (f i)) := by
  unfold mcell; rw [if_pos h]
theorem mcell_l {ad : Nat → Nat} {cA : Nat → ClassId} {ft : Nat → Nat → Nat} {n : Nat} {f : Nat → Int} : mcell ad cA ft 2 n f = .inl (cA 2, n, .inr (.inl fun i => Int64.ofInt (f i))) := by
  unfold mcell; rw [if_neg (by omega), if_pos rfl]
theorem mcell_q {ad : Nat → Nat} {cA : Nat → ClassId} {ft : Nat → Nat → Nat} {kd n : Nat} {f : Nat → Int} (h : 2 < kd) (h2 : kd < 16) : mcell ad cA ft kd n f = .inl (cA kd, n, .inr (.inr (.inr (.inr fun i => mro ad (f i))))) := by
  unfold mcell; rw [if_neg (by omega), if_neg (by omega), if_pos h2]
theorem mcell_o {ad : Nat → Nat} {cA : Nat → ClassId} {ft : Nat → Nat → Nat} {c n : Nat} {f : Nat → Int} : mcell ad cA ft (16 + c) n f = .inr (c, (List.range n).map fun j => mfv ad (ft c j) (f j)) := by
  unfold mcell; rw [if_neg (by omega), if_neg (by omega), if_neg (by omega), Nat.add_sub_cancel_left]
def mws (n0 : Nat) (ad : Nat → Nat) (cA : Nat → ClassId) (ft : Nat → Nat → Nat) (h : mH) : va_W :=
  (List.range (h.1.length - 2)).map fun i => (n0 + i, mcell ad cA ft (h.1.getD (i + 2) (0, 0)).1 (h.1.getD (i + 2) (0, 0)).2 (h.2.1 (i + 2)))
theorem mws_get {n0 : Nat} {ad : Nat → Nat} {cA : Nat → ClassId} {ft : Nat → Nat → Nat} {h : mH} {a kd n : Nat} (ha : 2 ≤ a) (hk : h.1[a]? = some (kd, n)) : (mws n0 ad cA ft h)[a - 2]? = some (n0 + (a - 2), mcell ad cA ft kd n (h.2.1 a)) := by
  have hl : a < h.1.length := (List.getElem?_eq_some_iff.mp hk).1
  unfold mws
  rw [List.getElem?_map, List.getElem?_range (by omega)]
  simp only [Option.map_some, List.getD_eq_getElem?_getD]
  rw [show a - 2 + 2 = a by omega, hk]
  rfl
theorem mws_len {n0 : Nat} {ad : Nat → Nat} {cA : Nat → ClassId} {ft : Nat → Nat → Nat} {h : mH} : (mws n0 ad cA ft h).length = h.1.length - 2 := by
  simp [mws]
theorem mup_at {hp : Nat → Nat → Int} {a i : Nat} {x : Int} : mup hp a i x a = fun j => if j = i then x else hp a j := by
  funext j; simp [mup]
theorem mup_ne {hp : Nat → Nat → Int} {a b i : Nat} {x : Int} (h : b ≠ a) : mup hp a i x b = hp b := by
  funext j; simp [mup, h]
/-- an element is written -/
theorem mws_set {n0 : Nat} {ad : Nat → Nat} {cA : Nat → ClassId} {ft : Nat → Nat → Nat} {h : mH} {a kd n i : Nat} {x : Int} (ha : 2 ≤ a) (hk : h.1[a]? = some (kd, n)) {e : va_E} (he : mcell ad cA ft kd n (fun j => if j = i then x else h.2.1 a j) = e) : mws n0 ad cA ft (h.1, mup h.2.1 a i x, h.2.2) = (mws n0 ad cA ft h).set (a - 2) (n0 + (a - 2), e) := by
  have hl : a < h.1.length := (List.getElem?_eq_some_iff.mp hk).1
  refine List.ext_getElem? fun k => ?_
  by_cases hka : k = a - 2
  · subst hka
    rw [List.getElem?_set_self (by rw [mws_len]; omega), mws_get (h := (h.1, mup h.2.1 a i x, h.2.2)) ha hk, ← he]
    show some (n0 + (a - 2), mcell ad cA ft kd n (mup h.2.1 a i x a)) = _
    rw [mup_at]
  · rw [List.getElem?_set_ne (Ne.symm hka)]
    unfold mws
    rw [List.getElem?_map, List.getElem?_map]
    by_cases hk2 : k < h.1.length - 2
    · rw [List.getElem?_range hk2]
      simp only [Option.map_some]
      rw [mup_ne (show k + 2 ≠ a by omega)]
    · rw [List.getElem?_eq_none (by simp; omega)]
      rfl
/-- a cell is made -/
theorem mws_new {n0 : Nat} {ad : Nat → Nat} {cA : Nat → ClassId} {ft : Nat → Nat → Nat} {h : mH} {kd n : Nat} {d : Nat → Int} {e : va_E} (hl : 2 ≤ h.1.length) (he : mcell ad cA ft kd n d = e) :
    mws n0 ad cA ft (h.1 ++ [(kd, n)], (fun b j => if b = h.1.length then d j else h.2.1 b j), true) = mws n0 ad cA ft h ++ [(n0 + (h.1.length - 2), e)] := by
  refine List.ext_getElem? fun k => ?_
  by_cases hk : k < h.1.length - 2
  · rw [List.getElem?_append_left (by rw [mws_len]; exact hk)]
    have h1 : h.1[k + 2]? = some (h.1[k + 2]'(by omega)) := List.getElem?_eq_getElem (by omega)
    have h2 := mws_get (n0 := n0) (ad := ad) (cA := cA) (ft := ft) (h := h) (a := k + 2) (by omega) h1
    rw [show k + 2 - 2 = k by omega] at h2
    rw [h2]
    have h3 : (h.1 ++ [(kd, n)])[k + 2]? = some (h.1[k + 2]'(by omega)) := by rw [List.getElem?_append_left (by omega)]; exact h1
    have h4 := mws_get (n0 := n0) (ad := ad) (cA := cA) (ft := ft) (h := (h.1 ++ [(kd, n)], (fun b j => if b = h.1.length then d j else h.2.1 b j), true)) (a := k + 2) (by omega) h3
    rw [show k + 2 - 2 = k by omega] at h4
    rw [h4]
    have : k + 2 ≠ h.1.length := by omega
    simp [this]
  · rw [List.getElem?_append_right (by rw [mws_len]; omega), mws_len]
    by_cases hk2 : k = h.1.length - 2
    · subst hk2
      rw [Nat.sub_self]
      have h3 : (h.1 ++ [(kd, n)])[h.1.length]? = some (kd, n) := by simp
      have h4 := mws_get (n0 := n0) (ad := ad) (cA := cA) (ft := ft) (h := (h.1 ++ [(kd, n)], (fun b j => if b = h.1.length then d j else h.2.1 b j), true)) (a := h.1.length) hl h3
      rw [h4, ← he]
      simp
    · rw [List.getElem?_eq_none (by rw [mws_len]; simp; omega), List.getElem?_eq_none (by simp; omega)]
theorem mfv_set {ad : Nat → Nat} {ft : Nat → Nat} {n i : Nat} {f : Nat → Int} {x : Int} : ((List.range n).map fun j => mfv ad (ft j) (if j = i then x else f j)) = ((List.range n).map fun j => mfv ad (ft j) (f j)).set i (mfv ad (ft i) x) := by
  refine List.ext_getElem? fun k => ?_
  by_cases hk : k = i
  · subst hk
    by_cases hn : k < n
    · rw [List.getElem?_set_self (by simpa using hn), List.getElem?_map, List.getElem?_range hn]
      simp
    · rw [List.getElem?_eq_none (by simp; omega), List.getElem?_eq_none (by simp; omega)]
  · rw [List.getElem?_set_ne (Ne.symm hk), List.getElem?_map, List.getElem?_map]
    by_cases hn : k < n
    · rw [List.getElem?_range hn]
      simp [hk]
    · rw [List.getElem?_eq_none (by simp; omega)]
      rfl
/-- the machine's heap holds the small one's -/
def mRel (D : va_G) (cl : List vw_C) (n0 : Nat) (ad : Nat → Nat) (cA : Nat → ClassId) (ft : Nat → Nat → Nat) (h : mH) (H : Heap) : Prop :=
  va_P D cl (mws n0 ad cA ft h) H ∧ va_D (fun q => n0 ≤ q) (mws n0 ad cA ft h)
/-- the script and the marks' classes, which nobody writes -/
def mI0 (L0 : Nat) (xs : Nat → Int32) (h : mH) : Prop := h.1[0]? = some (0, L0) ∧ h.1[1]? = some (0, 4) ∧ (∀ i, i < L0 → Int32.ofInt (h.2.1 0 i) = xs i) ∧ ∀ i, i < 4 → h.2.1 1 i = ([1, 1, 2, 3] : List Int).getD i 0
theorem mI0.up {L0 : Nat} {xs : Nat → Int32} {h : mH} (hI : mI0 L0 xs h) {a i : Nat} {x : Int} (ha : 2 ≤ a) : mI0 L0 xs (h.1, mup h.2.1 a i x, h.2.2) := by
  obtain ⟨h1, h2, h3, h4⟩ := hI
  refine ⟨h1, h2, fun j hj => ?_, fun j hj => ?_⟩
  · have : (0 : Nat) ≠ a := by omega
    simpa [mup, this] using h3 j hj
  · have : (1 : Nat) ≠ a := by omega
    simpa [mup, this] using h4 j hj
theorem mI0.new {L0 : Nat} {xs : Nat → Int32} {h : mH} (hI : mI0 L0 xs h) {kd n : Nat} {d : Nat → Int} : mI0 L0 xs (h.1 ++ [(kd, n)], (fun b j => if b = h.1.length then d j else h.2.1 b j), true) := by
  obtain ⟨h1, h2, h3, h4⟩ := hI
  have hl : 1 < h.1.length := (List.getElem?_eq_some_iff.mp h2).1
  refine ⟨by rw [List.getElem?_append_left (by omega)]; exact h1, by rw [List.getElem?_append_left hl]; exact h2, fun j hj => ?_, fun j hj => ?_⟩
  · have : (0 : Nat) ≠ h.1.length := by omega
    simpa [this] using h3 j hj
  · have : (1 : Nat) ≠ h.1.length := by omega
    simpa [this] using h4 j hj
theorem mI0.len {L0 : Nat} {xs : Nat → Int32} {h : mH} (hI : mI0 L0 xs h) : 2 ≤ h.1.length := (List.getElem?_eq_some_iff.mp hI.2.1).1
/-- words that aren't good, but stay -/
def mNwOk (w : Cond) : Prop := (∃ a i x h, w = .methodLinkNest a i x h) ∨ ∃ x, w = .declares x
theorem mNwOk.tab {w : Cond} (h : mNwOk w) : w.onTables = true := by
  rcases h with ⟨a, i, x, h, rfl⟩ | ⟨x, rfl⟩ <;> rfl
/-- the exceptions' classes -/
def pE (i : Nat) : String := match i with
  | 0 => "java/lang/IndexOutOfBoundsException"
  | 1 => "java/lang/IllegalArgumentException"
  | _ => "java/lang/IllegalStateException"
/-- what of the machine stands still: the tables, the script, the statics -/
def mSt (D : va_G) (cl : List vw_C) (n0 b mt : Nat) (cA : Nat → ClassId) (L0 : Nat) (xs : Nat → Int32) (strs : List (String × Nat × String)) (nw : List Cond) (U : State) (H : Heap) : Prop :=
  va_K D cl (mty cA) U ∧ va_X b L0 xs U H ∧ va_Z "Collationer" "MARK_CLASSES" "[I" (.ref mt) (fun q => n0 ≤ q) U H ∧ va_T .int mt 4 (fun j => .int (Int32.ofInt (([1, 1, 2, 3] : List Int).getD j 0))) (fun q => n0 ≤ q) U H ∧
  vx_Zq Bundle.tN "UNASSIGNED_STACK" Bundle.steD (fun q => n0 ≤ q) U H ∧ vx_Zq Bundle.tN "SUPPRESSED_SENTINEL" Bundle.listD (fun q => n0 ≤ q) U H ∧ b < n0 ∧ n0 ≤ H.size ∧ L0 < 2 ^ 31 ∧
  (∀ q ∈ strs, ∃ sa, vk_R q.1 q.2.1 q.2.2 sa U) ∧ (∀ w ∈ nw, va_Nw w U) ∧ (∀ k, 2 < k → k < 7 → ∀ C, mky k = .object C → va_AO C U) ∧ (∀ i, i < 3 → va_Nw (.castable (pE i) (pE i)) U) ∧ ∀ i j, i < 3 → j < 3 → i ≠ j → va_Nc (pE i) (pE j) U
end
section
/-! One step of the small machine is one of the machine's. -/
def mK (p : Program) (l : Launch) (e : Env) (R : Room) (s : State) (m : MethodId) (args : Array Value) (below : List Frame) (meth : Method) (c : Code) (Q : State → Prop)
    (D : va_G) (cl : List vw_C) (n0 b mt : Nat) (cA : Nat → ClassId) (ft : Nat → Nat → Nat) (L0 : Nat) (xs : Nat → Int32) (pc : Nat) (L : mLs) (st : List mV) (h : mH) (cells slots : Nat) : Prop :=
  ∀ (ls : Array Slot) (H : Heap) (locs : List Loc), mLR (mad n0 b mt) L ls → mI0 L0 xs h → mRel D cl n0 (mad n0 b mt) cA ft h H → va_S (fun q => n0 ≤ q) s.heap H locs → (h.2.2 = true → s.heap.size + cells = n0 + (h.1.length - 2)) →
    W p l e R s m args below meth c H locs cells slots Q (F0 m pc ls (st.map (menc (mad n0 b mt))))
/-- a class of the world: its words are there, its fields' types -/
def mCl (good : List Cond) (cl : List vw_C) (ft : Nat → Nat → Nat) : Prop := ∀ (a : Nat) (q : vw_C), cl[a]? = some q → (∀ w ∈ u_ws q.1 q.2.1 q.2.2, w ∈ good) ∧ (∀ i, i < q.2.2 → ∀ j, j < q.2.2 → i ≠ j → (q.2.1 i).2.1 ≠ (q.2.1 j).2.1) ∧
  ∃ ty : Nat → FieldType, ∀ k, k < q.2.2 → parseFieldDescriptor (q.2.1 k).2.2.1 = some (ty k) ∧ ((ft a k = 1 ∧ ((∃ n, ty k = .object n) ∨ ∃ t, ty k = .array t)) ∨ (ft a k = 0 ∧ ty k = .int) ∨ (ft a k = 2 ∧ ty k = .boolean))
/-- what holds in a frame -/
def mFr (p : Program) (s : State) (m : MethodId) (args : Array Value) (meth : Method) (c : Code) (cc : ByteArray) (own : String) (ini : Bool) (good : List Cond) (D : va_G) (cl : List vw_C) (n0 b mt : Nat) (cA : Nat → ClassId) (ft : Nat → Nat → Nat) (L0 : Nat) (xs : Nat → Int32) (strs : List (String × Nat × String)) (nw : List Cond) : Prop :=
  p.tables.exec = Jvm.exec ∧ c.code = cc ∧ s.vm.findClass own = some m.cls ∧ (∀ w ∈ good, w.before args s = true) ∧ (ini = true → meth.name = "<init>") ∧ mCl good cl ft ∧ mSt D cl n0 b mt cA L0 xs strs nw s s.heap
section MS
variable {p : Program} {l : Launch} {e : Env} {R : Room} {s : State} {m : MethodId} {args : Array Value} {below : List Frame} {meth : Method} {c : Code} {Q : State → Prop}
variable {cc : ByteArray} {own : String} {ini : Bool} {good : List Cond} {D : va_G} {cl : List vw_C} {n0 b mt : Nat} {cA : Nat → ClassId} {ft : Nat → Nat → Nat} {L0 : Nat} {xs : Nat → Int32} {strs : List (String × Nat × String)} {nw : List Cond}
variable {pc pc' : Nat} {L L' : mLs} {st st' : List mV} {h h' : mH} {cells slots dc ds : Nat} {fd : Nat → Nat → Int} {nf : Nat → Nat}
theorem mi32 (x : Int) : Int32.ofInt (Int32.ofInt x).toInt = Int32.ofInt x := Int32.ofInt_toInt _
theorem mad_ge {a : Nat} (ha : 2 ≤ a) : mad n0 b mt a = n0 + (a - 2) := by
  match a, ha with
  | a + 2, _ => rfl
/-- what is pushed or popped alone -/
theorem mF_loads {k : Fin 4} {a b' c' : Nat} (F : mFr p s m args meth c cc own ini good D cl n0 b mt cA ft L0 xs strs nw) (i : Instr) (hi : i = .aload_n k ∨ i = .iload_n k ∨ i = .lload_n k) (hd : decode cc pc = .ok (i, 1))
    (hs : mstep fd nf (i, 1, a, b', c') pc L st h = some (.inl (pc', L', st', h', dc, ds)))
    (kk : mK p l e R s m args below meth c Q D cl n0 b mt cA ft L0 xs pc' L' st' h' (cells + dc) (slots + ds)) : mK p l e R s m args below meth c Q D cl n0 b mt cA ft L0 xs pc L st h cells slots := by
  obtain ⟨hx, hb, hown, hts, -, -, hSt⟩ := F
  intro ls H locs hL hI hR hS hz
  rcases hi with rfl | rfl | rfl
  · simp only [mstep, mcp] at hs
    split at hs
    · rename_i q hq
      cases hs
      exact lv_aload_n hx hb hd rfl (hL.2.2 _ _ hq) (kk ls H locs hL hI hR hS hz)
    · cases hs
  · simp only [mstep, mci] at hs
    split at hs
    · rename_i q hq
      cases hs
      exact lv_iload_n hx hb hd rfl (hL.2.2 _ _ hq) (kk ls H locs hL hI hR hS hz)
    · cases hs
  · simp only [mstep, mcj] at hs
    split at hs
    · rename_i q hq
      cases hs
      exact lv_lload_n hx hb hd rfl (hL.2.2 _ _ hq) (kk ls H locs hL hI hR hS hz)
    · cases hs
theorem mF_loads2 {k : Nat} {a b' c' : Nat} (F : mFr p s m args meth c cc own ini good D cl n0 b mt cA ft L0 xs strs nw) (i : Instr) (hi : i = .aload k ∨ i = .iload k ∨ i = .lload k) (hd : decode cc pc = .ok (i, 2))
    (hs : mstep fd nf (i, 2, a, b', c') pc L st h = some (.inl (pc', L', st', h', dc, ds)))
    (kk : mK p l e R s m args below meth c Q D cl n0 b mt cA ft L0 xs pc' L' st' h' (cells + dc) (slots + ds)) : mK p l e R s m args below meth c Q D cl n0 b mt cA ft L0 xs pc L st h cells slots := by
  obtain ⟨hx, hb, hown, hts, -, -, hSt⟩ := F
  intro ls H locs hL hI hR hS hz
  rcases hi with rfl | rfl | rfl
  · simp only [mstep, mcp] at hs
    split at hs
    · rename_i q hq
      cases hs
      exact lv_aload hx hb hd (hL.2.2 _ _ hq) (kk ls H locs hL hI hR hS hz)
    · cases hs
  · simp only [mstep, mci] at hs
    split at hs
    · rename_i q hq
      cases hs
      exact lv_iload hx hb hd (hL.2.2 _ _ hq) (kk ls H locs hL hI hR hS hz)
    · cases hs
  · simp only [mstep, mcj] at hs
    split at hs
    · rename_i q hq
      cases hs
      exact lv_lload hx hb hd (hL.2.2 _ _ hq) (kk ls H locs hL hI hR hS hz)
    · cases hs
theorem mF_consts {a b' c' n : Nat} (F : mFr p s m args meth c cc own ini good D cl n0 b mt cA ft L0 xs strs nw) (i : Instr) (hi : (∃ x, i = .iconst x ∧ n = 1) ∨ (∃ x, i = .bipush x ∧ n = 2) ∨ (∃ x, i = .sipush x ∧ n = 3) ∨ (∃ x, i = .lconst x ∧ n = 1) ∨ (∃ x, i = .ldc x ∧ n = 2 ∧ Cond.constant own x (Int32.ofInt a) ∈ good) ∨ (∃ x, i = .ldc_w x ∧ n = 3 ∧ Cond.constant own x (Int32.ofInt a) ∈ good)) (hd : decode cc pc = .ok (i, n))
    (hs : mstep fd nf (i, n, a, b', c') pc L st h = some (.inl (pc', L', st', h', dc, ds)))
    (kk : mK p l e R s m args below meth c Q D cl n0 b mt cA ft L0 xs pc' L' st' h' (cells + dc) (slots + ds)) : mK p l e R s m args below meth c Q D cl n0 b mt cA ft L0 xs pc L st h cells slots := by
  obtain ⟨hx, hb, hown, hts, -, -, hSt⟩ := F
  intro ls H locs hL hI hR hS hz
  rcases hi with ⟨x, rfl, rfl⟩ | ⟨x, rfl, rfl⟩ | ⟨x, rfl, rfl⟩ | ⟨x, rfl, rfl⟩ | ⟨x, rfl, rfl, hw⟩ | ⟨x, rfl, rfl, hw⟩
  · simp only [mstep, mnx] at hs
    cases hs
    exact lv_iconst hx hb hd rfl (kk ls H locs hL hI hR hS hz)
  · simp only [mstep, mnx] at hs
    split at hs
    · rename_i hr
      cases hs
      refine lv_bipush hx hb hd ?_ (kk ls H locs hL hI hR hS hz)
      rw [← Int32.toInt_inj, Int8.toInt_toInt32, Int8.toInt_ofInt_of_le (by omega) (by omega), Int32.toInt_ofInt_of_le (by omega) (by omega)]
    · cases hs
  · simp only [mstep, mnx] at hs
    split at hs
    · rename_i hr
      cases hs
      refine lv_sipush hx hb hd ?_ (kk ls H locs hL hI hR hS hz)
      rw [← Int32.toInt_inj, Int16.toInt_toInt32, Int16.toInt_ofInt_of_le (by omega) (by omega), Int32.toInt_ofInt_of_le (by omega) (by omega)]
    · cases hs
  · simp only [mstep, mnx] at hs
    cases hs
    exact lv_lconst hx hb hd rfl (kk ls H locs hL hI hR hS hz)
  · simp only [mstep, mnx] at hs
    cases hs
    exact lv_ldc hx hb hown (hts _ hw) hd (kk ls H locs hL hI hR hS hz)
  · simp only [mstep, mnx] at hs
    cases hs
    exact lv_ldcw hx hb hown (hts _ hw) hd (kk ls H locs hL hI hR hS hz)
end MS
end
section
/-! Steps: stores, arithmetic, stack, branches. -/
section MS2
variable {p : Program} {l : Launch} {e : Env} {R : Room} {s : State} {m : MethodId} {args : Array Value} {below : List Frame} {meth : Method} {c : Code} {Q : State → Prop}
variable {cc : ByteArray} {own : String} {ini : Bool} {good : List Cond} {D : va_G} {cl : List vw_C} {n0 b mt : Nat} {cA : Nat → ClassId} {ft : Nat → Nat → Nat} {L0 : Nat} {xs : Nat → Int32} {strs : List (String × Nat × String)} {nw : List Cond}
variable {pc pc' : Nat} {L L' : mLs} {st st' : List mV} {h h' : mH} {cells slots dc ds : Nat} {fd : Nat → Nat → Int} {nf : Nat → Nat}
theorem menc_toInt (ad : Nat → Nat) (z : Int32) : menc ad (mI z.toInt) = .int z := by
  show Value.int (Int32.ofInt z.toInt) = .int z
  rw [Int32.ofInt_toInt]
theorem menc_toIntL (ad : Nat → Nat) (z : Int64) : menc ad (mJ z.toInt) = .long z := by
  show Value.long (Int64.ofInt z.toInt) = .long z
  rw [Int64.ofInt_toInt]
theorem menc_at (ad : Nat → Nat) (x : Int) (z : Int32) (hz : Int32.ofInt x = z) : menc ad (mI x) = .int z := by
  show Value.int (Int32.ofInt x) = .int z
  rw [hz]
theorem mst_ok {i : Nat} {v : mV} {r : List mV} {o : mO} (hs : mst i v pc' L r h = some o) : i < L.length ∧ mok i L = true ∧ o = .inl (pc', L.set i (some v), r, h, 0, 0) := by
  unfold mst at hs
  split at hs
  · rename_i hr
    cases hs
    exact ⟨hr.1, hr.2, rfl⟩
  · cases hs
theorem mF_stores {k : Fin 4} {a b' c' : Nat} (F : mFr p s m args meth c cc own ini good D cl n0 b mt cA ft L0 xs strs nw) (i : Instr) (hi : i = .istore_n k ∨ i = .astore_n k ∨ i = .lstore_n k) (hd : decode cc pc = .ok (i, 1))
    (hs : mstep fd nf (i, 1, a, b', c') pc L st h = some (.inl (pc', L', st', h', dc, ds)))
    (kk : mK p l e R s m args below meth c Q D cl n0 b mt cA ft L0 xs pc' L' st' h' (cells + dc) (slots + ds)) : mK p l e R s m args below meth c Q D cl n0 b mt cA ft L0 xs pc L st h cells slots := by
  obtain ⟨hx, hb, hown, hts, -, -, hSt⟩ := F
  intro ls H locs hL hI hR hS hz
  rcases hi with rfl | rfl | rfl
  · simp only [mstep] at hs
    unfold mi1 at hs
    split at hs
    · obtain ⟨h1, h2, h3⟩ := mst_ok hs
      cases h3
      exact lv_istore_n hx hb hd rfl hL.has h1 rfl fun ls' h' => kk ls' H locs (mLR.set1 hL h1 h2 rfl h') hI hR hS hz
    · cases hs
  · simp only [mstep] at hs
    unfold mp1 at hs
    split at hs
    · obtain ⟨h1, h2, h3⟩ := mst_ok hs
      cases h3
      exact lv_astore_n hx hb hd rfl hL.has h1 rfl fun ls' h' => kk ls' H locs (mLR.set1 hL h1 h2 rfl h') hI hR hS hz
    · cases hs
  · simp only [mstep, mnx] at hs
    split at hs
    · split at hs
      · rename_i hr
        cases hs
        exact lv_lstore_n hx hb hd rfl hL.has hr.1 rfl fun ls' h' => kk ls' H locs (mLR.set2 hL hr.1 hr.2 rfl h') hI hR hS hz
      · cases hs
    · cases hs
theorem mF_stores2 {k : Nat} {a b' c' : Nat} (F : mFr p s m args meth c cc own ini good D cl n0 b mt cA ft L0 xs strs nw) (i : Instr) (hi : i = .istore k ∨ i = .astore k ∨ i = .lstore k) (hd : decode cc pc = .ok (i, 2))
    (hs : mstep fd nf (i, 2, a, b', c') pc L st h = some (.inl (pc', L', st', h', dc, ds)))
    (kk : mK p l e R s m args below meth c Q D cl n0 b mt cA ft L0 xs pc' L' st' h' (cells + dc) (slots + ds)) : mK p l e R s m args below meth c Q D cl n0 b mt cA ft L0 xs pc L st h cells slots := by
  obtain ⟨hx, hb, hown, hts, -, -, hSt⟩ := F
  intro ls H locs hL hI hR hS hz
  rcases hi with rfl | rfl | rfl
  · simp only [mstep] at hs
    unfold mi1 at hs
    split at hs
    · obtain ⟨h1, h2, h3⟩ := mst_ok hs
      cases h3
      exact lv_istore hx hb hd hL.has h1 rfl fun ls' h' => kk ls' H locs (mLR.set1 hL h1 h2 rfl h') hI hR hS hz
    · cases hs
  · simp only [mstep] at hs
    unfold mp1 at hs
    split at hs
    · obtain ⟨h1, h2, h3⟩ := mst_ok hs
      cases h3
      exact lv_astore hx hb hd hL.has h1 rfl fun ls' h' => kk ls' H locs (mLR.set1 hL h1 h2 rfl h') hI hR hS hz
    · cases hs
  · simp only [mstep, mnx] at hs
    split at hs
    · split at hs
      · rename_i hr
        cases hs
        exact lv_lstore hx hb hd hL.has hr.1 rfl fun ls' h' => kk ls' H locs (mLR.set2 hL hr.1 hr.2 rfl h') hI hR hS hz
      · cases hs
    · cases hs
theorem mF_iinc {k : Nat} {x : Int} {a b' c' : Nat} (F : mFr p s m args meth c cc own ini good D cl n0 b mt cA ft L0 xs strs nw) (hd : decode cc pc = .ok (.iinc k x, 3))
    (hs : mstep fd nf (.iinc k x, 3, a, b', c') pc L st h = some (.inl (pc', L', st', h', dc, ds)))
    (kk : mK p l e R s m args below meth c Q D cl n0 b mt cA ft L0 xs pc' L' st' h' (cells + dc) (slots + ds)) : mK p l e R s m args below meth c Q D cl n0 b mt cA ft L0 xs pc L st h cells slots := by
  obtain ⟨hx, hb, hown, hts, -, -, hSt⟩ := F
  intro ls H locs hL hI hR hS hz
  simp only [mstep] at hs
  unfold mci at hs
  split at hs
  · rename_i y hy
    obtain ⟨h1, h2, h3⟩ := mst_ok hs
    cases h3
    obtain ⟨j, hj⟩ := List.getElem?_of_mem (mlv_mem (ad := mad n0 b mt) hy)
    exact lv_iinc hx hb hd hL.has hj rfl h1 rfl fun ls' h' => kk ls' H locs (mLR.set1 hL h1 h2 (by show Value.int (Int32.ofInt (y + x)) = _; rw [Int32.ofInt_add]) h') hI hR hS hz
  · cases hs
theorem mne0 {y : Int} (h : ¬ m32 y = 0) : ¬ Int32.ofInt y = 0 := fun e => h (by unfold m32; rw [e]; rfl)
theorem mF_arith {a b' c' : Nat} (F : mFr p s m args meth c cc own ini good D cl n0 b mt cA ft L0 xs strs nw) (i : Instr) (hi : i = .iadd ∨ i = .isub ∨ i = .imul ∨ i = .idiv ∨ i = .irem ∨ i = .iand ∨ i = .ior ∨ i = .ishl ∨ i = .ishr ∨ i = .iushr) (hd : decode cc pc = .ok (i, 1))
    (hs : mstep fd nf (i, 1, a, b', c') pc L st h = some (.inl (pc', L', st', h', dc, ds)))
    (kk : mK p l e R s m args below meth c Q D cl n0 b mt cA ft L0 xs pc' L' st' h' (cells + dc) (slots + ds)) : mK p l e R s m args below meth c Q D cl n0 b mt cA ft L0 xs pc L st h cells slots := by
  obtain ⟨hx, hb, hown, hts, -, -, hSt⟩ := F
  intro ls H locs hL hI hR hS hz
  have k9 := kk ls H locs
  rcases hi with rfl | rfl | rfl | rfl | rfl | rfl | rfl | rfl | rfl | rfl <;>
  · simp only [mstep] at hs
    unfold mi2 at hs
    split at hs
    · try dsimp only at hs
      try split at hs
      all_goals first
        | (cases hs; done)
        | (unfold mnx at hs
           cases hs
           have k8 := k9 hL hI hR hS hz
           first
           | (rw [List.map_cons, menc_at _ _ _ (Int32.ofInt_add _ _)] at k8; exact lv_iadd hx hb hd k8)
           | (rw [List.map_cons, menc_at _ _ _ (Int32.ofInt_sub _ _)] at k8; exact lv_isub hx hb hd k8)
           | (rw [List.map_cons, menc_at _ _ _ (Int32.ofInt_mul _ _)] at k8; exact lv_imul hx hb hd k8)
           | (rw [List.map_cons, menc_toInt] at k8
              first
              | exact lv_idiv hx hb hd (mne0 (by assumption)) k8
              | exact lv_irem hx hb hd (mne0 (by assumption)) k8
              | exact lv_iand hx hb hd k8
              | exact lv_ior hx hb hd k8
              | exact lv_ishl hx hb hd k8
              | exact lv_ishr hx hb hd k8
              | exact lv_iushr hx hb hd rfl k8))
    · cases hs
theorem mF_ineg {a b' c' : Nat} (F : mFr p s m args meth c cc own ini good D cl n0 b mt cA ft L0 xs strs nw) (hd : decode cc pc = .ok (.ineg, 1))
    (hs : mstep fd nf (.ineg, 1, a, b', c') pc L st h = some (.inl (pc', L', st', h', dc, ds)))
    (kk : mK p l e R s m args below meth c Q D cl n0 b mt cA ft L0 xs pc' L' st' h' (cells + dc) (slots + ds)) : mK p l e R s m args below meth c Q D cl n0 b mt cA ft L0 xs pc L st h cells slots := by
  obtain ⟨hx, hb, hown, hts, -, -, hSt⟩ := F
  intro ls H locs hL hI hR hS hz
  have k9 := kk ls H locs
  simp only [mstep, mnx] at hs
  unfold mi1 at hs
  split at hs
  · cases hs
    have k8 := k9 hL hI hR hS hz
    rw [List.map_cons, menc_at _ _ _ (Int32.ofInt_neg _)] at k8
    exact lv_ineg hx hb hd k8
  · cases hs
theorem mlg (u v : Int) : Int32.ofInt (if u < v then -1 else if u = v then 0 else 1) = if v < u then 1 else if u = v then 0 else -1 := by
  by_cases h1 : u < v
  · rw [if_pos h1, if_neg (by omega), if_neg (by omega)]; rfl
  · by_cases h2 : u = v
    · rw [if_neg h1, if_pos h2, if_neg (by omega), if_pos h2]; rfl
    · rw [if_neg h1, if_neg h2, if_pos (by omega)]; rfl
theorem mF_longs {a b' c' : Nat} (F : mFr p s m args meth c cc own ini good D cl n0 b mt cA ft L0 xs strs nw) (i : Instr) (hi : i = .i2l ∨ i = .lcmp ∨ i = .land ∨ i = .lor ∨ i = .lshl ∨ i = .lshr) (hd : decode cc pc = .ok (i, 1))
    (hs : mstep fd nf (i, 1, a, b', c') pc L st h = some (.inl (pc', L', st', h', dc, ds)))
    (kk : mK p l e R s m args below meth c Q D cl n0 b mt cA ft L0 xs pc' L' st' h' (cells + dc) (slots + ds)) : mK p l e R s m args below meth c Q D cl n0 b mt cA ft L0 xs pc L st h cells slots := by
  obtain ⟨hx, hb, hown, hts, -, -, hSt⟩ := F
  intro ls H locs hL hI hR hS hz
  have k9 := kk ls H locs
  rcases hi with rfl | rfl | rfl | rfl | rfl | rfl
  · simp only [mstep, mnx] at hs
    unfold mi1 at hs
    split at hs
    · cases hs
      have k8 := k9 hL hI hR hS hz
      refine lv_i2l hx hb hd ?_ k8
      rename_i x r
      show _ = Int64.ofInt (Int32.ofInt x).toInt
      rw [← Int64.toInt_inj, Int32.toInt_toInt64, Int64.toInt_ofInt_of_le (by have := Int32.le_toInt (Int32.ofInt x); omega) (by have := Int32.toInt_lt (Int32.ofInt x); omega)]
    · cases hs
  · simp only [mstep, mnx] at hs
    unfold mj2 at hs
    split at hs
    · cases hs
      have k8 := k9 hL hI hR hS hz
      rename_i y x r
      rw [List.map_cons, menc_at _ _ (lg_cmp (Int64.ofInt x) (Int64.ofInt y)) (by
        unfold lg_cmp m64
        simp only [Int64.lt_iff_toInt_lt, ← Int64.toInt_inj]
        exact mlg _ _)] at k8
      exact W.lcmp hx hb hd k8
    · cases hs
  · simp only [mstep, mnx] at hs
    unfold mj2 at hs
    split at hs
    · cases hs
      have k8 := k9 hL hI hR hS hz
      rw [List.map_cons, menc_toIntL] at k8
      exact lv_land hx hb hd k8
    · cases hs
  · simp only [mstep, mnx] at hs
    unfold mj2 at hs
    split at hs
    · cases hs
      have k8 := k9 hL hI hR hS hz
      rw [List.map_cons, menc_toIntL] at k8
      exact lv_lor hx hb hd k8
    · cases hs
  · simp only [mstep, mnx] at hs
    unfold mji at hs
    split at hs
    · cases hs
      have k8 := k9 hL hI hR hS hz
      rw [List.map_cons, menc_toIntL] at k8
      exact lv_lshl hx hb hd rfl k8
    · cases hs
  · simp only [mstep, mnx] at hs
    unfold mji at hs
    split at hs
    · cases hs
      have k8 := k9 hL hI hR hS hz
      rw [List.map_cons, menc_toIntL] at k8
      exact lv_lshr hx hb hd rfl k8
    · cases hs
theorem mF_stack {a b' c' : Nat} (F : mFr p s m args meth c cc own ini good D cl n0 b mt cA ft L0 xs strs nw) (i : Instr) (hi : i = .dup ∨ i = .dup2 ∨ i = .pop) (hd : decode cc pc = .ok (i, 1))
    (hs : mstep fd nf (i, 1, a, b', c') pc L st h = some (.inl (pc', L', st', h', dc, ds)))
    (kk : mK p l e R s m args below meth c Q D cl n0 b mt cA ft L0 xs pc' L' st' h' (cells + dc) (slots + ds)) : mK p l e R s m args below meth c Q D cl n0 b mt cA ft L0 xs pc L st h cells slots := by
  obtain ⟨hx, hb, hown, hts, -, -, hSt⟩ := F
  intro ls H locs hL hI hR hS hz
  have k9 := kk ls H locs
  rcases hi with rfl | rfl | rfl
  · simp only [mstep, mnx] at hs
    split at hs
    · split at hs
      · cases hs
        exact lv_dup hx hb hd (menc_cat1 _ (by assumption)) (k9 hL hI hR hS hz)
      · cases hs
    · cases hs
  · simp only [mstep, mnx] at hs
    split at hs
    · split at hs
      · rename_i hr
        cases hs
        exact lv_dup2_11 hx hb hd (menc_cat1 _ hr.1) (menc_cat1 _ hr.2) (k9 hL hI hR hS hz)
      · cases hs
    · cases hs
  · simp only [mstep, mnx] at hs
    split at hs
    · split at hs
      · cases hs
        exact lv_pop hx hb hd (menc_cat1 _ (by assumption)) (k9 hL hI hR hS hz)
      · cases hs
    · cases hs
theorem mF_goto {a b' c' : Nat} {off : Int} (F : mFr p s m args meth c cc own ini good D cl n0 b mt cA ft L0 xs strs nw) (hd : decode cc pc = .ok (.goto off, 3)) (ht : (pc : Int) + off = (a : Int))
    (hs : mstep fd nf (.goto off, 3, a, b', c') pc L st h = some (.inl (pc', L', st', h', dc, ds)))
    (kk : mK p l e R s m args below meth c Q D cl n0 b mt cA ft L0 xs pc' L' st' h' (cells + dc) (slots + ds)) : mK p l e R s m args below meth c Q D cl n0 b mt cA ft L0 xs pc L st h cells slots := by
  obtain ⟨hx, hb, hown, hts, -, -, hSt⟩ := F
  intro ls H locs hL hI hR hS hz
  simp only [mstep, mnx] at hs
  cases hs
  exact lv_goto hx hb hd ht (kk ls H locs hL hI hR hS hz)
theorem mF_if {a b' c' : Nat} {off : Int} {cd : Jvm.ClassFile.Cond} (F : mFr p s m args meth c cc own ini good D cl n0 b mt cA ft L0 xs strs nw) (hd : decode cc pc = .ok (.ifCond cd off, 3)) (ht : (pc : Int) + off = (a : Int))
    (hs : mstep fd nf (.ifCond cd off, 3, a, b', c') pc L st h = some (.inl (pc', L', st', h', dc, ds)))
    (kk : mK p l e R s m args below meth c Q D cl n0 b mt cA ft L0 xs pc' L' st' h' (cells + dc) (slots + ds)) : mK p l e R s m args below meth c Q D cl n0 b mt cA ft L0 xs pc L st h cells slots := by
  obtain ⟨hx, hb, hown, hts, -, -, hSt⟩ := F
  intro ls H locs hL hI hR hS hz
  simp only [mstep] at hs
  unfold mi1 at hs
  split at hs
  · rename_i x r
    have k9 := kk ls H locs
    unfold mif mcnd m32 mnx at hs
    have e0 : Int32.ofInt x = 0 ↔ (Int32.ofInt x).toInt = 0 := by rw [← Int32.toInt_inj]; rfl
    have e1 : Int32.ofInt x < 0 ↔ (Int32.ofInt x).toInt < 0 := by rw [Int32.lt_iff_toInt_lt]; rfl
    have e2 : 0 ≤ Int32.ofInt x ↔ 0 ≤ (Int32.ofInt x).toInt := by rw [Int32.le_iff_toInt_le]; rfl
    have e3 : 0 < Int32.ofInt x ↔ 0 < (Int32.ofInt x).toInt := by rw [Int32.lt_iff_toInt_lt]; rfl
    have e4 : Int32.ofInt x ≤ 0 ↔ (Int32.ofInt x).toInt ≤ 0 := by rw [Int32.le_iff_toInt_le]; rfl
    cases cd <;> simp only [decide_eq_true_eq] at hs <;> split at hs <;> cases hs
    · exact lv_if_eq hx hb hd ht (fun _ => k9 hL hI hR hS hz) (fun q => absurd (e0.mpr (by assumption)) q)
    · exact lv_if_eq hx hb hd ht (fun q => absurd (e0.mp q) (by assumption)) (fun _ => k9 hL hI hR hS hz)
    · exact lv_if_ne hx hb hd ht (fun _ => k9 hL hI hR hS hz) (fun q => absurd (e0.mp q) (by assumption))
    · rename_i hn
      exact lv_if_ne hx hb hd ht (fun q => absurd (e0.mpr (Decidable.not_not.mp hn)) q) (fun _ => k9 hL hI hR hS hz)
    · exact lv_if_lt hx hb hd ht (fun _ => k9 hL hI hR hS hz) (fun q => absurd (e1.mpr (by assumption)) q)
    · exact lv_if_lt hx hb hd ht (fun q => absurd (e1.mp q) (by assumption)) (fun _ => k9 hL hI hR hS hz)
    · exact lv_if_ge hx hb hd ht (fun _ => k9 hL hI hR hS hz) (fun q => absurd (e2.mpr (by assumption)) q)
    · exact lv_if_ge hx hb hd ht (fun q => absurd (e2.mp q) (by assumption)) (fun _ => k9 hL hI hR hS hz)
    · exact lv_if_gt hx hb hd ht (fun _ => k9 hL hI hR hS hz) (fun q => absurd (e3.mpr (by assumption)) q)
    · exact lv_if_gt hx hb hd ht (fun q => absurd (e3.mp q) (by assumption)) (fun _ => k9 hL hI hR hS hz)
    · exact lv_if_le hx hb hd ht (fun _ => k9 hL hI hR hS hz) (fun q => absurd (e4.mpr (by assumption)) q)
    · exact lv_if_le hx hb hd ht (fun q => absurd (e4.mp q) (by assumption)) (fun _ => k9 hL hI hR hS hz)
  · cases hs
theorem mF_icmp {a b' c' : Nat} {off : Int} {cd : Jvm.ClassFile.Cond} (F : mFr p s m args meth c cc own ini good D cl n0 b mt cA ft L0 xs strs nw) (hd : decode cc pc = .ok (.if_icmp cd off, 3)) (ht : (pc : Int) + off = (a : Int))
    (hs : mstep fd nf (.if_icmp cd off, 3, a, b', c') pc L st h = some (.inl (pc', L', st', h', dc, ds)))
    (kk : mK p l e R s m args below meth c Q D cl n0 b mt cA ft L0 xs pc' L' st' h' (cells + dc) (slots + ds)) : mK p l e R s m args below meth c Q D cl n0 b mt cA ft L0 xs pc L st h cells slots := by
  obtain ⟨hx, hb, hown, hts, -, -, hSt⟩ := F
  intro ls H locs hL hI hR hS hz
  simp only [mstep] at hs
  unfold mi2 at hs
  split at hs
  · rename_i y x r
    have k9 := kk ls H locs
    unfold mif mcnd m32 mnx at hs
    have e0 : Int32.ofInt x = Int32.ofInt y ↔ (Int32.ofInt x).toInt = (Int32.ofInt y).toInt := by rw [← Int32.toInt_inj]
    have e1 : Int32.ofInt x < Int32.ofInt y ↔ (Int32.ofInt x).toInt < (Int32.ofInt y).toInt := by rw [Int32.lt_iff_toInt_lt]
    have e2 : Int32.ofInt y ≤ Int32.ofInt x ↔ (Int32.ofInt y).toInt ≤ (Int32.ofInt x).toInt := by rw [Int32.le_iff_toInt_le]
    have e3 : Int32.ofInt y < Int32.ofInt x ↔ (Int32.ofInt y).toInt < (Int32.ofInt x).toInt := by rw [Int32.lt_iff_toInt_lt]
    have e4 : Int32.ofInt x ≤ Int32.ofInt y ↔ (Int32.ofInt x).toInt ≤ (Int32.ofInt y).toInt := by rw [Int32.le_iff_toInt_le]
    cases cd <;> simp only [decide_eq_true_eq] at hs <;> split at hs <;> cases hs
    · exact lv_icmp_eq hx hb hd ht (fun _ => k9 hL hI hR hS hz) (fun q => absurd (e0.mpr (by assumption)) q)
    · exact lv_icmp_eq hx hb hd ht (fun q => absurd (e0.mp q) (by assumption)) (fun _ => k9 hL hI hR hS hz)
    · exact lv_icmp_ne hx hb hd ht (fun _ => k9 hL hI hR hS hz) (fun q => absurd (e0.mp q) (by assumption))
    · rename_i hn
      exact lv_icmp_ne hx hb hd ht (fun q => absurd (e0.mpr (Decidable.not_not.mp hn)) q) (fun _ => k9 hL hI hR hS hz)
    · exact lv_icmp_lt hx hb hd ht (fun _ => k9 hL hI hR hS hz) (fun q => absurd (e1.mpr (by assumption)) q)
    · exact lv_icmp_lt hx hb hd ht (fun q => absurd (e1.mp q) (by assumption)) (fun _ => k9 hL hI hR hS hz)
    · exact lv_icmp_ge hx hb hd ht (fun _ => k9 hL hI hR hS hz) (fun q => absurd (e2.mpr (by assumption)) q)
    · exact lv_icmp_ge hx hb hd ht (fun q => absurd (e2.mp q) (by assumption)) (fun _ => k9 hL hI hR hS hz)
    · exact lv_icmp_gt hx hb hd ht (fun _ => k9 hL hI hR hS hz) (fun q => absurd (e3.mpr (by assumption)) q)
    · exact lv_icmp_gt hx hb hd ht (fun q => absurd (e3.mp q) (by assumption)) (fun _ => k9 hL hI hR hS hz)
    · exact lv_icmp_le hx hb hd ht (fun _ => k9 hL hI hR hS hz) (fun q => absurd (e4.mpr (by assumption)) q)
    · exact lv_icmp_le hx hb hd ht (fun q => absurd (e4.mp q) (by assumption)) (fun _ => k9 hL hI hR hS hz)
  · cases hs
theorem mF_table {a b' c' n : Nat} {df lo hi : Int} {offs : Array Int} (F : mFr p s m args meth c cc own ini good D cl n0 b mt cA ft L0 xs strs nw) (hd : decode cc pc = .ok (.tableswitch df lo hi offs, n))
    (hs : mstep fd nf (.tableswitch df lo hi offs, n, a, b', c') pc L st h = some (.inl (pc', L', st', h', dc, ds)))
    (kk : mK p l e R s m args below meth c Q D cl n0 b mt cA ft L0 xs pc' L' st' h' (cells + dc) (slots + ds)) : mK p l e R s m args below meth c Q D cl n0 b mt cA ft L0 xs pc L st h cells slots := by
  obtain ⟨hx, hb, hown, hts, -, -, hSt⟩ := F
  intro ls H locs hL hI hR hS hz
  simp only [mstep] at hs
  unfold mi1 at hs
  split at hs
  · rename_i x r
    have k9 := kk ls H locs
    unfold m32 mnx at hs
    dsimp only at hs
    split at hs
    · rename_i ho
      split at hs
      · rename_i h0
        cases hs
        exact lv_tableOut hx hb hd ho (Int.toNat_of_nonneg h0).symm (k9 hL hI hR hS hz)
      · cases hs
    · rename_i ho
      split at hs
      · rename_i off hoff
        split at hs
        · rename_i h0
          cases hs
          exact lv_tableIn hx hb hd (fun q => ho (Or.inl q)) (fun q => ho (Or.inr q)) hoff (Int.toNat_of_nonneg h0).symm (k9 hL hI hR hS hz)
        · cases hs
      · cases hs
  · cases hs
end MS2
end
section
/-! Steps: fields, arrays, new things. -/
section MS3
variable {p : Program} {l : Launch} {e : Env} {R : Room} {s : State} {m : MethodId} {args : Array Value} {below : List Frame} {meth : Method} {c : Code} {Q : State → Prop}
variable {cc : ByteArray} {own : String} {ini : Bool} {good : List Cond} {D : va_G} {cl : List vw_C} {n0 b mt : Nat} {cA : Nat → ClassId} {ft : Nat → Nat → Nat} {L0 : Nat} {xs : Nat → Int32} {strs : List (String × Nat × String)} {nw : List Cond}
variable {pc pc' : Nat} {L L' : mLs} {st st' : List mV} {h h' : mH} {cells slots dc ds : Nat} {fd : Nat → Nat → Int} {nf : Nat → Nat}
theorem msz_ok {a kd n : Nat} (hs : msz h a kd = some n) : h.1[a]? = some (kd, n) := by
  unfold msz at hs
  split at hs
  · rename_i k n' hk
    split at hs
    · rename_i he
      cases hs
      rw [hk, he]
    · cases hs
  · cases hs
theorem mF_getfield {idx a b' c' : Nat} {q : vw_C} (F : mFr p s m args meth c cc own ini good D cl n0 b mt cA ft L0 xs strs nw) (hd : decode cc pc = .ok (.getfield idx, 3))
    (hc : cl[a]? = some q) (hk : b' < q.2.2) (hw : Cond.fieldLink own idx (q.2.1 b').1 (q.2.1 b').2.1 (q.2.1 b').2.2.1 ∈ good) (hft : ft a b' = c')
    (hs : mstep fd nf (.getfield idx, 3, a, b', c') pc L st h = some (.inl (pc', L', st', h', dc, ds)))
    (kk : mK p l e R s m args below meth c Q D cl n0 b mt cA ft L0 xs pc' L' st' h' (cells + dc) (slots + ds)) : mK p l e R s m args below meth c Q D cl n0 b mt cA ft L0 xs pc L st h cells slots := by
  obtain ⟨hx, hb, hown, hts, -, hCl, hSt⟩ := F
  intro ls H locs hL hI hR hS hz
  simp only [mstep, mnx] at hs
  unfold mp1 at hs
  split at hs
  · rename_i o r
    dsimp only at hs
    split at hs
    · rename_i N hN
      split at hs
      · rename_i hb2
        have hg := mws_get (n0 := n0) (ad := mad n0 b mt) (cA := cA) (ft := ft) hb2.1 (msz_ok hN)
        rw [mcell_o] at hg
        have hv : ((List.range N).map fun j => mfv (mad n0 b mt) (ft a j) (h.2.1 o j))[b']? = some (mfv (mad n0 b mt) (ft a b') (h.2.1 o b')) := by
          rw [List.getElem?_map, List.getElem?_range hb2.2]; rfl
        have key : ∀ K, W p l e R s m args below meth c H locs cells slots Q (F0 m (pc + 3) ls (mfv (mad n0 b mt) (ft a b') (h.2.1 o b') :: K)) → W p l e R s m args below meth c H locs cells slots Q (F0 m pc ls (.ref (mad n0 b mt o) :: K)) := by
          intro K k8
          rw [mad_ge hb2.1]
          exact va_get hx hb hts (hCl a q hc).1 hown hSt.1 hR.1 (o - 2) hg hc b' hk (hts _ hw) (fun _ h9 => h9) hv hd k8
        split at hs
        · rename_i hc1
          split at hs
          · rename_i h0
            cases hs
            refine key _ ?_
            have k8 := kk ls H locs hL hI hR hS hz
            rw [hft, hc1]
            have e1 : mfv (mad n0 b mt) 1 (h.2.1 o b') = .ref (mad n0 b mt (h.2.1 o b').toNat) := by
              unfold mfv mro
              rw [if_pos rfl, if_neg (by omega)]
              rfl
            rw [e1]
            exact k8
          · cases hs
        · rename_i hc1
          cases hs
          refine key _ ?_
          have k8 := kk ls H locs hL hI hR hS hz
          have e1 : mfv (mad n0 b mt) (ft a b') (h.2.1 o b') = .int (Int32.ofInt (h.2.1 o b')) := by
            unfold mfv
            rw [hft, if_neg hc1]
          rw [e1]
          exact k8
      · cases hs
    · cases hs
  · cases hs
theorem mRel_set {o kd n i : Nat} {x : Int} {H1 : Heap} {ev : va_E} (ho : 2 ≤ o) (hk : h.1[o]? = some (kd, n)) (he : mcell (mad n0 b mt) cA ft kd n (fun j => if j = i then x else h.2.1 o j) = ev)
    (hP : va_P D cl ((mws n0 (mad n0 b mt) cA ft h).set (o - 2) (n0 + (o - 2), ev)) H1) (hD : va_D (fun q => n0 ≤ q) ((mws n0 (mad n0 b mt) cA ft h).set (o - 2) (n0 + (o - 2), ev))) : mRel D cl n0 (mad n0 b mt) cA ft (h.1, mup h.2.1 o i x, h.2.2) H1 := by
  unfold mRel
  rw [mws_set ho hk he]
  exact ⟨hP, hD⟩
theorem mF_putfield {idx a b' c' : Nat} {q : vw_C} (F : mFr p s m args meth c cc own ini good D cl n0 b mt cA ft L0 xs strs nw) (hd : decode cc pc = .ok (.putfield idx, 3))
    (hc : cl[a]? = some q) (hk : b' < q.2.2) (hw : Cond.fieldLink own idx (q.2.1 b').1 (q.2.1 b').2.1 (q.2.1 b').2.2.1 ∈ good) (hft : ft a b' = c') (hfin : (q.2.1 b').2.2.2 = false ∨ ((q.2.1 b').2.2.2 = true ∧ ini = true ∧ (q.2.1 b').1 = own))
    (hs : mstep fd nf (.putfield idx, 3, a, b', c') pc L st h = some (.inl (pc', L', st', h', dc, ds)))
    (kk : mK p l e R s m args below meth c Q D cl n0 b mt cA ft L0 xs pc' L' st' h' (cells + dc) (slots + ds)) : mK p l e R s m args below meth c Q D cl n0 b mt cA ft L0 xs pc L st h cells slots := by
  obtain ⟨hx, hb, hown, hts, hini, hCl, hSt⟩ := F
  intro ls H locs hL hI hR hS hz
  obtain ⟨hin, hnm, ty, hty⟩ := hCl a q hc
  have key : ∀ (o N : Nat) (x : Int) (v : Value) (K : List Value), 2 ≤ o → b' < N → h.1[o]? = some (16 + a, N) → mfv (mad n0 b mt) (ft a b') x = v → narrow (ty b') v = v → fits (ty b') v = true →
      (∀ H1 locs1, mRel D cl n0 (mad n0 b mt) cA ft (h.1, mup h.2.1 o b' x, h.2.2) H1 → va_S (fun q => n0 ≤ q) s.heap H1 locs1 → W p l e R s m args below meth c H1 locs1 cells slots Q (F0 m (pc + 3) ls K)) → W p l e R s m args below meth c H locs cells slots Q (F0 m pc ls (v :: .ref (mad n0 b mt o) :: K)) := by
    intro o N x v K ho hbN hN hv hn hf k8
    rw [mad_ge ho]
    have hg := mws_get (n0 := n0) (ad := mad n0 b mt) (cA := cA) (ft := ft) ho hN
    rw [mcell_o] at hg
    have hlen : b' < ((List.range N).map fun j => mfv (mad n0 b mt) (ft a j) (h.2.1 o j)).length := by simpa using hbN
    have k7 : ∀ (H1 : Heap) (locs1 : List Loc), va_P D cl ((mws n0 (mad n0 b mt) cA ft h).set (o - 2) (n0 + (o - 2), .inr (a, ((List.range N).map fun j => mfv (mad n0 b mt) (ft a j) (h.2.1 o j)).set b' v))) H1 → va_D (fun q => n0 ≤ q) ((mws n0 (mad n0 b mt) cA ft h).set (o - 2) (n0 + (o - 2), .inr (a, ((List.range N).map fun j => mfv (mad n0 b mt) (ft a j) (h.2.1 o j)).set b' v))) → va_S (fun q => n0 ≤ q) s.heap H1 locs1 → W p l e R s m args below meth c H1 locs1 cells slots Q (F0 m (pc + 3) ls K) :=
      fun H1 locs1 hP1 hD1 hS1 => k8 H1 locs1 (mRel_set ho hN (by rw [mcell_o, mfv_set, hv]) hP1 hD1) hS1
    rcases hfin with h1 | ⟨h1, h2, h3⟩
    · exact va_put hx hb hts hin ty (fun k hk => (hty k hk).1) hnm hown hSt.1 hR.1 hR.2 hS (o - 2) hg hc b' hk (hts _ hw) (fun _ h9 => h9) h1 (hty b' hk).1 hn hf hlen hd k7
    · exact va_putF hx hb hts hin ty (fun k hk => (hty k hk).1) hnm hown hSt.1 hR.1 hR.2 hS (o - 2) hg hc b' hk (hts _ hw) (fun _ h9 => h9) h1 (hini h2) h3 (hty b' hk).1 hn hf hlen hd k7
  simp only [mstep, mnx] at hs
  split at hs
  · rename_i x o r
    split at hs
    · rename_i N hN
      split at hs
      · rename_i hr
        cases hs
        refine key o N x (.int (Int32.ofInt x)) _ hr.1 hr.2.1 (msz_ok hN) ?_ ?_ ?_ (fun H1 locs1 hR1 hS1 => kk ls H1 locs1 hL (hI.up hr.1) hR1 hS1 hz)
        · unfold mfv
          rw [if_neg (by rw [hft]; omega)]
        · rcases hr.2.2 with h0 | ⟨h0, h1 | h1⟩
          · rcases (hty b' hk).2 with ⟨g1, -⟩ | ⟨g1, g2⟩ | ⟨g1, -⟩
            · omega
            · rw [g2]; rfl
            · omega
          all_goals
            rcases (hty b' hk).2 with ⟨g1, -⟩ | ⟨g1, g2⟩ | ⟨g1, g2⟩
            · omega
            · omega
            · rw [g2, h1]; decide
        · rcases hr.2.2 with h0 | ⟨h0, h1 | h1⟩
          · rcases (hty b' hk).2 with ⟨g1, -⟩ | ⟨g1, g2⟩ | ⟨g1, -⟩
            · omega
            · rw [g2]; rfl
            · omega
          all_goals
            rcases (hty b' hk).2 with ⟨g1, -⟩ | ⟨g1, g2⟩ | ⟨g1, g2⟩
            · omega
            · omega
            · rw [g2, h1]; decide
      · cases hs
    · cases hs
  · rename_i v o r
    split at hs
    · rename_i N hN
      split at hs
      · rename_i hr
        cases hs
        have hy : (∃ n, ty b' = .object n) ∨ ∃ t, ty b' = .array t := by
          rcases (hty b' hk).2 with ⟨g1, g2⟩ | ⟨g1, g2⟩ | ⟨g1, g2⟩
          · exact g2
          · omega
          · omega
        refine key o N v (.ref (mad n0 b mt v)) _ hr.1 hr.2.1 (msz_ok hN) ?_ ?_ ?_ (fun H1 locs1 hR1 hS1 => kk ls H1 locs1 hL (hI.up hr.1) hR1 hS1 hz)
        · unfold mfv mro
          rw [if_pos (by rw [hft]; exact hr.2.2), if_neg (by omega)]
          rfl
        · rcases hy with ⟨n, g⟩ | ⟨t, g⟩ <;> rw [g] <;> rfl
        · rcases hy with ⟨n, g⟩ | ⟨t, g⟩ <;> rw [g] <;> rfl
      · cases hs
    · cases hs
  · cases hs
theorem mF_getstatic {idx a b' c' : Nat} (F : mFr p s m args meth c cc own ini good D cl n0 b mt cA ft L0 xs strs nw) (hd : decode cc pc = .ok (.getstatic idx, 3))
    (hw : Cond.fieldLink own idx "Collationer" "MARK_CLASSES" "[I" ∈ good)
    (hs : mstep fd nf (.getstatic idx, 3, a, b', c') pc L st h = some (.inl (pc', L', st', h', dc, ds)))
    (kk : mK p l e R s m args below meth c Q D cl n0 b mt cA ft L0 xs pc' L' st' h' (cells + dc) (slots + ds)) : mK p l e R s m args below meth c Q D cl n0 b mt cA ft L0 xs pc L st h cells slots := by
  obtain ⟨hx, hb, hown, hts, hini, hCl, hSt⟩ := F
  intro ls H locs hL hI hR hS hz
  simp only [mstep, mnx] at hs
  cases hs
  exact va_gets hx hb hSt.2.2.1 hS hown (hts _ hw) (fun _ h9 => h9) hd (kk ls H locs hL hI hR hS hz)
theorem min_of {x : Int} {n : Nat} (h1 : 0 ≤ m32 x) (h2 : m32 x < n) : vp_in (Int32.ofInt x) n := vp_in_iff.mpr ⟨h1, h2⟩
theorem mF_alen {a b' c' : Nat} (F : mFr p s m args meth c cc own ini good D cl n0 b mt cA ft L0 xs strs nw) (hd : decode cc pc = .ok (.arraylength, 1))
    (hs : mstep fd nf (.arraylength, 1, a, b', c') pc L st h = some (.inl (pc', L', st', h', dc, ds)))
    (kk : mK p l e R s m args below meth c Q D cl n0 b mt cA ft L0 xs pc' L' st' h' (cells + dc) (slots + ds)) : mK p l e R s m args below meth c Q D cl n0 b mt cA ft L0 xs pc L st h cells slots := by
  obtain ⟨hx, hb, hown, hts, hini, hCl, hK, hX, hZ, hT, hU, hN, hbn, hns, hL0, -, -⟩ := F
  intro ls H locs hL hI hR hS hz
  simp only [mstep, mnx] at hs
  unfold mp1 at hs
  split at hs
  · rename_i o r
    dsimp only at hs
    split at hs
    · rename_i k N hk
      split at hs
      · rename_i hr
        cases hs
        have k8 := kk ls H locs hL hI hR hS hz
        match o, hk with
        | 0, hk =>
          obtain ⟨i1, -⟩ := hI
          rw [i1] at hk
          cases hk
          exact va_slen hx hb hX (Nat.lt_of_lt_of_le hbn hns) (by show ¬ n0 ≤ b; omega) hS hd k8
        | 1, hk =>
          obtain ⟨-, i1, -⟩ := hI
          rw [i1] at hk
          cases hk
          exact va_tlen hx hb hT hS rfl hd k8
        | o + 2, hk =>
          have hg := mws_get (n0 := n0) (ad := mad n0 b mt) (cA := cA) (ft := ft) (show 2 ≤ o + 2 by omega) hk
          rcases (show k < 2 ∨ k = 2 ∨ (2 < k ∧ k < 7) by omega) with h1 | h1 | h1
          · rw [mcell_i h1] at hg
            exact va_alen hx hb hK hR.1 o k hg (mty_get (by omega)) (by rfl) hd k8
          · subst h1
            rw [mcell_l] at hg
            exact va_alen hx hb hK hR.1 o 2 hg (mty_get (by omega)) (by rfl) hd k8
          · rw [mcell_q h1.1 (by omega)] at hg
            exact va_alen hx hb hK hR.1 o k hg (mty_get h1.2) (by rfl) hd k8
      · cases hs
    · cases hs
  · cases hs
theorem mrd_ok {kd o : Nat} {x : Int} {f : Int → Option mO} {r : mO} (hs : mrd h kd o x f = some r) : ∃ n, h.1[o]? = some (kd, n) ∧ 0 ≤ m32 x ∧ m32 x < n ∧ f (h.2.1 o (m32 x).toNat) = some r := by
  unfold mrd at hs
  split at hs
  · rename_i n hn
    split at hs
    · rename_i hr
      exact ⟨n, msz_ok hn, hr.1, hr.2, hs⟩
    · cases hs
  · cases hs
theorem mF_iaload {a b' c' : Nat} (F : mFr p s m args meth c cc own ini good D cl n0 b mt cA ft L0 xs strs nw) (hd : decode cc pc = .ok (.iaload, 1))
    (hs : mstep fd nf (.iaload, 1, a, b', c') pc L st h = some (.inl (pc', L', st', h', dc, ds)))
    (kk : mK p l e R s m args below meth c Q D cl n0 b mt cA ft L0 xs pc' L' st' h' (cells + dc) (slots + ds)) : mK p l e R s m args below meth c Q D cl n0 b mt cA ft L0 xs pc L st h cells slots := by
  obtain ⟨hx, hb, hown, hts, hini, hCl, hK, hX, hZ, hT, hU, hN, hbn, hns, hL0, -, -⟩ := F
  intro ls H locs hL hI hR hS hz
  simp only [mstep, mnx] at hs
  unfold mix at hs
  split at hs
  · rename_i x o r
    obtain ⟨n, hn, h1, h2, h3⟩ := mrd_ok hs
    cases h3
    have k8 := kk ls H locs hL hI hR hS hz
    match o, hn, k8 with
    | 0, hn, k8 =>
      obtain ⟨i1, -, i3, -⟩ := hI
      rw [i1] at hn
      cases hn
      refine va_sld hx hb hX (Nat.lt_of_lt_of_le hbn hns) (by show ¬ n0 ≤ b; omega) hS (min_of h1 h2) hd ?_
      have e1 : xs (Int32.ofInt x).toNatClampNeg = Int32.ofInt (h.2.1 0 (m32 x).toNat) := (i3 (m32 x).toNat (by omega)).symm
      rw [e1]
      exact k8
    | 1, hn, k8 =>
      obtain ⟨-, i1, -, i4⟩ := hI
      rw [i1] at hn
      cases hn
      refine va_ti hx hb hT hS (min_of h1 h2) rfl hd ?_
      have e1 : ([1, 1, 2, 3] : List Int).getD (Int32.ofInt x).toNatClampNeg 0 = h.2.1 1 (m32 x).toNat := (i4 (m32 x).toNat (by omega)).symm
      rw [e1]
      exact k8
    | o + 2, hn, k8 =>
      have hg := mws_get (n0 := n0) (ad := mad n0 b mt) (cA := cA) (ft := ft) (show 2 ≤ o + 2 by omega) hn
      rw [mcell_i (by omega)] at hg
      exact va_iald hx hb hK hR.1 o 0 hg (mty_get (by omega)) (min_of h1 h2) hd k8
  · cases hs
theorem mF_aloads {a b' c' : Nat} (F : mFr p s m args meth c cc own ini good D cl n0 b mt cA ft L0 xs strs nw) (i : Instr) (hi : i = .baload ∨ i = .laload ∨ (i = .aaload ∧ 2 < a ∧ a < 7)) (hd : decode cc pc = .ok (i, 1))
    (hs : mstep fd nf (i, 1, a, b', c') pc L st h = some (.inl (pc', L', st', h', dc, ds)))
    (kk : mK p l e R s m args below meth c Q D cl n0 b mt cA ft L0 xs pc' L' st' h' (cells + dc) (slots + ds)) : mK p l e R s m args below meth c Q D cl n0 b mt cA ft L0 xs pc L st h cells slots := by
  obtain ⟨hx, hb, hown, hts, hini, hCl, hK, hX, hZ, hT, hU, hN, hbn, hns, hL0, -, -⟩ := F
  intro ls H locs hL hI hR hS hz
  have big : ∀ {o kd n : Nat}, 0 < kd → h.1[o]? = some (kd, n) → 2 ≤ o := by
    intro o kd n h0 hk
    match o, hk with
    | 0, hk => rw [hI.1] at hk; cases hk; omega
    | 1, hk => rw [hI.2.1] at hk; cases hk; omega
    | o + 2, _ => omega
  rcases hi with rfl | rfl | ⟨rfl, hk1, hk2⟩
  · simp only [mstep, mnx] at hs
    unfold mix at hs
    split at hs
    · rename_i x o r
      obtain ⟨n, hn, h1, h2, h3⟩ := mrd_ok hs
      cases h3
      have k8 := kk ls H locs hL hI hR hS hz
      have ho := big (by omega) hn
      have hg := mws_get (n0 := n0) (ad := mad n0 b mt) (cA := cA) (ft := ft) ho hn
      rw [mcell_i (by omega)] at hg
      show W p l e R s m args below meth c H locs cells slots Q (F0 m pc ls (.int (Int32.ofInt x) :: .ref (mad n0 b mt o) :: _))
      rw [mad_ge ho]
      exact va_zald hx hb hK hR.1 (o - 2) 1 hg (mty_get (by omega)) (min_of h1 h2) hd k8
    · cases hs
  · simp only [mstep] at hs
    cases hs
  · simp only [mstep, mnx] at hs
    unfold mix at hs
    split at hs
    · rename_i x o r
      obtain ⟨n, hn, h1, h2, h3⟩ := mrd_ok hs
      split at h3
      · rename_i h0
        cases h3
        have k8 := kk ls H locs hL hI hR hS hz
        have ho := big (by omega) hn
        have hg := mws_get (n0 := n0) (ad := mad n0 b mt) (cA := cA) (ft := ft) ho hn
        rw [mcell_q hk1 (by omega)] at hg
        show W p l e R s m args below meth c H locs cells slots Q (F0 m pc ls (.int (Int32.ofInt x) :: .ref (mad n0 b mt o) :: _))
        rw [mad_ge ho]
        have key : ∀ C, mky a = .object C → W p l e R s m args below meth c H locs cells slots Q (F0 m pc ls (.int (Int32.ofInt x) :: .ref (n0 + (o - 2)) :: r.map (menc (mad n0 b mt)))) := by
          intro C hC
          refine va_aldq (C := C) hx hb hK hR.1 (o - 2) a hg (by rw [mty_get hk2, hC]) (min_of h1 h2) hd ?_
          have e1 : mro (mad n0 b mt) (h.2.1 o (Int32.ofInt x).toNatClampNeg) = some (mad n0 b mt (h.2.1 o (m32 x).toNat).toNat) := by
            unfold mro
            rw [if_neg (by show ¬ h.2.1 o (m32 x).toNat < 0; omega)]
            rfl
          rw [e1]
          exact k8
        rcases (show a = 3 ∨ a = 4 ∨ a = 5 ∨ a = 6 by omega) with rfl | rfl | rfl | rfl <;> exact key _ rfl
      · cases h3
    · cases hs
theorem mwr_ok {kd o : Nat} {x y : Int} {f : mH → Option mO} {r : mO} (hs : mwr h kd o x y f = some r) : ∃ n, h.1[o]? = some (kd, n) ∧ 2 ≤ o ∧ 0 ≤ m32 x ∧ m32 x < n ∧ f (h.1, mup h.2.1 o (m32 x).toNat y, h.2.2) = some r := by
  unfold mwr at hs
  split at hs
  · rename_i n hn
    split at hs
    · rename_i hr
      exact ⟨n, msz_ok hn, hr.1, hr.2.1, hr.2.2, hs⟩
    · cases hs
  · cases hs
theorem mF_astores {a b' c' : Nat} {q : vw_C} (F : mFr p s m args meth c cc own ini good D cl n0 b mt cA ft L0 xs strs nw) (i : Instr) (hi : i = .iastore ∨ i = .bastore ∨ i = .lastore ∨ (i = .aastore ∧ 2 < a ∧ a < 7 ∧ cl[b']? = some q ∧ mky a = .object q.1)) (hd : decode cc pc = .ok (i, 1))
    (hs : mstep fd nf (i, 1, a, b', c') pc L st h = some (.inl (pc', L', st', h', dc, ds)))
    (kk : mK p l e R s m args below meth c Q D cl n0 b mt cA ft L0 xs pc' L' st' h' (cells + dc) (slots + ds)) : mK p l e R s m args below meth c Q D cl n0 b mt cA ft L0 xs pc L st h cells slots := by
  obtain ⟨hx, hb, hown, hts, hini, hCl, hK, hX, hZ, hT, hU, hN, hbn, hns, hL0, -, -⟩ := F
  intro ls H locs hL hI hR hS hz
  rcases hi with rfl | rfl | rfl | ⟨rfl, hk1, hk2, hcl, hky⟩
  · simp only [mstep, mnx] at hs
    split at hs
    · rename_i y x o r
      obtain ⟨n, hn, ho, h1, h2, h3⟩ := mwr_ok hs
      cases h3
      have hg := mws_get (n0 := n0) (ad := mad n0 b mt) (cA := cA) (ft := ft) ho hn
      rw [mcell_i (by omega)] at hg
      show W p l e R s m args below meth c H locs cells slots Q (F0 m pc ls (.int (Int32.ofInt y) :: .int (Int32.ofInt x) :: .ref (mad n0 b mt o) :: _))
      rw [mad_ge ho]
      refine va_iast hx hb hK hR.1 hR.2 hS (o - 2) 0 hg (mty_get (by omega)) (min_of h1 h2) hd fun H1 locs1 hP1 hD1 hS1 => ?_
      refine kk ls H1 locs1 hL (hI.up ho) (mRel_set ho hn ?_ hP1 hD1) hS1 hz
      rw [mcell_i (by omega)]
      congr 4
      funext j
      show Int32.ofInt (if j = (m32 x).toNat then y else h.2.1 o j) = if j = (m32 x).toNat then Int32.ofInt y else Int32.ofInt (h.2.1 o j)
      split <;> rfl
    · cases hs
  · simp only [mstep, mnx] at hs
    split at hs
    · rename_i y x o r
      split at hs
      · rename_i hy
        obtain ⟨n, hn, ho, h1, h2, h3⟩ := mwr_ok hs
        cases h3
        have hg := mws_get (n0 := n0) (ad := mad n0 b mt) (cA := cA) (ft := ft) ho hn
        rw [mcell_i (by omega)] at hg
        show W p l e R s m args below meth c H locs cells slots Q (F0 m pc ls (.int (Int32.ofInt y) :: .int (Int32.ofInt x) :: .ref (mad n0 b mt o) :: _))
        rw [mad_ge ho]
        refine va_zast hx hb hK hR.1 hR.2 hS (o - 2) 1 hg (mty_get (by omega)) (min_of h1 h2) hd fun H1 locs1 hP1 hD1 hS1 => ?_
        refine kk ls H1 locs1 hL (hI.up ho) (mRel_set ho hn ?_ hP1 hD1) hS1 hz
        rw [mcell_i (by omega)]
        congr 4
        funext j
        have e1 : vp_nar .boolean (Int32.ofInt y) = Int32.ofInt y := by
          rcases hy with rfl | rfl <;> decide
        rw [e1]
        show Int32.ofInt (if j = (m32 x).toNat then y else h.2.1 o j) = if j = (m32 x).toNat then Int32.ofInt y else Int32.ofInt (h.2.1 o j)
        split <;> rfl
      · cases hs
    · cases hs
  · simp only [mstep] at hs
    cases hs
  · simp only [mstep, mnx] at hs
    split at hs
    · rename_i y x o r
      split at hs
      · rename_i hy
        obtain ⟨n, hn, ho, h1, h2, h3⟩ := mwr_ok hs
        cases h3
        simp only [mobj, Bool.and_eq_true, decide_eq_true_eq] at hy
        obtain ⟨hy1, hy2⟩ := hy
        split at hy2
        · rename_i N hN
          have hgy := mws_get (n0 := n0) (ad := mad n0 b mt) (cA := cA) (ft := ft) hy1 (msz_ok hN)
          rw [mcell_o] at hgy
          have hg := mws_get (n0 := n0) (ad := mad n0 b mt) (cA := cA) (ft := ft) ho hn
          rw [mcell_q hk1 (by omega)] at hg
          show W p l e R s m args below meth c H locs cells slots Q (F0 m pc ls (.ref (mad n0 b mt y) :: .int (Int32.ofInt x) :: .ref (mad n0 b mt o) :: _))
          rw [mad_ge ho, mad_ge hy1]
          refine va_astq hx hb hK hR.1 hR.2 hS (o - 2) a (y - 2) b' hg (by rw [mty_get hk2, hky]) hgy hcl (min_of h1 h2) hd fun H1 locs1 hP1 hD1 hS1 => ?_
          refine kk ls H1 locs1 hL (hI.up ho) (mRel_set ho hn ?_ hP1 hD1) hS1 hz
          rw [mcell_q hk1 (by omega)]
          congr 7
          funext j
          show mro (mad n0 b mt) (if j = (m32 x).toNat then (y : Int) else h.2.1 o j) = if j = (m32 x).toNat then some (n0 + (y - 2)) else mro (mad n0 b mt) (h.2.1 o j)
          split
          · unfold mro
            rw [if_neg (by omega)]
            show some (mad n0 b mt y) = _
            rw [mad_ge hy1]
          · rfl
        · cases hy2
      · cases hs
    · cases hs
end MS3
end
section
/-! Steps: new cells; Object's constructor. -/
section MS4
variable {p : Program} {l : Launch} {e : Env} {R : Room} {s : State} {m : MethodId} {args : Array Value} {below : List Frame} {meth : Method} {c : Code} {Q : State → Prop}
variable {cc : ByteArray} {own : String} {ini : Bool} {good : List Cond} {D : va_G} {cl : List vw_C} {n0 b mt : Nat} {cA : Nat → ClassId} {ft : Nat → Nat → Nat} {L0 : Nat} {xs : Nat → Int32} {strs : List (String × Nat × String)} {nw : List Cond}
variable {pc pc' : Nat} {L L' : mLs} {st st' : List mV} {h h' : mH} {cells slots dc ds : Nat} {fd : Nat → Nat → Int} {nf : Nat → Nat}
/-- the new cell's address -/
theorem mnewq {q k : Nat} {ev : va_E} {ws : va_W} {H1 : Heap} (hlen : ws.length = k) (hws : ∀ i, i < k → ∃ e, ws[i]? = some (n0 + i, e)) (hP : va_P D cl (ws ++ [(q, ev)]) H1) (hD : va_D (fun q => n0 ≤ q) (ws ++ [(q, ev)])) (hz : H1.size ≤ n0 + k + 1) : q = n0 + k := by
  have hq : (ws ++ [(q, ev)])[k]? = some (q, ev) := by
    rw [List.getElem?_append_right (by omega), hlen, Nat.sub_self]; rfl
  have h1 : q < H1.size := (hP k (q, ev) hq).lt
  have h2 : n0 ≤ q := hD.2 k (q, ev) hq
  by_cases h3 : q < n0 + k
  · obtain ⟨e9, h4⟩ := hws (q - n0) (by omega)
    have h5 : (ws ++ [(q, ev)])[q - n0]? = some (n0 + (q - n0), e9) := by
      rw [List.getElem?_append_left (by omega)]; exact h4
    have h6 := hD.1 (q - n0) k (n0 + (q - n0), e9) (q, ev) h5 hq (by show n0 + (q - n0) = q; omega)
    omega
  · omega
theorem mws_all {i : Nat} {ad : Nat → Nat} (hi : i < h.1.length - 2) : ∃ e, (mws n0 ad cA ft h)[i]? = some (n0 + i, e) := by
  have h1 : h.1[i + 2]? = some (h.1[i + 2]'(by omega)) := List.getElem?_eq_getElem (by omega)
  have h2 := mws_get (n0 := n0) (ad := ad) (cA := cA) (ft := ft) (h := h) (a := i + 2) (by omega) h1
  exact ⟨_, h2⟩
theorem mnew_ok {kd n : Nat} {d : Nat → Int} {f : Nat → mH → Option mO} {r : mO} (hs : mnew h kd n d f = some r) : h.2.2 = true ∧ f h.1.length (h.1 ++ [(kd, n)], (fun b j => if b = h.1.length then d j else h.2.1 b j), true) = some r := by
  unfold mnew at hs
  split at hs
  · rename_i hf
    exact ⟨hf, hs⟩
  · cases hs
theorem mpay_ok {k : Nat} {o : Option mO} (hs : mpay k o = some (.inl (pc', L', st', h', dc, ds))) : ∃ dc0 ds0, o = some (.inl (pc', L', st', h', dc0, ds0)) ∧ dc = dc0 + 1 ∧ ds = ds0 + k := by
  unfold mpay at hs
  split at hs
  · cases hs
    exact ⟨_, _, rfl, rfl, rfl⟩
  · cases hs
/-- behind the making of a cell -/
theorem mnew_go {kd n q : Nat} {d : Nat → Int} {ev : va_E} {ls : Array Slot} {H1 : Heap} {locs : List Loc} {pc2 : Nat} {r : List mV}
    (hL : mLR (mad n0 b mt) L ls) (hI : mI0 L0 xs h) (hz : s.heap.size + cells = n0 + (h.1.length - 2)) (hev : mcell (mad n0 b mt) cA ft kd n d = ev)
    (hP : va_P D cl (mws n0 (mad n0 b mt) cA ft h ++ [(q, ev)]) H1) (hD : va_D (fun q => n0 ≤ q) (mws n0 (mad n0 b mt) cA ft h ++ [(q, ev)])) (hS : va_S (fun q => n0 ≤ q) s.heap H1 locs)
    (kk : mK p l e R s m args below meth c Q D cl n0 b mt cA ft L0 xs pc2 L (mP (some h.1.length) :: r) (h.1 ++ [(kd, n)], (fun b j => if b = h.1.length then d j else h.2.1 b j), true) (cells + 1) (slots + n)) :
    W p l e R s m args below meth c H1 locs (cells + 1) (slots + n) Q (F0 m pc2 ls (.ref q :: r.map (menc (mad n0 b mt)))) := by
  intro T hT X
  have hsz := X.heapSize
  rw [hT] at hsz
  have h2 := hI.len
  have hq : q = n0 + (h.1.length - 2) := mnewq mws_len (fun i hi => mws_all hi) hP hD (by omega)
  subst hq
  have k8 := kk ls H1 locs hL hI.new (by unfold mRel; rw [mws_new h2 hev]; exact ⟨hP, hD⟩) hS (fun _ => by
    show s.heap.size + (cells + 1) = n0 + ((h.1 ++ [(kd, n)]).length - 2)
    rw [List.length_append]
    simp only [List.length_cons, List.length_nil]
    omega)
  rw [show n0 + (h.1.length - 2) = mad n0 b mt h.1.length from (mad_ge h2).symm]
  exact k8 T hT X
theorem mcA_prim {cA' : ClassId} {k : Nat} (hK : va_K D cl (mty cA) s) (hK' : va_K D cl (mty cA ++ [(cA', mky k)]) s) (hk : k < 7) : cA' = cA k := by
  have h1 := (hK.2 k _ (mty_get hk)).2
  have h2 := (hK'.2 7 (cA', mky k) (by rw [List.getElem?_append_right (by simp [mty])]; simp [mty])).2
  rcases (show k = 0 ∨ k = 1 ∨ k = 2 ∨ k = 3 ∨ k = 4 ∨ k = 5 ∨ k = 6 by omega) with rfl | rfl | rfl | rfl | rfl | rfl | rfl
  · exact Option.some.inj (h2.symm.trans h1)
  · exact Option.some.inj (h2.symm.trans h1)
  · exact Option.some.inj (h2.symm.trans h1)
  all_goals
    obtain ⟨_, _, -, -, -, e1⟩ := h1
    obtain ⟨_, _, -, -, -, e2⟩ := h2
    exact Option.some.inj (e2.symm.trans e1)
theorem mF_newarray {t : ArrayType} {a b' c' : Nat} (F : mFr p s m args meth c cc own ini good D cl n0 b mt cA ft L0 xs strs nw) (hd : decode cc pc = .ok (.newarray t, 2)) (hw : Cond.arrayClass (newarray.typeOf t) ∈ good)
    (hs : mstep fd nf (.newarray t, 2, a, b', c') pc L st h = some (.inl (pc', L', st', h', dc, ds))) (hrc : cells + dc ≤ R.cells) (hrs : slots + ds ≤ R.slots)
    (kk : mK p l e R s m args below meth c Q D cl n0 b mt cA ft L0 xs pc' L' st' h' (cells + dc) (slots + ds)) : mK p l e R s m args below meth c Q D cl n0 b mt cA ft L0 xs pc L st h cells slots := by
  obtain ⟨hx, hb, hown, hts, hini, hCl, hK, hX, hZ, hT, hU, hN, hbn, hns, hL0, -, -⟩ := F
  intro ls H locs hL hI hR hS hz
  simp only [mstep, mnx] at hs
  unfold mi1 at hs
  split at hs
  · rename_i x r
    dsimp only at hs
    split at hs
    · rename_i hr
      obtain ⟨dc0, ds0, h1, rfl, rfl⟩ := mpay_ok hs
      obtain ⟨hf, h2⟩ := mnew_ok h1
      cases h2
      have hz1 := hz hf
      have hn : ¬ Int32.ofInt x < 0 := by
        rw [Int32.lt_iff_toInt_lt]
        show ¬ m32 x < (0 : Int32).toInt
        rw [show (0 : Int32).toInt = 0 from rfl]
        omega
      have hN : (Int32.ofInt x).toNatClampNeg = (m32 x).toNat := rfl
      rw [Nat.zero_add] at hrs
      cases t <;> simp only [mkArr] at hr hs kk <;> try (exfalso; omega)
      · refine va_newa (atype := .boolean) (ty := .boolean) (a0 := ((m32 x).toNat, .inl fun _ => Int32.ofInt 0)) hx hb (hts _ hw) rfl hK hR.1 hR.2 hS (fun q hq => Nat.le_trans hns hq) (fun cA => by rw [vp_cell_i]; rfl) hn hN (by simp only [componentBytes]; omega) hrc hrs hd fun q cA' H1 hK' hP' hD' hS' => ?_
        have e1 : cA' = cA 1 := mcA_prim hK hK' (by omega)
        subst e1
        rw [Nat.zero_add, Nat.zero_add] at kk
        exact mnew_go hL hI hz1 (mcell_i (by omega)) hP' hD' hS' kk
      · refine va_newa (atype := .int) (ty := .int) (a0 := ((m32 x).toNat, .inl fun _ => Int32.ofInt 0)) hx hb (hts _ hw) rfl hK hR.1 hR.2 hS (fun q hq => Nat.le_trans hns hq) (fun cA => by rw [vp_cell_i]; rfl) hn hN (by simp only [componentBytes]; omega) hrc hrs hd fun q cA' H1 hK' hP' hD' hS' => ?_
        have e1 : cA' = cA 0 := mcA_prim hK hK' (by omega)
        subst e1
        rw [Nat.zero_add, Nat.zero_add] at kk
        exact mnew_go hL hI hz1 (mcell_i (by omega)) hP' hD' hS' kk
    · cases hs
  · cases hs
theorem mF_anewarray {idx a b' c' : Nat} {C : String} (F : mFr p s m args meth c cc own ini good D cl n0 b mt cA ft L0 xs strs nw) (hd : decode cc pc = .ok (.anewarray idx, 3)) (hk1 : 2 < a) (hk2 : a < 7) (hC : mky a = .object C) (hw : Cond.classLink own idx C ∈ good)
    (hs : mstep fd nf (.anewarray idx, 3, a, b', c') pc L st h = some (.inl (pc', L', st', h', dc, ds))) (hrc : cells + dc ≤ R.cells) (hrs : slots + ds ≤ R.slots)
    (kk : mK p l e R s m args below meth c Q D cl n0 b mt cA ft L0 xs pc' L' st' h' (cells + dc) (slots + ds)) : mK p l e R s m args below meth c Q D cl n0 b mt cA ft L0 xs pc L st h cells slots := by
  obtain ⟨hx, hb, hown, hts, hini, hCl, hK, hX, hZ, hT, hU, hN, hbn, hns, hL0, -, -, hao, -⟩ := F
  intro ls H locs hL hI hR hS hz
  simp only [mstep, mnx] at hs
  unfold mi1 at hs
  split at hs
  · rename_i x r
    dsimp only at hs
    split at hs
    · rename_i hr
      obtain ⟨dc0, ds0, h1, rfl, rfl⟩ := mpay_ok hs
      obtain ⟨hf, h2⟩ := mnew_ok h1
      cases h2
      have hz1 := hz hf
      have hn : ¬ Int32.ofInt x < 0 := by
        rw [Int32.lt_iff_toInt_lt]
        show ¬ m32 x < (0 : Int32).toInt
        rw [show (0 : Int32).toInt = 0 from rfl]
        omega
      have hN : (Int32.ofInt x).toNatClampNeg = (m32 x).toNat := rfl
      rw [Nat.zero_add] at hrs
      refine va_newq hx hb hown (hts _ hw) (hao a hk1 hk2 C hC) hK hR.1 hR.2 hS (fun q hq => Nat.le_trans hns hq) hn hN (by omega) hrc hrs hd fun q cA' H1 hK' hP' hD' hS' => ?_
      rw [← hC] at hK'
      have e1 : cA' = cA a := mcA_prim hK hK' hk2
      subst e1
      rw [Nat.zero_add, Nat.zero_add] at kk
      exact mnew_go hL hI hz1 (mcell_q hk1 (by omega)) hP' hD' hS' kk
    · cases hs
  · cases hs
theorem mF_new {idx a b' c' : Nat} {q : vw_C} (F : mFr p s m args meth c cc own ini good D cl n0 b mt cA ft L0 xs strs nw) (hd : decode cc pc = .ok (.new idx, 3)) (hb1 : b' ≠ 1)
    (hc : cl[a]? = some q) (hnf : nf a = q.2.2) (hfd : ∀ j, fd a j = if ft a j = 1 then -1 else 0) (hw1 : Cond.classLink own idx q.1 ∈ good) (hw2 : Cond.instantiable q.1 q.2.2 ∈ good) (hw3 : Cond.initialized q.1 ∈ good)
    (hs : mstep fd nf (.new idx, 3, a, b', c') pc L st h = some (.inl (pc', L', st', h', dc, ds))) (hrc : cells + dc ≤ R.cells) (hrs : slots + ds ≤ R.slots)
    (kk : mK p l e R s m args below meth c Q D cl n0 b mt cA ft L0 xs pc' L' st' h' (cells + dc) (slots + ds)) : mK p l e R s m args below meth c Q D cl n0 b mt cA ft L0 xs pc L st h cells slots := by
  obtain ⟨hx, hb, hown, hts, hini, hCl, hK, hX, hZ, hT, hU, hN, hbn, hns, hL0, -, -⟩ := F
  intro ls H locs hL hI hR hS hz
  obtain ⟨hin, hnm, ty, hty⟩ := hCl a q hc
  simp only [mstep, mnx] at hs
  rw [if_neg hb1] at hs
  obtain ⟨dc0, ds0, h1, rfl, rfl⟩ := mpay_ok hs
  obtain ⟨hf, h2⟩ := mnew_ok h1
  cases h2
  have hz1 := hz hf
  rw [Nat.zero_add] at hrs
  rw [Nat.zero_add, Nat.zero_add] at kk
  rw [hnf] at hrs kk
  refine va_new (ci := a) (fs := (List.range q.2.2).map fun j => mfv (mad n0 b mt) (ft a j) (fd a j)) hx hb hts hin ty (fun k hk => (hty k hk).1) hown (hts _ hw1) (hts _ hw2) (hts _ hw3) hK hR.1 hR.2 hS (fun q hq => Nat.le_trans hns hq) hc (fun j hj => ?_) hrc hrs hd fun q' H1 hP' hD' hS' => ?_
  · unfold vp_V
    rw [List.getD_eq_getElem?_getD, List.getElem?_map, List.getElem?_range hj]
    show defaultValue (ty j) = mfv (mad n0 b mt) (ft a j) (fd a j)
    rw [hfd]
    rcases (hty j hj).2 with ⟨g1, ⟨n, g2⟩ | ⟨t, g2⟩⟩ | ⟨g1, g2⟩ | ⟨g1, g2⟩ <;> rw [g1, g2] <;> rfl
  · exact mnew_go hL hI hz1 mcell_o hP' hD' hS' kk
theorem mF_objInit {idx a b' : Nat} (F : mFr p s m args meth c cc own ini good D cl n0 b mt cA ft L0 xs strs nw) (hd : decode cc pc = .ok (.invokespecial idx, 3)) (hLn : L.length = c.maxLocals)
    (hw1 : Cond.methodLink own idx Lib.objectInit ∈ good) (hw2 : Cond.instanceMethod Lib.objectInit ∈ good) (hw3 : Cond.code Lib.objectInit ⟨#[0xb1]⟩ 1 none ∈ good) (hf : 1 ≤ R.frames) (hl : 20 ≤ R.locals)
    (hs : mstep fd nf (.invokespecial idx, 3, a, b', 99) pc L st h = some (.inl (pc', L', st', h', dc, ds)))
    (kk : mK p l e R s m args below meth c Q D cl n0 b mt cA ft L0 xs pc' L' st' h' (cells + dc) (slots + ds)) : mK p l e R s m args below meth c Q D cl n0 b mt cA ft L0 xs pc L st h cells slots := by
  obtain ⟨hx, hb, hown, hts, hini, hCl, hK, hX, hZ, hT, hU, hN, hbn, hns, hL0, -, -⟩ := F
  intro ls H locs hL hI hR hS hz
  simp only [mstep, mnx] at hs
  rw [if_pos trivial] at hs
  unfold mp1 at hs
  split at hs
  · rename_i o r
    dsimp only at hs
    split at hs
    · rename_i hr
      cases hs
      refine W.objInit hx hb hown (hts _ hw1) (hts _ hw2) (hts _ hw3) rfl (by rw [← hLn]; exact hL.1) rfl hd hf ?_ ?_
      · show 2 * 0 + ((st'.map (menc (mad n0 b mt))).map fun v => v.category).sum + 12 ≤ R.locals
        rw [menc_cats]
        omega
      · exact kk ls H locs hL hI hR hS hz
    · cases hs
  · cases hs
end MS4
end
section
/-! The program's static data, contracts, calls. -/
/-- a method's word -/
def mwd (y : MethodName) (cc : ByteArray) (n : Nat) (ret : Option FieldType) (hh : Option (List (Nat × Nat × Nat × Nat))) : Cond := match hh with
  | none => .code y cc n ret
  | some hs => .codeWith y cc n ret hs
section MC
variable {p : Program} {l : Launch} {e : Env} {R : Room} {s : State} {m : MethodId} {args : Array Value} {below : List Frame} {meth : Method} {c : Code} {Q : State → Prop}
variable {cc : ByteArray} {own : String} {ini : Bool} {good : List Cond} {D : va_G} {cl : List vw_C} {n0 b mt : Nat} {cA : Nat → ClassId} {ft : Nat → Nat → Nat} {L0 : Nat} {xs : Nat → Int32} {strs : List (String × Nat × String)} {nw : List Cond}
variable {pc pc' : Nat} {L L' : mLs} {st st' : List mV} {h h' : mH} {cells slots dc ds : Nat} {fd : Nat → Nat → Int} {nf : Nat → Nat} {H H0 H1 : Heap} {locs : List Loc}
theorem mSt.warm {u U : State} (hW : u.WarmedH U.vm) (hnw : ∀ w ∈ nw, mNwOk w) (hm : mSt D cl n0 b mt cA L0 xs strs nw u H) : mSt D cl n0 b mt cA L0 xs strs nw U H := by
  obtain ⟨h1, h2, h3, h4, h5, h6, h7, h8, h9, h10, h11, h12, h13, h14⟩ := hm
  have hA := hW.alike
  refine ⟨va_K.moved hA h1, va_X.moved hA h2, va_Z.moved hA h3, va_T.moved hA h4, vx_Zq.moved hA h5, vx_Zq.moved hA h6, h7, h8, h9, fun q hq => ?_, fun w hw => ?_, fun k k1 k2 C hC => va_AO.moved hA (h12 k k1 k2 C hC), fun i hi => va_Nw.warmC hW (h13 i hi), fun i j hi hj hij => va_Nc.moved hA (h14 i j hi hj hij)⟩
  · obtain ⟨sa, h⟩ := h10 q hq
    exact ⟨sa, vk_R.warm hW h⟩
  · rcases hnw w hw with ⟨a, i, x, hh, rfl⟩ | ⟨x, rfl⟩
    · exact va_Nw.warmM hW (h11 _ hw)
    · exact va_Nw.warmD hW (h11 _ hw)
theorem mSt.kept {U : State} (hS : va_S (fun q => n0 ≤ q) H0 H locs) (hm : mSt D cl n0 b mt cA L0 xs strs nw U H0) : mSt D cl n0 b mt cA L0 xs strs nw U H := by
  obtain ⟨h1, h2, h3, h4, h5, h6, h7, h8, h9, h10⟩ := hm
  exact ⟨h1, h2.kept (hS.2.1 b (Nat.lt_of_lt_of_le h7 h8) (by show ¬ n0 ≤ b; omega)), h3.kept hS.2.1, h4.kept hS.2.1, h5.kept hS.2.1, h6.kept hS.2.1, h7, Nat.le_trans h8 hS.1, h9, h10⟩
theorem mRel_size (hR : mRel D cl n0 (mad n0 b mt) cA ft h H) (hn : n0 ≤ H.size) : n0 + (h.1.length - 2) ≤ H.size := by
  by_cases hl : h.1.length - 2 = 0
  · omega
  · obtain ⟨e9, h1⟩ := mws_all (n0 := n0) (ad := mad n0 b mt) (cA := cA) (ft := ft) (h := h) (i := h.1.length - 2 - 1) (by omega)
    have h2 := (hR.1 _ _ h1).lt
    have h3 : n0 + (h.1.length - 2 - 1) < H.size := h2
    omega
/-- a contract's start and ends -/
def mPc (D : va_G) (cl : List vw_C) (n0 b mt : Nat) (cA : Nat → ClassId) (ft : Nat → Nat → Nat) (L0 : Nat) (xs : Nat → Int32) (strs : List (String × Nat × String)) (nw : List Cond) (h : mH) (vs : List mV) : Array Value → State → Prop := fun a U =>
  a = (vs.map (menc (mad n0 b mt))).toArray ∧ mI0 L0 xs h ∧ mRel D cl n0 (mad n0 b mt) cA ft h U.heap ∧ mSt D cl n0 b mt cA L0 xs strs nw U U.heap ∧ (h.2.2 = true → U.heap.size = n0 + (h.1.length - 2))
def mEnd (D : va_G) (cl : List vw_C) (n0 b mt : Nat) (cA : Nat → ClassId) (ft : Nat → Nat → Nat) (L0 : Nat) (xs : Nat → Int32) (r : mR) (st t : State) : Prop :=
  mI0 L0 xs r.2.1 ∧ mRel D cl n0 (mad n0 b mt) cA ft r.2.1 t.heap ∧ (r.2.1.2.2 = true → st.heap.size + r.2.2.1 = n0 + (r.2.1.1.length - 2)) ∧ va_F (fun q => n0 ≤ q) st t
def mQc (D : va_G) (cl : List vw_C) (n0 b mt : Nat) (cA : Nat → ClassId) (ft : Nat → Nat → Nat) (L0 : Nat) (xs : Nat → Int32) (r : mR) : Array Value → State → Outcome → State → Prop := fun _ st o t =>
  (∃ v, r.1 = .inl v ∧ o = .returned (v.map (menc (mad n0 b mt)))) ∧ mEnd D cl n0 b mt cA ft L0 xs r st t
def mXC (D : va_G) (cl : List vw_C) (n0 b mt : Nat) (cA : Nat → ClassId) (ft : Nat → Nat → Nat) (L0 : Nat) (xs : Nat → Int32) (r : mR) : String → State → State → Prop := fun E st t =>
  (∃ i, r.1 = .inr i ∧ E = pE i) ∧ mEnd D cl n0 b mt cA ft L0 xs r st t
theorem mPc_blind {vs : List mV} (hnw : ∀ w ∈ nw, mNwOk w) : FrameBlind (mPc D cl n0 b mt cA ft L0 xs strs nw h vs) := by
  intro a U g mk hP
  obtain ⟨h1, h2, h3, h4, h5⟩ := hP
  obtain ⟨g1, g2, g3, g4, g5, g6, g7, g8, g9, g10, g11, g12, g13, g14⟩ := h4
  have hA : U.vm.Alike (U.calling g mk a).vm := Vm.Alike.refl U.vm
  refine ⟨h1, h2, h3, ⟨va_K.moved hA g1, va_X.moved hA g2, va_Z.moved hA g3, va_T.moved hA g4, vx_Zq.moved hA g5, vx_Zq.moved hA g6, g7, g8, g9, fun q hq => ?_, fun w hw => ?_, fun k k1 k2 C hC => va_AO.moved hA (g12 k k1 k2 C hC), fun i hi => va_Nw.same rfl (u := U) rfl (g13 i hi), fun i j hi hj hij => va_Nc.moved hA (g14 i j hi hj hij)⟩, h5⟩
  · obtain ⟨sa, h⟩ := g10 q hq
    exact ⟨sa, vk_R.same rfl h⟩
  · exact va_Nw.same (hnw w hw).tab (u := U) rfl (g11 _ hw)
/-- a contract that doesn't throw, for the calls that want one -/
theorem vx_Met.noThrow {y : MethodName} {ws : List Cond} {rm : Room} {Pc : Array Value → State → Prop} {Qc : Array Value → State → Outcome → State → Prop} {XC : String → State → State → Prop} {mc ms : Nat} {free : Addr → Prop}
    (hM : vx_Met l y ws rm Pc Qc XC mc ms free) (hX : ∀ E st t, ¬ XC E st t) : Met l y ws rm Pc Qc mc ms free := by
  intro p e ha hc hk s m args below hf happ hP hK
  obtain ⟨n, o, h1, h2, h3, hq⟩ := hM p e ha hc hk s m args below hf happ hP hK
  refine ⟨n, o, h1, h2, h3, ?_⟩
  rcases hq with hq | ⟨q, -, E, ce, Ls, hx, -⟩
  · exact hq
  · exact absurd hx (hX _ _ _)
theorem va_Run.x {own : String} {mc ms : Nat} {g : JFrame} {rest : List Value} {Qa : State → Outcome → State → Prop} {XC : String → State → State → Prop} {free : Addr → Prop}
    (hr : va_Run p l e R s m args below meth c H locs cells slots mc ms g rest Qa free) : vx_Run p l e R s m args below meth c H locs cells slots mc ms g rest Qa XC free :=
  fun T hT X => Or.inl (hr T hT X)
/-- behind a call -/
theorem mCall_use {r : mR} {ls : Array Slot} {st0 rest : List Value} {a : Array Value}
    (hr : vx_Run p l e R s m args below meth c H locs cells slots r.2.2.1 r.2.2.2 (F0 m pc ls st0) rest (mQc D cl n0 b mt cA ft L0 xs r a) (mXC D cl n0 b mt cA ft L0 xs r) (fun q => n0 ≤ q))
    (hS : va_S (fun q => n0 ≤ q) s.heap H locs) (hz : r.2.1.2.2 = true → s.heap.size + cells = H.size)
    (kx : ∀ (i : Nat) (H1 : Heap) (locs1 : List Loc) (q : Addr) (ce : Cell), r.1 = .inr i → mI0 L0 xs r.2.1 → mRel D cl n0 (mad n0 b mt) cA ft r.2.1 H1 → va_S (fun q => n0 ≤ q) s.heap H1 locs1 → (r.2.1.2.2 = true → s.heap.size + (cells + r.2.2.1) = n0 + (r.2.1.1.length - 2)) → H1[q]? = some ce → ce.vm = .none → s.vm.findClass (pE i) = some ce.cls →
      vx_W p l e R s m args below meth c H1 locs1 (cells + r.2.2.1) (slots + r.2.2.2) Q (F0 m pc ls rest) q)
    (kk : ∀ (v : Option mV) (H1 : Heap) (locs1 : List Loc), r.1 = .inl v → mI0 L0 xs r.2.1 → mRel D cl n0 (mad n0 b mt) cA ft r.2.1 H1 → va_S (fun q => n0 ≤ q) s.heap H1 locs1 → (r.2.1.2.2 = true → s.heap.size + (cells + r.2.2.1) = n0 + (r.2.1.1.length - 2)) →
      W p l e R s m args below meth c H1 locs1 (cells + r.2.2.1) (slots + r.2.2.2) Q (F0 m (pc + 3) ls ((v.map (menc (mad n0 b mt))).toList ++ rest))) :
    W p l e R s m args below meth c H locs cells slots Q (F0 m pc ls st0) := by
  intro T hT X
  rcases hr T hT X with ⟨v, st₀, t, T', Lq, h0, X', hL, e1, e2, ⟨⟨v', hv1, hv2⟩, g1, g2, g3, g4⟩, st⟩ | ⟨q, st₀, t, T', Lq, E, ce, h0, X', hL, e1, e2, ⟨⟨i, hi, hE⟩, g1, g2, g3, g4⟩, hce, hcv, hcl, st⟩
  · cases hv2
    obtain ⟨k1, k2, k3⟩ := vx_keep h0 e1 hS (fun _ _ h => h) (fun _ h => h) hL g4
    obtain ⟨t2, a1, b1⟩ := kk v' T'.heap (locs ++ Lq) hv1 g1 (by rw [e1]; exact g2) k3 (fun hf => by rw [← g3 hf, h0, ← hz hf]; omega) T' rfl X'
    exact ⟨t2, st t2 a1, b1⟩
  · subst hE
    obtain ⟨k1, k2, k3⟩ := vx_keep h0 e1 hS (fun _ _ h => h) (fun _ h => h) hL g4
    obtain ⟨t2, a1, b1⟩ := kx i T'.heap (locs ++ Lq) q ce hi g1 (by rw [e1]; exact g2) k3 (fun hf => by rw [← g3 hf, h0, ← hz hf]; omega) (by rw [e1]; exact hce) hcv hcl T' rfl X'
    exact ⟨t2, st.trans a1, b1⟩
theorem W.size {g : JFrame} (k : H.size ≤ s.heap.size + cells → W p l e R s m args below meth c H locs cells slots Q g) : W p l e R s m args below meth c H locs cells slots Q g := fun T hT X => k (by rw [← hT]; exact X.heapSize) T hT X
theorem mstack {k : Nat} {v : mV} (hv : st[k]? = some v) : (st.take (k + 1)).reverse = v :: (st.take k).reverse ∧ st = st.take k ++ v :: st.drop (k + 1) := by
  have hl := (List.getElem?_eq_some_iff.mp hv).1
  have he : st[k] = v := (List.getElem?_eq_some_iff.mp hv).2
  refine ⟨?_, ?_⟩
  · rw [List.take_succ, hv]
    simp
  · rw [← he]
    simp
theorem mPre {vs : List mV} (hR : mRel D cl n0 (mad n0 b mt) cA ft h H) (hI : mI0 L0 xs h) (hS : va_S (fun q => n0 ≤ q) s.heap H locs) (hSt : mSt D cl n0 b mt cA L0 xs strs nw s s.heap) (hnw : ∀ w ∈ nw, mNwOk w) (hz : h.2.2 = true → H.size = n0 + (h.1.length - 2)) :
    ∀ U : State, U.heap = H → s.WarmedH U.vm → mPc D cl n0 b mt cA ft L0 xs strs nw h vs (vs.map (menc (mad n0 b mt))).toArray U := by
  intro U hU hW
  refine ⟨rfl, hI, by rw [hU]; exact hR, ?_, by rw [hU]; exact hz⟩
  rw [hU]
  exact (hSt.kept hS).warm hW hnw
theorem mgood {y : MethodName} {cc' : ByteArray} {n' : Nat} {ret' : Option FieldType} {hh' : Option (List (Nat × Nat × Nat × Nat))} (hwd : mwd y cc' n' ret' hh' ∈ good) (hgw : ∀ w ∈ good, goodWord w = true) : GoodIn good (mwd y cc' n' ret' hh' :: good) := by
  intro w hw
  rcases List.mem_cons.mp hw with rfl | hw
  · exact ⟨hwd, good_of_word (hgw _ hwd)⟩
  · exact ⟨hw, good_of_word (hgw _ hw)⟩
/-- a call of an instance method -/
theorem mCall_V {y : MethodName} {cc' : ByteArray} {n' fr lo idx k c' : Nat} {ret' : Option FieldType} {r : mR} {q : vw_C} {ls : Array Slot} (F : mFr p s m args meth c cc own ini good D cl n0 b mt cA ft L0 xs strs nw)
    (hgw : ∀ w ∈ good, goodWord w = true) (hnw : ∀ w ∈ nw, mNwOk w)
    (hM : vx_Met l y (mwd y cc' n' ret' none :: good) { frames := fr, locals := lo, cells := r.2.2.1, slots := r.2.2.2 } (mPc D cl n0 b mt cA ft L0 xs strs nw h (st.take (k + 1)).reverse) (mQc D cl n0 b mt cA ft L0 xs r) (mXC D cl n0 b mt cA ft L0 xs r) r.2.2.1 r.2.2.2 (fun q => n0 ≤ q))
    (hfr : fr + 1 ≤ R.frames) (hlo : 8 + (n' + 11) + lo ≤ R.locals) (hwd : mwd y cc' n' ret' none ∈ good) (hini : Cond.initialized y.cls ∈ good) (hmh : y.cls ≠ "java/lang/invoke/MethodHandle" ∧ y.cls ≠ "java/lang/invoke/VarHandle") (hsig : ∀ sig, parseMethodDescriptor y.desc = some sig → k = sig.parameters.length)
    (hl : Cond.methodLink own idx y ∈ good) (hin : Cond.instanceMethod y ∈ good) (hse : Cond.selects y.cls y y ∈ good) (hcl : cl[c']? = some q) (hcq : q.1 = y.cls)
    (hd : decode cc pc = .ok (.invokevirtual idx, 3)) (hob : mobj h c' (st[k]?) = true) (hsum : ((st.drop (k + 1)).map mcat).sum ≤ 8)
    (hR : mRel D cl n0 (mad n0 b mt) cA ft h H) (hI : mI0 L0 xs h) (hS : va_S (fun q => n0 ≤ q) s.heap H locs) (hz : h.2.2 = true → H.size = n0 + (h.1.length - 2)) (hsz : ls.size = c.maxLocals) (hrc : cells + r.2.2.1 ≤ R.cells) (hrs : slots + r.2.2.2 ≤ R.slots) :
    vx_Run p l e R s m args below meth c H locs cells slots r.2.2.1 r.2.2.2 (F0 m pc ls (st.map (menc (mad n0 b mt)))) ((st.drop (k + 1)).map (menc (mad n0 b mt))) (mQc D cl n0 b mt cA ft L0 xs r ((st.take (k + 1)).reverse.map (menc (mad n0 b mt))).toArray) (mXC D cl n0 b mt cA ft L0 xs r) (fun q => n0 ≤ q) := by
  obtain ⟨hx, hb, hown, hts, -, -, hSt⟩ := F
  unfold mobj at hob
  split at hob
  · rename_i a ha
    simp only [Bool.and_eq_true, decide_eq_true_eq] at hob
    obtain ⟨ha2, hob⟩ := hob
    split at hob
    · rename_i N hN
      obtain ⟨e1, e2⟩ := mstack ha
      have hk : k < st.length := (List.getElem?_eq_some_iff.mp ha).1
      have hg := mws_get (n0 := n0) (ad := mad n0 b mt) (cA := cA) (ft := ft) ha2 (msz_ok hN)
      rw [mcell_o] at hg
      have hpre := mPre (vs := (st.take (k + 1)).reverse) hR hI hS hSt hnw hz
      rw [e1] at hpre hM ⊢
      have hrecv := va_recv hSt.1 hR.1 hcl hg
      rw [hcq, ← mad_ge (b := b) (mt := mt) ha2] at hrecv
      have hstk : st.map (menc (mad n0 b mt)) = (((st.take k).reverse).map (menc (mad n0 b mt))).reverse ++ Value.ref (mad n0 b mt a) :: (st.drop (k + 1)).map (menc (mad n0 b mt)) := by
        conv => lhs; rw [e2]
        simp [menc]
      refine vx_runV (own := own) (C := y.cls) (As := ((st.take k).reverse).map (menc (mad n0 b mt))) ⟨hx, hb, rfl, hown, hts⟩ hM ⟨⟨rfl, rfl, hfr, hlo, pay_in hts (mgood hwd hgw), List.mem_cons_self, hts _ hwd, hts _ hini, hmh, hsig, hts _ hl⟩, hts _ hin, hts _ hse⟩ ⟨mPc_blind hnw, hrecv, hpre⟩ rfl ?_ hsz hstk ?_ hd ⟨hrc, hrs⟩
      · simp; omega
      · show 2 * 0 + _ ≤ 8
        rw [menc_cats]
        omega
    · cases hob
  · cases hob
theorem mtake {k : Nat} (hk : k ≤ st.length) : st.map (menc (mad n0 b mt)) = (((st.take k).reverse).map (menc (mad n0 b mt))).reverse ++ (st.drop k).map (menc (mad n0 b mt)) := by
  rw [← List.map_reverse, List.reverse_reverse, ← List.map_append, List.take_append_drop]
/-- a call of a static method -/
theorem mCall_S {y : MethodName} {cc' : ByteArray} {n' fr lo idx k : Nat} {ret' : Option FieldType} {hh' : Option (List (Nat × Nat × Nat × Nat))} {host : String} {r : mR} {ls : Array Slot} (F : mFr p s m args meth c cc own ini good D cl n0 b mt cA ft L0 xs strs nw)
    (hgw : ∀ w ∈ good, goodWord w = true) (hnw : ∀ w ∈ nw, mNwOk w)
    (hM : vx_Met l y (mwd y cc' n' ret' hh' :: good) { frames := fr, locals := lo, cells := r.2.2.1, slots := r.2.2.2 } (mPc D cl n0 b mt cA ft L0 xs strs nw h (st.take k).reverse) (mQc D cl n0 b mt cA ft L0 xs r) (mXC D cl n0 b mt cA ft L0 xs r) r.2.2.1 r.2.2.2 (fun q => n0 ≤ q))
    (hfr : fr + 1 ≤ R.frames) (hlo : 8 + (n' + 11) + lo ≤ R.locals) (hwd : mwd y cc' n' ret' hh' ∈ good) (hini : Cond.initialized y.cls ∈ good) (hmh : y.cls ≠ "java/lang/invoke/MethodHandle" ∧ y.cls ≠ "java/lang/invoke/VarHandle") (hsig : ∀ sig, parseMethodDescriptor y.desc = some sig → k = sig.parameters.length)
    (hl : Cond.methodLink own idx y ∈ good ∨ (hh' = none ∧ Cond.methodLinkNest own idx y host ∈ nw ∧ ∀ i, r.1 ≠ .inr i)) (hst : Cond.static y ∈ good)
    (hd : decode cc pc = .ok (.invokestatic idx, 3)) (hk : k ≤ st.length) (hsum : ((st.drop k).map mcat).sum ≤ 8)
    (hR : mRel D cl n0 (mad n0 b mt) cA ft h H) (hI : mI0 L0 xs h) (hS : va_S (fun q => n0 ≤ q) s.heap H locs) (hz : h.2.2 = true → H.size = n0 + (h.1.length - 2)) (hsz : ls.size = c.maxLocals) (hrc : cells + r.2.2.1 ≤ R.cells) (hrs : slots + r.2.2.2 ≤ R.slots) :
    vx_Run p l e R s m args below meth c H locs cells slots r.2.2.1 r.2.2.2 (F0 m pc ls (st.map (menc (mad n0 b mt)))) ((st.drop k).map (menc (mad n0 b mt))) (mQc D cl n0 b mt cA ft L0 xs r ((st.take k).reverse.map (menc (mad n0 b mt))).toArray) (mXC D cl n0 b mt cA ft L0 xs r) (fun q => n0 ≤ q) := by
  obtain ⟨hx, hb, hown, hts, -, -, hSt⟩ := F
  have hpre := mPre (vs := (st.take k).reverse) hR hI hS hSt hnw hz
  have hn : (((st.take k).reverse).map (menc (mad n0 b mt))).length = k := by simp; omega
  have hW8 : 2 * 0 + (((st.drop k).map (menc (mad n0 b mt))).map fun v => v.category).sum ≤ 8 := by
    rw [menc_cats]
    omega
  rcases hl with hl | ⟨rfl, hl, hnt⟩
  · cases hh' with
    | none => exact vx_runS (own := own) (As := ((st.take k).reverse).map (menc (mad n0 b mt))) ⟨hx, hb, rfl, hown, hts⟩ hM ⟨⟨rfl, rfl, hfr, hlo, pay_in hts (mgood hwd hgw), List.mem_cons_self, hts _ hwd, hts _ hini, hmh, hsig, hts _ hl⟩, hts _ hst⟩ ⟨mPc_blind hnw, hpre⟩ rfl hn hsz (mtake hk) hW8 hd ⟨hrc, hrs⟩
    | some hh => exact vx_runSX (own := own) (As := ((st.take k).reverse).map (menc (mad n0 b mt))) ⟨hx, hb, rfl, hown, hts⟩ hM ⟨⟨rfl, rfl, hfr, hlo, pay_in hts (mgood hwd hgw), List.mem_cons_self⟩, hts _ hwd, hts _ hini, hmh, hsig, hts _ hl, hts _ hst⟩ ⟨mPc_blind hnw, hpre⟩ rfl hn hsz (mtake hk) hW8 hd ⟨hrc, hrs⟩
  · have hM' := vx_Met.noThrow hM (fun E st t hX => by obtain ⟨⟨i, hi, -⟩, -⟩ := hX; exact hnt i hi)
    exact va_Run.x (own := own) (va_runSN (own := own) (host := host) (As := ((st.take k).reverse).map (menc (mad n0 b mt))) ⟨hx, hb, rfl, hown, hts⟩ hM' ⟨⟨⟨rfl, rfl, hfr, hlo, pay_in hts (mgood hwd hgw), List.mem_cons_self⟩, hts _ hwd, hts _ hini, hmh, hsig, va_Nw.use rfl (hSt.2.2.2.2.2.2.2.2.2.2.1 _ hl)⟩, hts _ hst, trivial⟩ ⟨mPc_blind hnw, hpre⟩ rfl hn hsz (mtake hk) hW8 hd ⟨hrc, hrs⟩)
/-- a call of a constructor -/
theorem mCall_I {y : MethodName} {cc' : ByteArray} {n' fr lo idx k : Nat} {host : String} {o : Nat} {r : mR} {ls : Array Slot} (F : mFr p s m args meth c cc own ini good D cl n0 b mt cA ft L0 xs strs nw)
    (hgw : ∀ w ∈ good, goodWord w = true) (hnw : ∀ w ∈ nw, mNwOk w)
    (hM : vx_Met l y (mwd y cc' n' none none :: good) { frames := fr, locals := lo, cells := r.2.2.1, slots := r.2.2.2 } (mPc D cl n0 b mt cA ft L0 xs strs nw h (st.take (k + 1)).reverse) (mQc D cl n0 b mt cA ft L0 xs r) (mXC D cl n0 b mt cA ft L0 xs r) r.2.2.1 r.2.2.2 (fun q => n0 ≤ q))
    (hnt : ∀ i, r.1 ≠ .inr i)
    (hfr : fr + 1 ≤ R.frames) (hlo : 8 + (n' + 11) + lo ≤ R.locals) (hwd : mwd y cc' n' none none ∈ good) (hini : Cond.initialized y.cls ∈ good) (hmh : y.cls ≠ "java/lang/invoke/MethodHandle" ∧ y.cls ≠ "java/lang/invoke/VarHandle") (hsig : ∀ sig, parseMethodDescriptor y.desc = some sig → k = sig.parameters.length)
    (hl : Cond.methodLink own idx y ∈ good ∨ Cond.methodLinkNest own idx y host ∈ nw) (hin : Cond.instanceMethod y ∈ good) (hname : y.name = "<init>")
    (hd : decode cc pc = .ok (.invokespecial idx, 3)) (ho : st[k]? = some (mP (some o))) (hsum : ((st.drop (k + 1)).map mcat).sum ≤ 8)
    (hR : mRel D cl n0 (mad n0 b mt) cA ft h H) (hI : mI0 L0 xs h) (hS : va_S (fun q => n0 ≤ q) s.heap H locs) (hz : h.2.2 = true → H.size = n0 + (h.1.length - 2)) (hsz : ls.size = c.maxLocals) (hrc : cells + r.2.2.1 ≤ R.cells) (hrs : slots + r.2.2.2 ≤ R.slots) :
    vx_Run p l e R s m args below meth c H locs cells slots r.2.2.1 r.2.2.2 (F0 m pc ls (st.map (menc (mad n0 b mt)))) ((st.drop (k + 1)).map (menc (mad n0 b mt))) (mQc D cl n0 b mt cA ft L0 xs r ((st.take (k + 1)).reverse.map (menc (mad n0 b mt))).toArray) (mXC D cl n0 b mt cA ft L0 xs r) (fun q => n0 ≤ q) := by
  obtain ⟨hx, hb, hown, hts, -, -, hSt⟩ := F
  have hM' := vx_Met.noThrow hM (fun E st t hX => by obtain ⟨⟨i, hi, -⟩, -⟩ := hX; exact hnt i hi)
  obtain ⟨e1, e2⟩ := mstack ho
  have hk : k < st.length := (List.getElem?_eq_some_iff.mp ho).1
  have hpre := mPre (vs := (st.take (k + 1)).reverse) hR hI hS hSt hnw hz
  rw [e1] at hpre hM' ⊢
  have hstk : st.map (menc (mad n0 b mt)) = (((st.take k).reverse).map (menc (mad n0 b mt))).reverse ++ Value.ref (mad n0 b mt o) :: (st.drop (k + 1)).map (menc (mad n0 b mt)) := by
    conv => lhs; rw [e2]
    simp [menc]
  have hn : (((st.take k).reverse).map (menc (mad n0 b mt))).length = k := by simp; omega
  have hW8 : 2 * 0 + (((st.drop (k + 1)).map (menc (mad n0 b mt))).map fun v => v.category).sum ≤ 8 := by
    rw [menc_cats]
    omega
  rcases hl with hl | hl
  · exact va_Run.x (own := own) (va_runI (own := own) (As := ((st.take k).reverse).map (menc (mad n0 b mt))) ⟨hx, hb, rfl, hown, hts⟩ hM' ⟨⟨rfl, rfl, hfr, hlo, pay_in hts (mgood hwd hgw), List.mem_cons_self, hts _ hwd, hts _ hini, hmh, hsig, hts _ hl⟩, hname, hts _ hin⟩ ⟨mPc_blind hnw, hpre⟩ rfl hn hsz hstk hW8 hd ⟨hrc, hrs⟩)
  · exact va_Run.x (own := own) (va_runIN (own := own) (host := host) (As := ((st.take k).reverse).map (menc (mad n0 b mt))) ⟨hx, hb, rfl, hown, hts⟩ hM' ⟨⟨⟨rfl, rfl, hfr, hlo, pay_in hts (mgood hwd hgw), List.mem_cons_self⟩, hts _ hwd, hts _ hini, hmh, hsig, va_Nw.use rfl (hSt.2.2.2.2.2.2.2.2.2.2.1 _ hl)⟩, hname, hts _ hin⟩ ⟨mPc_blind hnw, hpre⟩ rfl hn hsz hstk hW8 hd ⟨hrc, hrs⟩)
end MC
end
section
/-! What a step keeps, and what a run keeps, in the small machine alone. -/
section MP
variable {pc pc' : Nat} {L L' : mLs} {st st' : List mV} {h h' : mH} {dc ds : Nat} {fd : Nat → Nat → Int} {nf : Nat → Nat}
set_option maxHeartbeats 1000000 in
theorem mstep_len {e : mE} (hs : mstep fd nf e pc L st h = some (.inl (pc', L', st', h', dc, ds))) : L'.length = L.length ∧ (h'.2.2 = true → h.2.2 = true) := by
  obtain ⟨i, n, a, b, c⟩ := e
  cases i
  case newarray =>
    simp only [mstep, mi1, mnx] at hs
    split at hs
    · split at hs
      · obtain ⟨dc0, ds0, h1, -, -⟩ := mpay_ok hs
        obtain ⟨hf, h2⟩ := mnew_ok h1
        cases h2
        exact ⟨rfl, fun _ => hf⟩
      · cases hs
    · cases hs
  case anewarray =>
    simp only [mstep, mi1, mnx] at hs
    split at hs
    · split at hs
      · obtain ⟨dc0, ds0, h1, -, -⟩ := mpay_ok hs
        obtain ⟨hf, h2⟩ := mnew_ok h1
        cases h2
        exact ⟨rfl, fun _ => hf⟩
      · cases hs
    · cases hs
  case new =>
    simp only [mstep, mnx] at hs
    split at hs
    · split at hs <;> cases hs
    · obtain ⟨dc0, ds0, h1, -, -⟩ := mpay_ok hs
      obtain ⟨hf, h2⟩ := mnew_ok h1
      cases h2
      exact ⟨rfl, fun _ => hf⟩
  all_goals (try simp only [mstep, mcp, mci, mcj, mnx, mi1, mi2, mj2, mji, mp1, mix, mst, mif, mrd, mwr, mcall] at hs)
  all_goals (repeat' split at hs)
  all_goals first
    | (cases hs; done)
    | (cases hs; exact ⟨rfl, fun h => h⟩)
    | (cases hs; exact ⟨by simp, fun h => h⟩)
end MP
end
section
/-! The small machine's runs are the machine's. -/
theorem mrun_flag {P : mProg} : ∀ (f k pc : Nat) (L : mLs) (st : List mV) (h : mH) (r : mR), mrun P f k pc L st h = some r → r.2.1.2.2 = true → h.2.2 = true := by
  intro f
  induction f with
  | zero => intro k pc L st h r hr; cases hr
  | succ f ih =>
    intro k pc L st h r hr hf
    unfold mrun at hr
    split at hr
    · cases hr
    · rename_i e he
      split at hr
      · cases hr
      · rename_i pc' L' st' h' dc ds hs
        unfold mbump at hr
        split at hr
        · rename_i o h2 c' s' h1
          cases hr
          exact (mstep_len hs).2 (ih _ _ _ _ _ _ h1 hf)
        · cases hr
      · rename_i k' as rest hs
        split at hr
        · cases hr
        · rename_i v h1 c' s' hc
          unfold mbump at hr
          split at hr
          · rename_i o h2 c2 s2 h3
            cases hr
            exact ih _ _ _ _ _ _ hc (ih _ _ _ _ _ _ h3 hf)
          · cases hr
        · rename_i E h1 c' s' hc
          split at hr
          · cases hr
            exact ih _ _ _ _ _ _ hc hf
          · split at hr
            · unfold mbump at hr
              split at hr
              · rename_i o h2 c2 s2 h3
                cases hr
                exact ih _ _ _ _ _ _ hc (ih _ _ _ _ _ _ h3 hf)
              · cases hr
            · cases hr
      · cases hr
        exact hf
      · cases hr
        cases hf
/-- a call's static facts -/
def mCk (good : List Cond) (pY : Nat → MethodName) (pC : Nat → ByteArray) (pN : Nat → Nat) (pR : Nat → Option FieldType) (pH : Nat → Option (List (Nat × Nat × Nat × Nat))) (pD : Nat → Nat × Nat) (k k' nn tot : Nat) : Prop :=
  tot ≤ pN k' ∧ (pD k').1 + 1 ≤ (pD k).1 ∧ 8 + (pN k' + 11) + (pD k').2 ≤ (pD k).2 ∧ mwd (pY k') (pC k') (pN k') (pR k') (pH k') ∈ good ∧ Cond.initialized (pY k').cls ∈ good ∧ ((pY k').cls ≠ "java/lang/invoke/MethodHandle" ∧ (pY k').cls ≠ "java/lang/invoke/VarHandle") ∧ ∀ sig, parseMethodDescriptor (pY k').desc = some sig → nn = sig.parameters.length
/-- nothing thrown at this place comes back -/
def mNoT (P : mProg) (k pc : Nat) : Prop := ∀ E, ∃ q, P.2.1 k pc E = some q ∧ P.1 k q.1 = none
def mThr : List String := ["java/lang/RuntimeException", "java/lang/Exception"]
def mTh (good nw : List Cond) (strs : List (String × Nat × String)) (cl : List vw_C) (ft : Nat → Nat → Nat) (P : mProg) (pY : Nat → MethodName) (pC : Nat → ByteArray) (pR : Nat → Option FieldType) (pH : Nat → Option (List (Nat × Nat × Nat × Nat))) (pD : Nat → Nat × Nat) (k pc : Nat) (e : mE) : Prop :=
  match e with
  | (.ldc x, _, a, _, _) => Cond.constant (pY k).cls x (Int32.ofInt a) ∈ good
  | (.ldc_w x, _, a, _, _) => Cond.constant (pY k).cls x (Int32.ofInt a) ∈ good
  | (.goto off, _, a, _, _) => (pc : Int) + off = (a : Int)
  | (.ifCond _ off, _, a, _, _) => (pc : Int) + off = (a : Int)
  | (.if_icmp _ off, _, a, _, _) => (pc : Int) + off = (a : Int)
  | (.getfield idx, _, a, b, c) => ∃ q, cl[a]? = some q ∧ b < q.2.2 ∧ Cond.fieldLink (pY k).cls idx (q.2.1 b).1 (q.2.1 b).2.1 (q.2.1 b).2.2.1 ∈ good ∧ ft a b = c
  | (.putfield idx, _, a, b, c) => ∃ q, cl[a]? = some q ∧ b < q.2.2 ∧ Cond.fieldLink (pY k).cls idx (q.2.1 b).1 (q.2.1 b).2.1 (q.2.1 b).2.2.1 ∈ good ∧ ft a b = c ∧ ((q.2.1 b).2.2.2 = false ∨ ((q.2.1 b).2.2.2 = true ∧ decide ((pY k).name = "<init>") = true ∧ (q.2.1 b).1 = (pY k).cls))
  | (.getstatic idx, _, _, _, _) => Cond.fieldLink (pY k).cls idx "Collationer" "MARK_CLASSES" "[I" ∈ good
  | (.aaload, _, a, _, _) => 2 < a ∧ a < 7
  | (.aastore, _, a, b, _) => 2 < a ∧ a < 7 ∧ ∃ q, cl[b]? = some q ∧ mky a = .object q.1
  | (.newarray t, _, _, _, _) => Cond.arrayClass (newarray.typeOf t) ∈ good
  | (.anewarray idx, _, a, _, _) => 2 < a ∧ a < 7 ∧ ∃ C, mky a = .object C ∧ Cond.classLink (pY k).cls idx C ∈ good
  | (.new idx, _, a, b, _) => if b = 1 then (a < 3 ∧ pH k = none ∧ 5 < (pD k).1 ∧ 90 ≤ (pD k).2 ∧ Cond.classLink (pY k).cls idx (pE a) ∈ good ∧ Cond.initialized (pE a) ∈ good ∧ decode (pC k) (pc + 3) = .ok (.dup, 1) ∧ ∃ is ic text, ((pY k).cls, is, text) ∈ strs ∧
      (∀ w ∈ vx_atS (pY k).cls ic (pE a) mThr, w ∈ good ∨ w = .castable (pE a) (pE a) ∨ w ∈ nw) ∧
      ((decode (pC k) (pc + 4) = .ok (.ldc is, 2) ∧ decode (pC k) (pc + 6) = .ok (.invokespecial ic, 3) ∧ decode (pC k) (pc + 9) = .ok (.athrow, 1)) ∨ (decode (pC k) (pc + 4) = .ok (.ldc_w is, 3) ∧ decode (pC k) (pc + 7) = .ok (.invokespecial ic, 3) ∧ decode (pC k) (pc + 10) = .ok (.athrow, 1))))
    else ∃ q, cl[a]? = some q ∧ Cond.classLink (pY k).cls idx q.1 ∈ good ∧ Cond.instantiable q.1 q.2.2 ∈ good ∧ Cond.initialized q.1 ∈ good
  | (.invokestatic idx, _, a, b, _) => mCk good pY pC P.2.2.1 pR pH pD k a b b ∧ Cond.static (pY a) ∈ good ∧ (Cond.methodLink (pY k).cls idx (pY a) ∈ good ∨ (pH a = none ∧ mNoT P k pc ∧ ∃ host, Cond.methodLinkNest (pY k).cls idx (pY a) host ∈ nw))
  | (.invokevirtual idx, _, a, b, c) => mCk good pY pC P.2.2.1 pR pH pD k a b (b + 1) ∧ pH a = none ∧ Cond.methodLink (pY k).cls idx (pY a) ∈ good ∧ Cond.instanceMethod (pY a) ∈ good ∧ Cond.selects (pY a).cls (pY a) (pY a) ∈ good ∧ ∃ q, cl[c]? = some q ∧ q.1 = (pY a).cls
  | (.invokespecial idx, _, a, b, c) => if c = 99 then (Cond.methodLink (pY k).cls idx Lib.objectInit ∈ good ∧ Cond.instanceMethod Lib.objectInit ∈ good ∧ Cond.code Lib.objectInit ⟨#[0xb1]⟩ 1 none ∈ good ∧ 1 ≤ (pD k).1 ∧ 20 ≤ (pD k).2)
    else mCk good pY pC P.2.2.1 pR pH pD k a b (b + 1) ∧ pH a = none ∧ pR a = none ∧ mNoT P k pc ∧ Cond.instanceMethod (pY a) ∈ good ∧ (pY a).name = "<init>" ∧ (Cond.methodLink (pY k).cls idx (pY a) ∈ good ∨ ∃ host, Cond.methodLinkNest (pY k).cls idx (pY a) host ∈ nw)
  | (.ireturn, _, _, _, c) => (c = 0 ∧ pR k = some .int) ∨ (c ≠ 0 ∧ pR k = some .boolean)
  | (.lreturn, _, _, _, _) => pR k = some .long
  | (.areturn, _, _, _, _) => ∃ n, pR k = some (.object n)
  | (.return_, _, _, _, _) => pR k = none
  | _ => True
def mChk (good nw : List Cond) (strs : List (String × Nat × String)) (cl : List vw_C) (ft : Nat → Nat → Nat) (P : mProg) (pY : Nat → MethodName) (pC : Nat → ByteArray) (pR : Nat → Option FieldType) (pH : Nat → Option (List (Nat × Nat × Nat × Nat))) (pD : Nat → Nat × Nat) (k pc : Nat) (e : mE) : Prop :=
  decode (pC k) pc = .ok (e.1, e.2.1) ∧ mlen e.1 e.2.1 = true ∧ mTh good nw strs cl ft P pY pC pR pH pD k pc e
/-- the catches' static facts -/
def mCat (good : List Cond) (P : mProg) (pY : Nat → MethodName) (pC : Nat → ByteArray) (pH : Nat → Option (List (Nat × Nat × Nat × Nat))) : Prop := ∀ k pc E,
  (P.2.1 k pc E = none → pH k = none) ∧ ∀ q, P.2.1 k pc E = some q → P.1 k q.1 = none ∨ (E < 3 ∧ ∃ hh pre x suf, pH k = some hh ∧ tableOf hh = pre ++ x :: suf ∧ (∀ z ∈ pre, z.catchType ≠ 0 ∧ ∃ j, j < 3 ∧ E ≠ j ∧ Cond.classLink (pY k).cls z.catchType (pE j) ∈ good) ∧ covers x pc = true ∧ x.catchType ≠ 0 ∧ Cond.classLink (pY k).cls x.catchType (pE E) ∈ good ∧ q.2 < P.2.2.1 k ∧
    ((∃ i : Fin 4, (i : Nat) = q.2 ∧ decode (pC k) x.handlerPc = .ok (.astore_n i, 1) ∧ q.1 = x.handlerPc + 1) ∨ (decode (pC k) x.handlerPc = .ok (.astore q.2, 2) ∧ q.1 = x.handlerPc + 2)))
def mOK (good nw : List Cond) (strs : List (String × Nat × String)) (cl : List vw_C) (ft : Nat → Nat → Nat) (P : mProg) (pY : Nat → MethodName) (pC : Nat → ByteArray) (pR : Nat → Option FieldType) (pH : Nat → Option (List (Nat × Nat × Nat × Nat))) (pD : Nat → Nat × Nat) : Prop :=
  (∀ w ∈ good, goodWord w = true) ∧ (∀ w ∈ nw, mNwOk w) ∧ mCl good cl ft ∧ (∀ k pc e, P.1 k pc = some e → mChk good nw strs cl ft P pY pC pR pH pD k pc e) ∧ mCat good P pY pC pH ∧
  (∀ k pc e, P.1 k pc = some e → plainFor (pY k) = true) ∧ (∀ a j, P.2.2.2.1 a j = if ft a j = 1 then -1 else 0) ∧ ∀ a q, cl[a]? = some q → P.2.2.2.2 a = q.2.2
section SIM
variable {p : Program} {l : Launch} {e : Env} {R : Room} {s : State} {m : MethodId} {args : Array Value} {below : List Frame} {meth : Method} {c : Code} {Q : State → Prop}
variable {good nw : List Cond} {D : va_G} {cl : List vw_C} {n0 b mt : Nat} {cA : Nat → ClassId} {ft : Nat → Nat → Nat} {L0 : Nat} {xs : Nat → Int32} {strs : List (String × Nat × String)}
variable {P : mProg} {pY : Nat → MethodName} {pC : Nat → ByteArray} {pR : Nat → Option FieldType} {pH : Nat → Option (List (Nat × Nat × Nat × Nat))} {pD : Nat → Nat × Nat}
variable {k pc pc' : Nat} {L L' : mLs} {st st' : List mV} {h h' : mH} {cells slots dc ds : Nat}
set_option maxHeartbeats 1000000 in
theorem mStep_ok {e1 : mE} (hOK : mOK good nw strs cl ft P pY pC pR pH pD) (hk : mChk good nw strs cl ft P pY pC pR pH pD k pc e1)
    (F : mFr p s m args meth c (pC k) (pY k).cls (decide ((pY k).name = "<init>")) good D cl n0 b mt cA ft L0 xs strs nw) (hRf : (pD k).1 ≤ R.frames) (hRl : (pD k).2 ≤ R.locals) (hLn : L.length = c.maxLocals)
    (hs : mstep P.2.2.2.1 P.2.2.2.2 e1 pc L st h = some (.inl (pc', L', st', h', dc, ds))) (hrc : cells + dc ≤ R.cells) (hrs : slots + ds ≤ R.slots)
    (kk : mK p l e R s m args below meth c Q D cl n0 b mt cA ft L0 xs pc' L' st' h' (cells + dc) (slots + ds)) : mK p l e R s m args below meth c Q D cl n0 b mt cA ft L0 xs pc L st h cells slots := by
  obtain ⟨i, n, a, b', c'⟩ := e1
  obtain ⟨hd, hl, hk⟩ := hk
  unfold mTh at hk
  obtain ⟨-, -, -, -, -, -, hfd, hnf⟩ := hOK
  cases i <;> simp only [mlen, beq_iff_eq] at hl <;> (try subst hl) <;> (try dsimp only at hd hk)
  case aload_n => exact mF_loads F _ (Or.inl rfl) hd hs kk
  case iload_n => exact mF_loads F _ (Or.inr (Or.inl rfl)) hd hs kk
  case lload_n => exact mF_loads F _ (Or.inr (Or.inr rfl)) hd hs kk
  case aload => exact mF_loads2 F _ (Or.inl rfl) hd hs kk
  case iload => exact mF_loads2 F _ (Or.inr (Or.inl rfl)) hd hs kk
  case lload => exact mF_loads2 F _ (Or.inr (Or.inr rfl)) hd hs kk
  case iconst x => exact mF_consts F _ (Or.inl ⟨x, rfl, rfl⟩) hd hs kk
  case bipush x => exact mF_consts F _ (Or.inr (Or.inl ⟨x, rfl, rfl⟩)) hd hs kk
  case sipush x => exact mF_consts F _ (Or.inr (Or.inr (Or.inl ⟨x, rfl, rfl⟩))) hd hs kk
  case lconst x => exact mF_consts F _ (Or.inr (Or.inr (Or.inr (Or.inl ⟨x, rfl, rfl⟩)))) hd hs kk
  case ldc x => exact mF_consts F _ (Or.inr (Or.inr (Or.inr (Or.inr (Or.inl ⟨x, rfl, rfl, hk⟩))))) hd hs kk
  case ldc_w x => exact mF_consts F _ (Or.inr (Or.inr (Or.inr (Or.inr (Or.inr ⟨x, rfl, rfl, hk⟩))))) hd hs kk
  case istore_n => exact mF_stores F _ (Or.inl rfl) hd hs kk
  case astore_n => exact mF_stores F _ (Or.inr (Or.inl rfl)) hd hs kk
  case lstore_n => exact mF_stores F _ (Or.inr (Or.inr rfl)) hd hs kk
  case istore => exact mF_stores2 F _ (Or.inl rfl) hd hs kk
  case astore => exact mF_stores2 F _ (Or.inr (Or.inl rfl)) hd hs kk
  case lstore => exact mF_stores2 F _ (Or.inr (Or.inr rfl)) hd hs kk
  case iinc => exact mF_iinc F hd hs kk
  case iadd => exact mF_arith F _ (by simp) hd hs kk
  case isub => exact mF_arith F _ (by simp) hd hs kk
  case imul => exact mF_arith F _ (by simp) hd hs kk
  case idiv => exact mF_arith F _ (by simp) hd hs kk
  case irem => exact mF_arith F _ (by simp) hd hs kk
  case iand => exact mF_arith F _ (by simp) hd hs kk
  case ior => exact mF_arith F _ (by simp) hd hs kk
  case ishl => exact mF_arith F _ (by simp) hd hs kk
  case ishr => exact mF_arith F _ (by simp) hd hs kk
  case iushr => exact mF_arith F _ (by simp) hd hs kk
  case ineg => exact mF_ineg F hd hs kk
  case i2l => exact mF_longs F _ (by simp) hd hs kk
  case lcmp => exact mF_longs F _ (by simp) hd hs kk
  case land => exact mF_longs F _ (by simp) hd hs kk
  case lor => exact mF_longs F _ (by simp) hd hs kk
  case lshl => exact mF_longs F _ (by simp) hd hs kk
  case lshr => exact mF_longs F _ (by simp) hd hs kk
  case dup => exact mF_stack F _ (by simp) hd hs kk
  case dup2 => exact mF_stack F _ (by simp) hd hs kk
  case pop => exact mF_stack F _ (by simp) hd hs kk
  case goto => exact mF_goto F hd hk hs kk
  case ifCond => exact mF_if F hd hk hs kk
  case if_icmp => exact mF_icmp F hd hk hs kk
  case tableswitch => exact mF_table F hd hs kk
  case getfield =>
    obtain ⟨q, h1, h2, h3, h4⟩ := hk
    exact mF_getfield F hd h1 h2 h3 h4 hs kk
  case putfield =>
    obtain ⟨q, h1, h2, h3, h4, h5⟩ := hk
    exact mF_putfield F hd h1 h2 h3 h4 h5 hs kk
  case getstatic => exact mF_getstatic F hd hk hs kk
  case arraylength => exact mF_alen F hd hs kk
  case iaload => exact mF_iaload F hd hs kk
  case baload => exact mF_aloads F _ (Or.inl rfl) hd hs kk
  case laload => exact mF_aloads F _ (Or.inr (Or.inl rfl)) hd hs kk
  case aaload => exact mF_aloads F _ (Or.inr (Or.inr ⟨rfl, hk⟩)) hd hs kk
  case iastore => exact mF_astores (q := ("", fun _ => ("", "", "", false), 0)) F _ (Or.inl rfl) hd hs kk
  case bastore => exact mF_astores (q := ("", fun _ => ("", "", "", false), 0)) F _ (Or.inr (Or.inl rfl)) hd hs kk
  case lastore => exact mF_astores (q := ("", fun _ => ("", "", "", false), 0)) F _ (Or.inr (Or.inr (Or.inl rfl))) hd hs kk
  case aastore =>
    obtain ⟨h1, h2, q, h3, h4⟩ := hk
    exact mF_astores (q := q) F _ (Or.inr (Or.inr (Or.inr ⟨rfl, h1, h2, h3, h4⟩))) hd hs kk
  case newarray => exact mF_newarray F hd hk hs hrc hrs kk
  case anewarray =>
    obtain ⟨h1, h2, C, h3, h4⟩ := hk
    exact mF_anewarray F hd h1 h2 h3 h4 hs hrc hrs kk
  case new =>
    by_cases hb : b' = 1
    · simp only [mstep, if_pos hb] at hs
      split at hs <;> cases hs
    · rw [if_neg hb] at hk
      obtain ⟨q, h1, h2, h3, h4⟩ := hk
      exact mF_new F hd hb h1 (hnf a q h1) (hfd a) h2 h3 h4 hs hrc hrs kk
  case invokespecial =>
    by_cases hc : c' = 99
    · subst hc
      rw [if_pos rfl] at hk
      obtain ⟨h1, h2, h3, h4, h5⟩ := hk
      exact mF_objInit F hd hLn h1 h2 h3 (by omega) (by omega) hs kk
    · simp only [mstep, if_neg hc, mcall] at hs
      split at hs
      · split at hs <;> cases hs
      · cases hs
  case invokevirtual =>
    simp only [mstep, mcall] at hs
    split at hs
    · split at hs <;> cases hs
    · cases hs
  case invokestatic =>
    simp only [mstep, mcall] at hs
    split at hs <;> cases hs
  case ireturn =>
    simp only [mstep, mi1] at hs
    split at hs
    · split at hs <;> cases hs
    · cases hs
  case lreturn =>
    simp only [mstep] at hs
    split at hs <;> cases hs
  case areturn =>
    simp only [mstep] at hs
    split at hs <;> cases hs
  case return_ =>
    simp only [mstep] at hs
    split at hs <;> cases hs
  all_goals
    simp only [mstep] at hs
    cases hs
end SIM
end
section
/-! Ends, calls, and the simulation itself. -/
section SIM2
variable {p : Program} {l : Launch} {e : Env} {R : Room} {s : State} {m : MethodId} {args : Array Value} {below : List Frame} {meth : Method} {c : Code} {Q : State → Prop}
variable {good nw : List Cond} {D : va_G} {cl : List vw_C} {n0 b mt : Nat} {cA : Nat → ClassId} {ft : Nat → Nat → Nat} {L0 : Nat} {xs : Nat → Int32} {strs : List (String × Nat × String)}
variable {P : mProg} {pY : Nat → MethodName} {pC : Nat → ByteArray} {pR : Nat → Option FieldType} {pH : Nat → Option (List (Nat × Nat × Nat × Nat))} {pD : Nat → Nat × Nat}
variable {k pc pc' : Nat} {L L' : mLs} {st st' : List mV} {h h' : mH} {cells slots dc ds : Nat}
theorem mRet_ok {e1 : mE} {v : Option mV} (hk : mChk good nw strs cl ft P pY pC pR pH pD k pc e1)
    (F : mFr p s m args meth c (pC k) (pY k).cls (decide ((pY k).name = "<init>")) good D cl n0 b mt cA ft L0 xs strs nw) (hr : meth.sig.returnType = pR k) (hlocks : meth.locks = false)
    (hs : mstep P.2.2.2.1 P.2.2.2.2 e1 pc L st h = some (.inr (.inr (.inl v)))) :
    mK p l e R s m args below meth c (vx_MQ below (mQc D cl n0 b mt cA ft L0 xs (.inl v, h, cells, slots)) (mXC D cl n0 b mt cA ft L0 xs (.inl v, h, cells, slots)) args s cells slots (fun q => n0 ≤ q)) D cl n0 b mt cA ft L0 xs pc L st h cells slots := by
  obtain ⟨i, n, a, b', c'⟩ := e1
  obtain ⟨hd, hl, hk⟩ := hk
  unfold mTh at hk
  obtain ⟨hx, hb, hown, hts, -, -, hSt⟩ := F
  intro ls H locs hL hI hR hS hz
  have hend : ∀ t : State, t.heap = H → mEnd D cl n0 b mt cA ft L0 xs (.inl v, h, cells, slots) s t := fun t ht => ⟨hI, by rw [ht]; exact hR, hz, hS.F ht⟩
  cases i <;> simp only [mlen, beq_iff_eq] at hl <;> (try subst hl) <;> (try dsimp only at hd hk)
  case ireturn =>
    simp only [mstep, mi1] at hs
    split at hs
    · rename_i x r
      split at hs
      · rename_i hr0
        cases hs
        obtain ⟨rfl, hv⟩ := hr0
        rcases hk with ⟨h1, h2⟩ | ⟨h1, h2⟩
        · exact vx_ret (W.iret (v := Int32.ofInt x) hx hb (hr.trans h2) (fun t ht hW => ⟨⟨_, rfl, rfl⟩, hend t ht⟩) hS.2.2 hd hlocks)
        · refine vx_ret (W.zret (v := Int32.ofInt x) hx hb (hr.trans h2) ?_ (fun t ht hW => ⟨⟨_, rfl, rfl⟩, hend t ht⟩) hS.2.2 hd hlocks)
          rcases hv with hv | rfl | rfl
          · exact absurd hv h1
          · decide
          · decide
      · cases hs
    · cases hs
  case lreturn =>
    simp only [mstep] at hs
    split at hs
    · cases hs
      exact vx_ret (W.lret hx hb (hr.trans hk) (fun t ht hW => ⟨⟨_, rfl, rfl⟩, hend t ht⟩) hS.2.2 hd hlocks)
    · cases hs
  case areturn =>
    simp only [mstep] at hs
    split at hs
    · cases hs
      obtain ⟨nm, hk⟩ := hk
      exact vx_ret (W.aret hx hb (hr.trans hk) (Or.inl ⟨nm, rfl⟩) (Or.inr ⟨_, rfl⟩) (fun t ht hW => ⟨⟨_, rfl, rfl⟩, hend t ht⟩) hS.2.2 hd hlocks)
    · cases hs
  case return_ =>
    simp only [mstep] at hs
    split at hs
    · rename_i h0
      cases hs
      subst h0
      exact vx_ret (W.vret hx hb (hr.trans hk) (fun t ht hW => ⟨⟨_, rfl, rfl⟩, hend t ht⟩) hS.2.2 hd hlocks)
    · cases hs
  case newarray =>
    exfalso
    simp only [mstep, mi1, mnx, mpay, mnew] at hs
    repeat' split at hs
    all_goals cases hs
  case anewarray =>
    exfalso
    simp only [mstep, mi1, mnx, mpay, mnew] at hs
    repeat' split at hs
    all_goals cases hs
  case new =>
    exfalso
    simp only [mstep, mi1, mnx, mpay, mnew] at hs
    repeat' split at hs
    all_goals cases hs
  all_goals exfalso
  all_goals (try simp only [mstep, mcp, mci, mcj, mnx, mi1, mi2, mj2, mji, mp1, mix, mst, mif, mrd, mwr, mcall] at hs)
  all_goals (repeat' split at hs)
  all_goals cases hs
theorem mThrow_ok {e1 : mE} {E : Nat} (hOK : mOK good nw strs cl ft P pY pC pR pH pD) (hk : mChk good nw strs cl ft P pY pC pR pH pD k pc e1) (hl0 : l.stackTraces = false)
    (F : mFr p s m args meth c (pC k) (pY k).cls (decide ((pY k).name = "<init>")) good D cl n0 b mt cA ft L0 xs strs nw) (hlocks : meth.locks = false) (hRf : (pD k).1 ≤ R.frames) (hRl : (pD k).2 ≤ R.locals) (hLn : L.length = c.maxLocals) (htab : pH k = none → ∀ x ∈ c.exceptionTable.toList, False)
    (hrc : cells + 1 ≤ R.cells) (hrs : slots + 6 ≤ R.slots)
    (hs : mstep P.2.2.2.1 P.2.2.2.2 e1 pc L st h = some (.inr (.inr (.inr E)))) :
    mK p l e R s m args below meth c (vx_MQ below (mQc D cl n0 b mt cA ft L0 xs (.inr E, (h.1, h.2.1, false), cells + 1, slots + 6)) (mXC D cl n0 b mt cA ft L0 xs (.inr E, (h.1, h.2.1, false), cells + 1, slots + 6)) args s (cells + 1) (slots + 6) (fun q => n0 ≤ q)) D cl n0 b mt cA ft L0 xs pc L st h cells slots := by
  obtain ⟨hgw, hnw, -⟩ := hOK
  obtain ⟨i, n, a, b', c'⟩ := e1
  obtain ⟨hd, hl, hk⟩ := hk
  unfold mTh at hk
  obtain ⟨hx, hb, hown, hts, -, -, hSt⟩ := F
  intro ls H locs hL hI hR hS hz
  cases i <;> simp only [mlen, beq_iff_eq] at hl <;> (try subst hl) <;> (try dsimp only at hd hk)
  case new idx =>
    by_cases hb1 : b' = 1
    · simp only [mstep, if_pos hb1] at hs
      split at hs
      · rename_i hst
        cases hs
        subst hst
        rw [if_pos hb1] at hk
        obtain ⟨hE, hH, hf5, hl90, hcl, hin, d3, is, ic, text, hstr, hat, hform⟩ := hk
        obtain ⟨g1, g2, g3, g4, hU, hN, g7, g8, g9, g10, g11, g12, g13, g14⟩ := hSt
        obtain ⟨sa, hsa⟩ := g10 _ hstr
        have hcov : ∀ (pc9 : Nat), ∀ x ∈ c.exceptionTable.toList, covers x pc9 = false := fun pc9 x hx9 => absurd (htab hH x hx9) id
        have hfit : Bundle.fit (pE E) = true := by
          rcases (show E = 0 ∨ E = 1 ∨ E = 2 by omega) with rfl | rfl | rfl <;> decide
        have hnames : ∀ n ∈ mThr, Bundle.fit n = true := by decide
        have hat2 : ∀ w ∈ vx_atS (pY k).cls ic (pE E) mThr, w.before args s = true := fun w hw => by
          rcases hat w hw with h1 | rfl | h1
          · exact hts _ h1
          · exact va_Nw.use rfl (g13 E hE)
          · exact va_Nw.use (hnw w h1).tab (g11 w h1)
        have hgood : ∀ w ∈ Cond.classLink (pY k).cls idx (pE E) :: Cond.initialized (pE E) :: vx_atS (pY k).cls ic (pE E) mThr, vx_ot w = true := by
          intro w hw
          have hgg : ∀ w, w ∈ good → vx_ot w = true := fun w hw => by unfold vx_ot; rw [hgw w hw]; simp
          rcases List.mem_cons.mp hw with rfl | hw
          · exact hgg _ hcl
          · rcases List.mem_cons.mp hw with rfl | hw
            · exact hgg _ hin
            · rcases hat w hw with h1 | rfl | h1
              · exact hgg _ h1
              · rfl
              · unfold vx_ot; rw [(hnw w h1).tab]; rfl
        have hXC : ∀ t : State, s.vm.Alike t.vm → H.size ≤ t.heap.size → (∀ q : Nat, q < H.size → t.heap[q]? = H[q]?) → mXC D cl n0 b mt cA ft L0 xs (.inr E, (h.1, h.2.1, false), cells + 1, slots + 6) (pE E) s t := by
          intro t hA hsz hk9
          refine ⟨⟨E, rfl, rfl⟩, hI, ⟨hR.1.kept fun k9 q9 hq9 => hk9 _ (hR.1 k9 q9 hq9).lt, hR.2⟩, (fun hf => by cases hf), Nat.le_trans hS.1 hsz, fun q9 h1 h2 => ?_⟩
          rw [hk9 q9 (Nat.lt_of_lt_of_le h1 hS.1)]
          exact hS.2.1 q9 h1 h2
        have hsz : ls.size = c.maxLocals := by rw [← hLn]; exact hL.1
        rcases hform with ⟨d4, d6, d9⟩ | ⟨d4, d7, d10⟩
        · exact vx_throwS (own := (pY k).cls) (cls := pE E) (text := text) (names := mThr) (rest := []) (ls := ls) (A := fun q => n0 ≤ q) hx hb hl0 hown hfit hnames (hts _ hcl) (hts _ hin) hsa hat2 hgood hU hN hS hsz hd d3 d4 d6 d9 (hcov _) (by show 2 + 3 < R.frames; omega) (by show 0 + (13 * (2 + 1) + 43) ≤ R.locals; omega) hrc hrs hlocks hXC hS.2.2 (Nat.le_refl _) (Nat.le_refl _)
        · exact vx_throwSW (own := (pY k).cls) (cls := pE E) (text := text) (names := mThr) (rest := []) (ls := ls) (A := fun q => n0 ≤ q) hx hb hl0 hown hfit hnames (hts _ hcl) (hts _ hin) hsa hat2 hgood hU hN hS hsz hd d3 d4 d7 d10 (hcov _) (by show 2 + 3 < R.frames; omega) (by show 0 + (13 * (2 + 1) + 43) ≤ R.locals; omega) hrc hrs hlocks hXC hS.2.2 (Nat.le_refl _) (Nat.le_refl _)
      · cases hs
    · exfalso
      simp only [mstep, mi1, mnx, mpay, mnew, if_neg hb1] at hs
      repeat' split at hs
      all_goals cases hs
  case newarray =>
    exfalso
    simp only [mstep, mi1, mnx, mpay, mnew] at hs
    repeat' split at hs
    all_goals cases hs
  case anewarray =>
    exfalso
    simp only [mstep, mi1, mnx, mpay, mnew] at hs
    repeat' split at hs
    all_goals cases hs
  all_goals exfalso
  all_goals (try simp only [mstep, mcp, mci, mcj, mnx, mi1, mi2, mj2, mji, mp1, mix, mst, mif, mrd, mwr, mcall] at hs)
  all_goals (repeat' split at hs)
  all_goals cases hs
/-- a call, at its place -/
theorem mCall_ok {e1 : mE} {k' : Nat} {as rest : List mV} {rc : mR} (hOK : mOK good nw strs cl ft P pY pC pR pH pD) (hk : mChk good nw strs cl ft P pY pC pR pH pD k pc e1)
    (F : mFr p s m args meth c (pC k) (pY k).cls (decide ((pY k).name = "<init>")) good D cl n0 b mt cA ft L0 xs strs nw) (hRf : (pD k).1 ≤ R.frames) (hRl : (pD k).2 ≤ R.locals) (hLn : L.length = c.maxLocals)
    (hs : mstep P.2.2.2.1 P.2.2.2.2 e1 pc L st h = some (.inr (.inl (k', as, rest)))) (hrc : cells + rc.2.2.1 ≤ R.cells) (hrs : slots + rc.2.2.2 ≤ R.slots) (hflag : rc.2.1.2.2 = true → h.2.2 = true)
    (hthr : ∀ i, rc.1 = .inr i → ∀ q, P.2.1 k pc i = some q → P.1 k q.1 ≠ none)
    (hM : (∀ v ∈ as, mis1 v = true) → as.length ≤ P.2.2.1 k' → vx_Met l (pY k') (mwd (pY k') (pC k') (P.2.2.1 k') (pR k') (pH k') :: good) { frames := (pD k').1, locals := (pD k').2, cells := rc.2.2.1, slots := rc.2.2.2 } (mPc D cl n0 b mt cA ft L0 xs strs nw h as) (mQc D cl n0 b mt cA ft L0 xs rc) (mXC D cl n0 b mt cA ft L0 xs rc) rc.2.2.1 rc.2.2.2 (fun q => n0 ≤ q))
    (kx : ∀ (i : Nat) (ls : Array Slot) (H1 : Heap) (locs1 : List Loc) (q : Addr) (ce : Cell), rc.1 = .inr i → mLR (mad n0 b mt) L ls → mI0 L0 xs rc.2.1 → mRel D cl n0 (mad n0 b mt) cA ft rc.2.1 H1 → va_S (fun q => n0 ≤ q) s.heap H1 locs1 → (rc.2.1.2.2 = true → s.heap.size + (cells + rc.2.2.1) = n0 + (rc.2.1.1.length - 2)) → H1[q]? = some ce → ce.vm = .none → s.vm.findClass (pE i) = some ce.cls →
      vx_W p l e R s m args below meth c H1 locs1 (cells + rc.2.2.1) (slots + rc.2.2.2) Q (F0 m pc ls (rest.map (menc (mad n0 b mt)))) q)
    (kk : ∀ v, rc.1 = .inl v → mK p l e R s m args below meth c Q D cl n0 b mt cA ft L0 xs (pc + 3) L (v.toList ++ rest) rc.2.1 (cells + rc.2.2.1) (slots + rc.2.2.2)) :
    mK p l e R s m args below meth c Q D cl n0 b mt cA ft L0 xs pc L st h cells slots := by
  obtain ⟨hgw, hnw, -⟩ := hOK
  obtain ⟨i, n, a, b', c'⟩ := e1
  obtain ⟨hd, hl, hk⟩ := hk
  unfold mTh at hk
  intro ls H locs hL hI hR hS hz
  refine W.size (fun hup => ?_)
  have hlow := mRel_size hR (Nat.le_trans F.2.2.2.2.2.2.2.2.2.2.2.2.2.1 hS.1)
  have hz1 : h.2.2 = true → H.size = n0 + (h.1.length - 2) := fun hf => by have := hz hf; omega
  have hz2 : rc.2.1.2.2 = true → s.heap.size + cells = H.size := fun hf => by have := hz (hflag hf); have := hz1 (hflag hf); omega
  have hsz : ls.size = c.maxLocals := by rw [← hLn]; exact hL.1
  have hnt : mNoT P k pc → ∀ i, rc.1 ≠ .inr i := fun hn i hi => by
    obtain ⟨q, h1, h2⟩ := hn i
    exact hthr i hi q h1 h2
  have done : ∀ (a : Array Value), vx_Run p l e R s m args below meth c H locs cells slots rc.2.2.1 rc.2.2.2 (F0 m pc ls (st.map (menc (mad n0 b mt)))) (rest.map (menc (mad n0 b mt))) (mQc D cl n0 b mt cA ft L0 xs rc a) (mXC D cl n0 b mt cA ft L0 xs rc) (fun q => n0 ≤ q) →
      W p l e R s m args below meth c H locs cells slots Q (F0 m pc ls (st.map (menc (mad n0 b mt)))) := by
    intro a hr
    refine mCall_use hr hS hz2 (fun i H1 locs1 q ce g1 g2 g3 g4 g5 g6 g7 g8 => kx i ls H1 locs1 q ce g1 hL g2 g3 g4 g5 g6 g7 g8) (fun v H1 locs1 g1 g2 g3 g4 g5 => ?_)
    have k8 := kk v g1 ls H1 locs1 hL g2 g3 g4 g5
    cases v with
    | none => exact k8
    | some v => exact k8
  cases i <;> simp only [mlen, beq_iff_eq] at hl <;> (try subst hl) <;> (try dsimp only at hd hk)
  case invokestatic idx =>
    simp only [mstep, mcall] at hs
    split at hs
    · rename_i hr
      cases hs
      obtain ⟨⟨q1, q2, q3, q4, q5, q6, q7⟩, q8, q9⟩ := hk
      have hmis : ∀ v ∈ (st.take b').reverse, mis1 v = true := fun v hv => List.all_eq_true.mp hr.2.1 v (List.mem_reverse.mp hv)
      have hlen : ((st.take b').reverse).length ≤ P.2.2.1 k' := by simp; omega
      rcases q9 with q9 | ⟨q9, q10, host, q11⟩
      · exact done _ (mCall_S (host := "") F hgw hnw (hM hmis hlen) (by omega) (by omega) q4 q5 q6 q7 (Or.inl q9) q8 hd hr.1 hr.2.2 hR hI hS hz1 hsz hrc hrs)
      · exact done _ (mCall_S (host := host) F hgw hnw (hM hmis hlen) (by omega) (by omega) q4 q5 q6 q7 (Or.inr ⟨q9, q11, hnt q10⟩) q8 hd hr.1 hr.2.2 hR hI hS hz1 hsz hrc hrs)
    · cases hs
  case invokevirtual idx =>
    simp only [mstep, mcall] at hs
    split at hs
    · rename_i hob
      split at hs
      · rename_i hr
        cases hs
        obtain ⟨⟨q1, q2, q3, q4, q5, q6, q7⟩, q8, q9, q10, q11, q, q12, q13⟩ := hk
        have hmis : ∀ v ∈ (st.take (b' + 1)).reverse, mis1 v = true := fun v hv => List.all_eq_true.mp hr.2.1 v (List.mem_reverse.mp hv)
        have hlen : ((st.take (b' + 1)).reverse).length ≤ P.2.2.1 k' := by simp; omega
        have hM' := hM hmis hlen
        rw [q8] at hM' q4
        exact done _ (mCall_V F hgw hnw hM' (by omega) (by omega) q4 q5 q6 q7 q9 q10 q11 q12 q13 hd hob hr.2.2 hR hI hS hz1 hsz hrc hrs)
      · cases hs
    · cases hs
  case invokespecial idx =>
    by_cases hc9 : c' = 99
    · exfalso
      simp only [mstep, mp1, mnx, if_pos hc9] at hs
      repeat' split at hs
      all_goals cases hs
    · rw [if_neg hc9] at hk
      simp only [mstep, mcall, if_neg hc9] at hs
      split at hs
      · rename_i o ho
        split at hs
        · rename_i hr
          cases hs
          obtain ⟨⟨q1, q2, q3, q4, q5, q6, q7⟩, q8, q9, q10, q11, q12, q13⟩ := hk
          have hmis : ∀ v ∈ (st.take (b' + 1)).reverse, mis1 v = true := fun v hv => List.all_eq_true.mp hr.2.1 v (List.mem_reverse.mp hv)
          have hlen : ((st.take (b' + 1)).reverse).length ≤ P.2.2.1 k' := by simp; omega
          have hM' := hM hmis hlen
          rw [q8, q9] at hM' q4
          rcases q13 with q13 | ⟨host, q13⟩
          · exact done _ (mCall_I (host := "") F hgw hnw hM' (hnt q10) (by omega) (by omega) q4 q5 q6 q7 (Or.inl q13) q11 q12 hd ho hr.2.2 hR hI hS hz1 hsz hrc hrs)
          · exact done _ (mCall_I (host := host) F hgw hnw hM' (hnt q10) (by omega) (by omega) q4 q5 q6 q7 (Or.inr q13) q11 q12 hd ho hr.2.2 hR hI hS hz1 hsz hrc hrs)
        · cases hs
      · cases hs
  case newarray =>
    exfalso
    simp only [mstep, mi1, mnx, mpay, mnew] at hs
    repeat' split at hs
    all_goals cases hs
  case anewarray =>
    exfalso
    simp only [mstep, mi1, mnx, mpay, mnew] at hs
    repeat' split at hs
    all_goals cases hs
  case new =>
    exfalso
    simp only [mstep, mi1, mnx, mpay, mnew] at hs
    repeat' split at hs
    all_goals cases hs
  all_goals exfalso
  all_goals (try simp only [mstep, mcp, mci, mcj, mnx, mi1, mi2, mj2, mji, mp1, mix, mst, mif, mrd, mwr, mcall] at hs)
  all_goals (repeat' split at hs)
  all_goals cases hs
end SIM2
end
section
/-! The simulation: what the small machine runs, the machine runs. -/
section MOF
variable {l : Launch}
theorem mOfW {y : MethodName} {ws ws' : List Cond} {rm : Room} {Pc : Array Value → State → Prop} {Qc : Array Value → State → Outcome → State → Prop} {XC : String → State → State → Prop} {mc ms : Nat} {free : Addr → Prop} {cc : ByteArray} {maxL : Nat} {ret : Option FieldType}
    (hy : plainFor y = true) (hw : ws = Cond.code y cc maxL ret :: ws')
    (body : ∀ p e s m args below meth c s₁, BodyLoose p l y (headSpec ws rm) cc maxL ret e s m args below meth c s₁ → c.maxLocals = maxL → (∀ x ∈ c.exceptionTable.toList, False) → Pc args s →
      W p l e (headSpec ws rm).room s m args below meth c s.heap [] 0 0 (vx_MQ below Qc XC args s mc ms free) (entryFrame m args maxL)) : vx_Met l y ws rm Pc Qc XC mc ms free := by
  refine MetFree.of_bodySF (code := cc) (maxLocals := maxL) (ret := ret) hy ?_ ?_
  · intro args s m h hn
    obtain ⟨meth, c, h1, h2, h3, h4, h5, h6, -, -⟩ := Cond.code_spec hn (atoms_spec (ws := ws) h _ (by rw [hw]; exact List.mem_cons_self))
    exact ⟨meth, c, h1, h2, h3, h4, h5, h6⟩
  · intro p e s m args below meth c s₁ B hml hP _
    have hh0 : s₁.heap = s.heap := by rw [B.state]; rfl
    have ht : ∀ x ∈ c.exceptionTable.toList, False := by
      obtain ⟨meth9, c9, h1, h2, -, -, -, -, h7, -⟩ := Cond.code_spec B.named (atoms_spec (ws := ws) B.pre _ (by rw [hw]; exact List.mem_cons_self))
      cases Option.some.inj (h1.symm.trans B.method)
      cases Option.some.inj (h2.symm.trans (Stand.of_body B).code)
      intro x hx
      rw [Array.isEmpty_iff.mp h7] at hx
      cases hx
    obtain ⟨t, a1, o, b1, b2, b3⟩ := body p e s m args below meth c s₁ B hml ht hP s₁ hh0 (Stand.of_body B)
    exact ⟨t, o, a1, b1, b2, b3⟩
theorem mOfWH {y : MethodName} {ws ws' : List Cond} {rm : Room} {Pc : Array Value → State → Prop} {Qc : Array Value → State → Outcome → State → Prop} {XC : String → State → State → Prop} {mc ms : Nat} {free : Addr → Prop} {cc : ByteArray} {maxL : Nat} {ret : Option FieldType} {hh : List (Nat × Nat × Nat × Nat)}
    (hy : plainFor y = true) (hw : ws = Cond.codeWith y cc maxL ret hh :: ws')
    (body : ∀ p e s m args below meth c s₁, BodyLoose p l y (headSpec ws rm) cc maxL ret e s m args below meth c s₁ → c.maxLocals = maxL → Pc args s →
      W p l e (headSpec ws rm).room s m args below meth c s.heap [] 0 0 (vx_MQ below Qc XC args s mc ms free) (entryFrame m args maxL)) : vx_Met l y ws rm Pc Qc XC mc ms free := by
  refine MetFree.of_bodySF (code := cc) (maxLocals := maxL) (ret := ret) hy ?_ ?_
  · intro args s m h hn
    obtain ⟨m9, meth, c, hn9, h1, h2, h3, h4, -, h5, h6, -⟩ := Cond.codeWith_spec (atoms_spec (ws := ws) h _ (by rw [hw]; exact List.mem_cons_self))
    cases hn.symm.trans hn9
    exact ⟨meth, c, h1, h2, h3, h4, h5, h6⟩
  · intro p e s m args below meth c s₁ B hml hP _
    have hh0 : s₁.heap = s.heap := by rw [B.state]; rfl
    obtain ⟨t, a1, o, b1, b2, b3⟩ := body p e s m args below meth c s₁ B hml hP s₁ hh0 (Stand.of_body B)
    exact ⟨t, o, a1, b1, b2, b3⟩
end MOF
section SIM3
variable {p : Program} {l : Launch} {e : Env} {R : Room} {s : State} {m : MethodId} {args : Array Value} {below : List Frame} {meth : Method} {c : Code} {Q : State → Prop}
variable {good nw : List Cond} {D : va_G} {cl : List vw_C} {n0 b mt : Nat} {cA : Nat → ClassId} {ft : Nat → Nat → Nat} {L0 : Nat} {xs : Nat → Int32} {strs : List (String × Nat × String)}
variable {P : mProg} {pY : Nat → MethodName} {pC : Nat → ByteArray} {pR : Nat → Option FieldType} {pH : Nat → Option (List (Nat × Nat × Nat × Nat))} {pD : Nat → Nat × Nat}
/-- the contract of a method's run -/
def mMet (good nw : List Cond) (D : va_G) (cl : List vw_C) (n0 b mt : Nat) (cA : Nat → ClassId) (ft : Nat → Nat → Nat) (L0 : Nat) (xs : Nat → Int32) (strs : List (String × Nat × String)) (P : mProg) (pY : Nat → MethodName) (pC : Nat → ByteArray) (pR : Nat → Option FieldType) (pH : Nat → Option (List (Nat × Nat × Nat × Nat))) (pD : Nat → Nat × Nat) (l : Launch) (k : Nat) (vs : List mV) (h : mH) (r : mR) : Prop :=
  vx_Met l (pY k) (mwd (pY k) (pC k) (P.2.2.1 k) (pR k) (pH k) :: good) { frames := (pD k).1, locals := (pD k).2, cells := r.2.2.1, slots := r.2.2.2 } (mPc D cl n0 b mt cA ft L0 xs strs nw h vs) (mQc D cl n0 b mt cA ft L0 xs r) (mXC D cl n0 b mt cA ft L0 xs r) r.2.2.1 r.2.2.2 (fun q => n0 ≤ q)
/-- a body, from any of its places -/
theorem mBody (hOK : mOK good nw strs cl ft P pY pC pR pH pD) (hl0 : l.stackTraces = false) {k : Nat} {r : mR} {R : Room} (hRf : (pD k).1 ≤ R.frames) (hRl : (pD k).2 ≤ R.locals) (hRc : r.2.2.1 ≤ R.cells) (hRs : r.2.2.2 ≤ R.slots)
    (F : mFr p s m args meth c (pC k) (pY k).cls (decide ((pY k).name = "<init>")) good D cl n0 b mt cA ft L0 xs strs nw) (hr : meth.sig.returnType = pR k) (hlocks : meth.locks = false)
    (htab : (pH k = none → ∀ x ∈ c.exceptionTable.toList, False) ∧ ∀ hh, pH k = some hh → c.exceptionTable.toList = tableOf hh) (hml : c.maxLocals = P.2.2.1 k)
    {N : Nat} (hIH : ∀ f, f < N → ∀ (k' : Nat) (vs : List mV) (h : mH) (rc : mR), mrun P f k' 0 (mentry vs (P.2.2.1 k')) [] h = some rc → (∀ v ∈ vs, mis1 v = true) → vs.length ≤ P.2.2.1 k' → mMet good nw D cl n0 b mt cA ft L0 xs strs P pY pC pR pH pD l k' vs h rc) :
    ∀ f, f ≤ N → ∀ (pc : Nat) (L : mLs) (st : List mV) (h : mH) (r2 : mR) (cells slots : Nat), mrun P f k pc L st h = some r2 → r2.1 = r.1 → r2.2.1 = r.2.1 → cells + r2.2.2.1 = r.2.2.1 → slots + r2.2.2.2 = r.2.2.2 → L.length = c.maxLocals →
      mK p l e R s m args below meth c (vx_MQ below (mQc D cl n0 b mt cA ft L0 xs r) (mXC D cl n0 b mt cA ft L0 xs r) args s r.2.2.1 r.2.2.2 (fun q => n0 ≤ q)) D cl n0 b mt cA ft L0 xs pc L st h cells slots := by
  intro f
  induction f with
  | zero => intro _ pc L st h r2 cells slots hm; cases hm
  | succ f ih =>
    intro hfN pc L st h r2 cells slots hm e1 e2 e3 e4 hLn
    unfold mrun at hm
    split at hm
    · cases hm
    · rename_i e9 he9
      have hk := hOK.2.2.2.1 k pc e9 he9
      split at hm
      · cases hm
      · rename_i pc' L' st' h' dc ds hs
        unfold mbump at hm
        split at hm
        · rename_i o h2 c' s' h1
          cases hm
          refine mStep_ok hOK hk F hRf hRl hLn hs (Nat.le_trans (by rw [← e3]; show _ ≤ cells + (dc + c'); omega) hRc) (Nat.le_trans (by rw [← e4]; show _ ≤ slots + (ds + s'); omega) hRs) ?_
          exact ih (by omega) pc' L' st' h' (o, h2, c', s') (cells + dc) (slots + ds) h1 e1 e2 (by rw [← e3]; show cells + dc + c' = cells + (dc + c'); omega) (by rw [← e4]; show slots + ds + s' = slots + (ds + s'); omega) (by rw [(mstep_len hs).1]; exact hLn)
        · cases hm
      · rename_i k' as rest hs
        split at hm
        · cases hm
        · rename_i v h1 c' s' hc
          unfold mbump at hm
          split at hm
          · rename_i o h2 c2 s2 h3
            cases hm
            refine mCall_ok (rc := (.inl v, h1, c', s')) hOK hk F hRf hRl hLn hs (Nat.le_trans (by rw [← e3]; show cells + c' ≤ cells + (c' + c2); omega) hRc) (Nat.le_trans (by rw [← e4]; show slots + s' ≤ slots + (s' + s2); omega) hRs) (mrun_flag _ _ _ _ _ _ _ hc) (fun i hi => by cases hi) (fun g1 g2 => hIH f (by omega) k' as h _ hc g1 g2) (fun i _ _ _ _ _ hi => by cases hi) (fun v' hv' => ?_)
            cases hv'
            exact ih (by omega) (pc + 3) L _ h1 (o, h2, c2, s2) (cells + c') (slots + s') h3 e1 e2 (by rw [← e3]; show cells + c' + c2 = cells + (c' + c2); omega) (by rw [← e4]; show slots + s' + s2 = slots + (s' + s2); omega) hLn
          · cases hm
        · rename_i E h1 c' s' hc
          split at hm
          · rename_i hcat
            cases hm
            have e3' : cells + c' = r.2.2.1 := e3
            have e4' : slots + s' = r.2.2.2 := e4
            refine mCall_ok (rc := (.inr E, h1, c', s')) hOK hk F hRf hRl hLn hs (Nat.le_trans (by rw [← e3]; exact Nat.le_refl _) hRc) (Nat.le_trans (by rw [← e4]; exact Nat.le_refl _) hRs) (mrun_flag _ _ _ _ _ _ _ hc) (fun i hi q hq => by cases hi; rw [hcat] at hq; cases hq) (fun g1 g2 => hIH f (by omega) k' as h _ hc g1 g2) (fun i ls H1 locs1 q ce hi g1 g2 g3 g4 g5 g6 g7 g8 => ?_) (fun v' hv' => by cases hv')
            cases hi
            have hH := (hOK.2.2.2.2.1 k pc E).1 hcat
            refine vx_out (fun x hx9 => absurd (htab.1 hH x hx9) id) hlocks g6 g7 g8 (fun t ht hA => ⟨⟨E, e1.symm, rfl⟩, by rw [← e2]; exact g2, by rw [← e2, ht]; exact g3, fun hf => ?_, g4.F ht⟩) g4.2.2 (by show cells + c' ≤ _; omega) (by show slots + s' ≤ _; omega)
            rw [← e2] at hf ⊢
            rw [← e3']
            exact g5 hf
          · rename_i pc' i hcat
            split at hm
            · rename_i hmok
              unfold mbump at hm
              split at hm
              · rename_i o h2 c2 s2 h3
                cases hm
                have hne : P.1 k pc' ≠ none := by
                  intro h9
                  cases f with
                  | zero => cases h3
                  | succ f =>
                    unfold mrun at h3
                    rw [h9] at h3
                    cases h3
                rcases (hOK.2.2.2.2.1 k pc E).2 _ hcat with h9 | ⟨hE, hh, pre, x, suf, hH, htb, hpre, hcov, hx0, hlink, hi9, hform⟩
                · exact absurd h9 hne
                · refine mCall_ok (rc := (.inr E, h1, c', s')) hOK hk F hRf hRl hLn hs (Nat.le_trans (by rw [← e3]; show cells + c' ≤ cells + (c' + c2); omega) hRc) (Nat.le_trans (by rw [← e4]; show slots + s' ≤ slots + (s' + s2); omega) hRs) (mrun_flag _ _ _ _ _ _ _ hc) (fun i9 hi q hq => by cases hi; rw [hcat] at hq; cases hq; exact hne) (fun g1 g2 => hIH f (by omega) k' as h _ hc g1 g2) (fun i9 ls H1 locs1 q ce hi g1 g2 g3 g4 g5 g6 g7 g8 => ?_) (fun v' hv' => by cases hv')
                  cases hi
                  obtain ⟨hx, hb, hown, hts, -, -, hSt⟩ := F
                  have hNc := hSt.2.2.2.2.2.2.2.2.2.2.2.2.2
                  have hCa := hSt.2.2.2.2.2.2.2.2.2.2.2.2.1
                  refine vx_catch hown pre x suf ((htab.2 hh hH).trans htb) (fun z hz => Or.inr ?_) hcov hx0 (hts _ hlink) (va_Nw.use rfl (hCa E hE)) g6 g7 g8 ?_
                  · obtain ⟨q1, j, q2, q3, q4⟩ := hpre z hz
                    exact ⟨q1, pE j, hts _ q4, hNc E j hE q2 q3⟩
                  · have hkk : ∀ ls', lv_has ls' L.length ((i, .ref q) :: (mlv (mad n0 b mt) L).filter (fun q => !(q.1 == i) && !(q.1 + 1 == i && q.2.category == 2))) → W p l e R s m args below meth c H1 locs1 (cells + c') (slots + s') (vx_MQ below (mQc D cl n0 b mt cA ft L0 xs r) (mXC D cl n0 b mt cA ft L0 xs r) args s r.2.2.1 r.2.2.2 (fun q => n0 ≤ q)) (F0 m pc' ls' []) := fun ls' hls' =>
                      ih (by omega) pc' (L.set i none) [] h1 (o, h2, c2, s2) (cells + c') (slots + s') h3 e1 e2 (by rw [← e3]; show cells + c' + c2 = cells + (c' + c2); omega) (by rw [← e4]; show slots + s' + s2 = slots + (s' + s2); omega) (by rw [List.length_set]; exact hLn) ls' H1 locs1 (mLR.drop g1 hmok hls') g2 g3 g4 g5
                    have hi8 : i < L.length := by rw [hLn, hml]; exact hi9
                    rcases hform with ⟨i4, q1, q2, q3⟩ | ⟨q2, q3⟩
                    · subst q3
                      exact lv_astore_n hx hb q2 q1 g1.has hi8 rfl fun ls' hls' => hkk ls' hls'
                    · subst q3
                      exact lv_astore hx hb q2 g1.has hi8 rfl fun ls' hls' => hkk ls' hls'
              · cases hm
            · cases hm
      · rename_i v hs
        cases hm
        have e3' : cells = r.2.2.1 := e3
        have e4' : slots = r.2.2.2 := e4
        have hrr : r = (.inl v, h, cells, slots) := by
          obtain ⟨r1, r2, r3, r4⟩ := r
          cases e1; cases e2; cases e3'; cases e4'; rfl
        rw [hrr]
        exact mRet_ok hk F hr hlocks hs
      · rename_i E hs
        cases hm
        have e3' : cells + 1 = r.2.2.1 := e3
        have e4' : slots + 6 = r.2.2.2 := e4
        have hrr : r = (.inr E, (h.1, h.2.1, false), cells + 1, slots + 6) := by
          obtain ⟨r1, r2, r3, r4⟩ := r
          cases e1; cases e2; cases e3'; cases e4'; rfl
        rw [hrr]
        exact mThrow_ok hOK hk hl0 F hlocks hRf hRl hLn htab.1 (Nat.le_trans (Nat.le_of_eq e3') hRc) (Nat.le_trans (Nat.le_of_eq e4') hRs) hs
theorem mSim (hOK : mOK good nw strs cl ft P pY pC pR pH pD) (hl0 : l.stackTraces = false) : ∀ f (k : Nat) (vs : List mV) (h : mH) (r : mR), mrun P f k 0 (mentry vs (P.2.2.1 k)) [] h = some r → (∀ v ∈ vs, mis1 v = true) → vs.length ≤ P.2.2.1 k → mMet good nw D cl n0 b mt cA ft L0 xs strs P pY pC pR pH pD l k vs h r := by
  intro f
  induction f using Nat.strongRecOn with
  | _ f ihf =>
    intro k vs h r hm hmis hlen
    have hpl : plainFor (pY k) = true := by
      cases f with
      | zero => cases hm
      | succ f =>
        unfold mrun at hm
        split at hm
        · cases hm
        · rename_i e9 he9
          exact hOK.2.2.2.2.2.1 k 0 e9 he9
    have hL0 : (mentry vs (P.2.2.1 k)).length = P.2.2.1 k := by
      unfold mentry
      simp
      omega
    have body : ∀ (p : Program) (e : Env) (s : State) (m : MethodId) (args : Array Value) (below : List Frame) (meth : Method) (c : Code) (s₁ : State), BodyLoose p l (pY k) (headSpec (mwd (pY k) (pC k) (P.2.2.1 k) (pR k) (pH k) :: good) { frames := (pD k).1, locals := (pD k).2, cells := r.2.2.1, slots := r.2.2.2 }) (pC k) (P.2.2.1 k) (pR k) e s m args below meth c s₁ → c.maxLocals = P.2.2.1 k →
        ((pH k = none → ∀ x ∈ c.exceptionTable.toList, False) ∧ ∀ hh, pH k = some hh → c.exceptionTable.toList = tableOf hh) → mPc D cl n0 b mt cA ft L0 xs strs nw h vs args s →
        W p l e { frames := (pD k).1, locals := (pD k).2, cells := r.2.2.1, slots := r.2.2.2 } s m args below meth c s.heap [] 0 0 (vx_MQ below (mQc D cl n0 b mt cA ft L0 xs r) (mXC D cl n0 b mt cA ft L0 xs r) args s r.2.2.1 r.2.2.2 (fun q => n0 ≤ q)) (entryFrame m args (P.2.2.1 k)) := by
      intro p e s m args below meth c s₁ B hml htab hP
      obtain ⟨ha, hI, hR, hSt, hz⟩ := hP
      have hts := atoms_spec (ws := mwd (pY k) (pC k) (P.2.2.1 k) (pR k) (pH k) :: good) B.pre
      have hown : s.vm.findClass (pY k).cls = some m.cls := findClass_of_methodNamed B.named
      have F : mFr p s m args meth c (pC k) (pY k).cls (decide ((pY k).name = "<init>")) good D cl n0 b mt cA ft L0 xs strs nw := ⟨B.exec, B.bytes, hown, fun w hw => hts w (List.mem_cons_of_mem _ hw), fun hi => ((name_of_methodNamed B.named B.method).1).trans (of_decide_eq_true hi), hOK.2.2.1, hSt⟩
      obtain ⟨ls, hent, hLR⟩ := mLR.entry (ad := mad n0 b mt) (m := m) (vs := vs) (n := P.2.2.1 k) hmis hlen
      rw [ha, hent]
      rw [ha] at F
      exact mBody (e := e) (below := below) hOK hl0 (Nat.le_refl _) (Nat.le_refl _) (Nat.le_refl _) (Nat.le_refl _) F B.returns B.notSynchronized htab hml (N := f) (fun f' hf' k' vs' h' rc h1 h2 h3 => ihf f' hf' k' vs' h' rc h1 h2 h3) f (Nat.le_refl f) 0 (mentry vs (P.2.2.1 k)) [] h r 0 0 hm rfl rfl (Nat.zero_add _) (Nat.zero_add _) (by rw [hL0, hml]) ls s.heap [] hLR hI hR va_S.rf (fun hf => by rw [Nat.add_zero]; exact hz hf)
    unfold mMet
    cases hH : pH k with
    | none =>
      rw [hH] at body
      refine mOfW (cc := pC k) (maxL := P.2.2.1 k) (ret := pR k) hpl rfl ?_
      intro p e s m args below meth c s₁ B hml ht hP
      exact body p e s m args below meth c s₁ B hml ⟨fun _ => ht, fun hh h9 => by cases h9⟩ hP
    | some hh =>
      rw [hH] at body
      refine mOfWH (cc := pC k) (maxL := P.2.2.1 k) (ret := pR k) (hh := hh) hpl rfl ?_
      intro p e s m args below meth c s₁ B hml hP
      have hts := atoms_spec (ws := mwd (pY k) (pC k) (P.2.2.1 k) (pR k) (some hh) :: good) B.pre
      exact body p e s m args below meth c s₁ B hml ⟨(fun h9 => by cases h9), fun hh' h9 => by
        cases h9
        exact vx_table (x := pY k) B (hts _ List.mem_cons_self)⟩ hP
end SIM3
end
