section
-- ===== PART A: goes FIRST, ahead of the names: the tables' words, and 'selects' of the private methods out of them =====
/-- a private method of a class that the tables say can be made, by its rows of tables_1 -/
def lw_okq (q : MethodName × Nat) : Prop := (q.1.cls ≠ "java/lang/invoke/MethodHandle" ∧ q.1.cls ≠ "java/lang/invoke/VarHandle") ∧ Cond.instantiable q.1.cls q.2 ∈ tables_1 ∧ Cond.privateMethod q.1 ∈ tables_1 ∧ Cond.instanceMethod q.1 ∈ tables_1
theorem lw_p0 : lw_okq (⟨"UnbeatenHouse", "putBytes", "(I)V"⟩, 16) := ⟨⟨by decide +kernel, by decide +kernel⟩, List.mem_of_getElem? (i := 23) (by decide +kernel), List.mem_of_getElem? (i := 472) (by decide +kernel), List.mem_of_getElem? (i := 473) (by decide +kernel)⟩
theorem lw_p1 : lw_okq (⟨"UnbeatenHouse$Reader", "advance", "()V"⟩, 12) := ⟨⟨by decide +kernel, by decide +kernel⟩, List.mem_of_getElem? (i := 97) (by decide +kernel), List.mem_of_getElem? (i := 492) (by decide +kernel), List.mem_of_getElem? (i := 493) (by decide +kernel)⟩
theorem lw_p2 : lw_okq (⟨"UnbeatenHouse$Reader", "ownNumber", "(I)I"⟩, 12) := ⟨⟨by decide +kernel, by decide +kernel⟩, List.mem_of_getElem? (i := 97) (by decide +kernel), List.mem_of_getElem? (i := 502) (by decide +kernel), List.mem_of_getElem? (i := 503) (by decide +kernel)⟩
theorem lw_p3 : lw_okq (⟨"UnbeatenHouse$Reader", "readStatement", "()V"⟩, 12) := ⟨⟨by decide +kernel, by decide +kernel⟩, List.mem_of_getElem? (i := 97) (by decide +kernel), List.mem_of_getElem? (i := 506) (by decide +kernel), List.mem_of_getElem? (i := 507) (by decide +kernel)⟩
theorem lw_p4 : lw_okq (⟨"UnbeatenHouse$Reader", "blame", "(I)V"⟩, 12) := ⟨⟨by decide +kernel, by decide +kernel⟩, List.mem_of_getElem? (i := 97) (by decide +kernel), List.mem_of_getElem? (i := 510) (by decide +kernel), List.mem_of_getElem? (i := 511) (by decide +kernel)⟩
theorem lw_p5 : lw_okq (⟨"UnbeatenHouse$Reader", "isOutOfTurn", "(I)Z"⟩, 12) := ⟨⟨by decide +kernel, by decide +kernel⟩, List.mem_of_getElem? (i := 97) (by decide +kernel), List.mem_of_getElem? (i := 516) (by decide +kernel), List.mem_of_getElem? (i := 517) (by decide +kernel)⟩
theorem lw_p6 : lw_okq (⟨"UnbeatenHouse$Reader", "readWish", "()V"⟩, 12) := ⟨⟨by decide +kernel, by decide +kernel⟩, List.mem_of_getElem? (i := 97) (by decide +kernel), List.mem_of_getElem? (i := 520) (by decide +kernel), List.mem_of_getElem? (i := 521) (by decide +kernel)⟩
theorem lw_p7 : lw_okq (⟨"UnbeatenHouse$Reader", "giveName", "(I)V"⟩, 12) := ⟨⟨by decide +kernel, by decide +kernel⟩, List.mem_of_getElem? (i := 97) (by decide +kernel), List.mem_of_getElem? (i := 524) (by decide +kernel), List.mem_of_getElem? (i := 525) (by decide +kernel)⟩
theorem lw_p8 : lw_okq (⟨"UnbeatenHouse$Reader", "isName", "()Z"⟩, 12) := ⟨⟨by decide +kernel, by decide +kernel⟩, List.mem_of_getElem? (i := 97) (by decide +kernel), List.mem_of_getElem? (i := 528) (by decide +kernel), List.mem_of_getElem? (i := 529) (by decide +kernel)⟩
theorem lw_p9 : lw_okq (⟨"UnbeatenHouse$Reader", "readTie", "()V"⟩, 12) := ⟨⟨by decide +kernel, by decide +kernel⟩, List.mem_of_getElem? (i := 97) (by decide +kernel), List.mem_of_getElem? (i := 544) (by decide +kernel), List.mem_of_getElem? (i := 545) (by decide +kernel)⟩
theorem lw_p10 : lw_okq (⟨"UnbeatenHouse$Reader", "askName", "(II)I"⟩, 12) := ⟨⟨by decide +kernel, by decide +kernel⟩, List.mem_of_getElem? (i := 97) (by decide +kernel), List.mem_of_getElem? (i := 548) (by decide +kernel), List.mem_of_getElem? (i := 549) (by decide +kernel)⟩
theorem lw_p11 : lw_okq (⟨"UnbeatenHouse$Reader", "readAmounts", "(II)V"⟩, 12) := ⟨⟨by decide +kernel, by decide +kernel⟩, List.mem_of_getElem? (i := 97) (by decide +kernel), List.mem_of_getElem? (i := 553) (by decide +kernel), List.mem_of_getElem? (i := 554) (by decide +kernel)⟩
theorem lw_p12 : lw_okq (⟨"UnbeatenHouse$Reader", "takeNumber", "()I"⟩, 12) := ⟨⟨by decide +kernel, by decide +kernel⟩, List.mem_of_getElem? (i := 97) (by decide +kernel), List.mem_of_getElem? (i := 560) (by decide +kernel), List.mem_of_getElem? (i := 561) (by decide +kernel)⟩
theorem lw_p13 : lw_okq (⟨"UnbeatenHouse$Reader", "readRule", "()V"⟩, 12) := ⟨⟨by decide +kernel, by decide +kernel⟩, List.mem_of_getElem? (i := 97) (by decide +kernel), List.mem_of_getElem? (i := 564) (by decide +kernel), List.mem_of_getElem? (i := 565) (by decide +kernel)⟩
theorem lw_p14 : lw_okq (⟨"UnbeatenHouse$Reader", "readTest", "()V"⟩, 12) := ⟨⟨by decide +kernel, by decide +kernel⟩, List.mem_of_getElem? (i := 97) (by decide +kernel), List.mem_of_getElem? (i := 568) (by decide +kernel), List.mem_of_getElem? (i := 569) (by decide +kernel)⟩
theorem lw_p15 : lw_okq (⟨"UnbeatenHouse$Reader", "readBoth", "()V"⟩, 12) := ⟨⟨by decide +kernel, by decide +kernel⟩, List.mem_of_getElem? (i := 97) (by decide +kernel), List.mem_of_getElem? (i := 572) (by decide +kernel), List.mem_of_getElem? (i := 573) (by decide +kernel)⟩
def lw_privs_1 : List (MethodName × Nat) := [(⟨"UnbeatenHouse", "putBytes", "(I)V"⟩, 16), (⟨"UnbeatenHouse$Reader", "advance", "()V"⟩, 12), (⟨"UnbeatenHouse$Reader", "ownNumber", "(I)I"⟩, 12), (⟨"UnbeatenHouse$Reader", "readStatement", "()V"⟩, 12), (⟨"UnbeatenHouse$Reader", "blame", "(I)V"⟩, 12), (⟨"UnbeatenHouse$Reader", "isOutOfTurn", "(I)Z"⟩, 12), (⟨"UnbeatenHouse$Reader", "readWish", "()V"⟩, 12), (⟨"UnbeatenHouse$Reader", "giveName", "(I)V"⟩, 12), (⟨"UnbeatenHouse$Reader", "isName", "()Z"⟩, 12), (⟨"UnbeatenHouse$Reader", "readTie", "()V"⟩, 12), (⟨"UnbeatenHouse$Reader", "askName", "(II)I"⟩, 12), (⟨"UnbeatenHouse$Reader", "readAmounts", "(II)V"⟩, 12), (⟨"UnbeatenHouse$Reader", "takeNumber", "()I"⟩, 12), (⟨"UnbeatenHouse$Reader", "readRule", "()V"⟩, 12), (⟨"UnbeatenHouse$Reader", "readTest", "()V"⟩, 12), (⟨"UnbeatenHouse$Reader", "readBoth", "()V"⟩, 12)]
theorem lw_r1 : ∀ q ∈ lw_privs_1, lw_okq q := List.forall_mem_cons.mpr ⟨lw_p0, List.forall_mem_cons.mpr ⟨lw_p1, List.forall_mem_cons.mpr ⟨lw_p2, List.forall_mem_cons.mpr ⟨lw_p3, List.forall_mem_cons.mpr ⟨lw_p4, List.forall_mem_cons.mpr ⟨lw_p5, List.forall_mem_cons.mpr ⟨lw_p6, List.forall_mem_cons.mpr ⟨lw_p7, List.forall_mem_cons.mpr ⟨lw_p8, List.forall_mem_cons.mpr ⟨lw_p9, List.forall_mem_cons.mpr ⟨lw_p10, List.forall_mem_cons.mpr ⟨lw_p11, List.forall_mem_cons.mpr ⟨lw_p12, List.forall_mem_cons.mpr ⟨lw_p13, List.forall_mem_cons.mpr ⟨lw_p14, List.forall_mem_cons.mpr ⟨lw_p15, fun _ h => absurd h List.not_mem_nil⟩⟩⟩⟩⟩⟩⟩⟩⟩⟩⟩⟩⟩⟩⟩⟩
theorem lw_p16 : lw_okq (⟨"UnbeatenHouse$Reader", "readFact", "()V"⟩, 12) := ⟨⟨by decide +kernel, by decide +kernel⟩, List.mem_of_getElem? (i := 97) (by decide +kernel), List.mem_of_getElem? (i := 576) (by decide +kernel), List.mem_of_getElem? (i := 577) (by decide +kernel)⟩
theorem lw_p17 : lw_okq (⟨"UnbeatenHouse$Reader", "isSign", "(I)Z"⟩, 12) := ⟨⟨by decide +kernel, by decide +kernel⟩, List.mem_of_getElem? (i := 97) (by decide +kernel), List.mem_of_getElem? (i := 580) (by decide +kernel), List.mem_of_getElem? (i := 581) (by decide +kernel)⟩
theorem lw_p18 : lw_okq (⟨"UnbeatenHouse$Reader", "opensOne", "(I)Z"⟩, 12) := ⟨⟨by decide +kernel, by decide +kernel⟩, List.mem_of_getElem? (i := 97) (by decide +kernel), List.mem_of_getElem? (i := 584) (by decide +kernel), List.mem_of_getElem? (i := 585) (by decide +kernel)⟩
theorem lw_p19 : lw_okq (⟨"UnbeatenHouse$Reader", "closeOne", "(I)V"⟩, 12) := ⟨⟨by decide +kernel, by decide +kernel⟩, List.mem_of_getElem? (i := 97) (by decide +kernel), List.mem_of_getElem? (i := 588) (by decide +kernel), List.mem_of_getElem? (i := 589) (by decide +kernel)⟩
theorem lw_p20 : lw_okq (⟨"UnbeatenHouse$Reader", "take", "(I)V"⟩, 12) := ⟨⟨by decide +kernel, by decide +kernel⟩, List.mem_of_getElem? (i := 97) (by decide +kernel), List.mem_of_getElem? (i := 592) (by decide +kernel), List.mem_of_getElem? (i := 593) (by decide +kernel)⟩
theorem lw_p21 : lw_okq (⟨"UnbeatenHouse$Reader", "readComparison", "()V"⟩, 12) := ⟨⟨by decide +kernel, by decide +kernel⟩, List.mem_of_getElem? (i := 97) (by decide +kernel), List.mem_of_getElem? (i := 603) (by decide +kernel), List.mem_of_getElem? (i := 604) (by decide +kernel)⟩
theorem lw_p22 : lw_okq (⟨"UnbeatenHouse$Reader", "readSum", "()V"⟩, 12) := ⟨⟨by decide +kernel, by decide +kernel⟩, List.mem_of_getElem? (i := 97) (by decide +kernel), List.mem_of_getElem? (i := 607) (by decide +kernel), List.mem_of_getElem? (i := 608) (by decide +kernel)⟩
theorem lw_p23 : lw_okq (⟨"UnbeatenHouse$Reader", "readProduct", "()V"⟩, 12) := ⟨⟨by decide +kernel, by decide +kernel⟩, List.mem_of_getElem? (i := 97) (by decide +kernel), List.mem_of_getElem? (i := 611) (by decide +kernel), List.mem_of_getElem? (i := 612) (by decide +kernel)⟩
theorem lw_p24 : lw_okq (⟨"UnbeatenHouse$Reader", "readPart", "()V"⟩, 12) := ⟨⟨by decide +kernel, by decide +kernel⟩, List.mem_of_getElem? (i := 97) (by decide +kernel), List.mem_of_getElem? (i := 615) (by decide +kernel), List.mem_of_getElem? (i := 616) (by decide +kernel)⟩
theorem lw_p25 : lw_okq (⟨"UnbeatenHouse$Reader", "readPair", "(I)V"⟩, 12) := ⟨⟨by decide +kernel, by decide +kernel⟩, List.mem_of_getElem? (i := 97) (by decide +kernel), List.mem_of_getElem? (i := 619) (by decide +kernel), List.mem_of_getElem? (i := 620) (by decide +kernel)⟩
theorem lw_p26 : lw_okq (⟨"UnbeatenHouse$Reader", "readRow", "()V"⟩, 12) := ⟨⟨by decide +kernel, by decide +kernel⟩, List.mem_of_getElem? (i := 97) (by decide +kernel), List.mem_of_getElem? (i := 623) (by decide +kernel), List.mem_of_getElem? (i := 624) (by decide +kernel)⟩
theorem lw_p27 : lw_okq (⟨"UnbeatenHouse$Reader", "readThing", "()V"⟩, 12) := ⟨⟨by decide +kernel, by decide +kernel⟩, List.mem_of_getElem? (i := 97) (by decide +kernel), List.mem_of_getElem? (i := 627) (by decide +kernel), List.mem_of_getElem? (i := 628) (by decide +kernel)⟩
theorem lw_p28 : lw_okq (⟨"UnbeatenHouse$Rows", "takeLoss", "(LUnbeatenHouse$Tale;II)V"⟩, 8) := ⟨⟨by decide +kernel, by decide +kernel⟩, List.mem_of_getElem? (i := 187) (by decide +kernel), List.mem_of_getElem? (i := 639) (by decide +kernel), List.mem_of_getElem? (i := 640) (by decide +kernel)⟩
theorem lw_p29 : lw_okq (⟨"UnbeatenHouse$Weighings", "add", "(IIII)V"⟩, 4) := ⟨⟨by decide +kernel, by decide +kernel⟩, List.mem_of_getElem? (i := 332) (by decide +kernel), List.mem_of_getElem? (i := 690) (by decide +kernel), List.mem_of_getElem? (i := 691) (by decide +kernel)⟩
theorem lw_p30 : lw_okq (⟨"UnbeatenHouse$Weighings", "put", "(II)V"⟩, 4) := ⟨⟨by decide +kernel, by decide +kernel⟩, List.mem_of_getElem? (i := 332) (by decide +kernel), List.mem_of_getElem? (i := 694) (by decide +kernel), List.mem_of_getElem? (i := 695) (by decide +kernel)⟩
theorem lw_p31 : lw_okq (⟨"UnbeatenHouse", "takeWays", "(II)I"⟩, 16) := ⟨⟨by decide +kernel, by decide +kernel⟩, List.mem_of_getElem? (i := 23) (by decide +kernel), List.mem_of_getElem? (i := 781) (by decide +kernel), List.mem_of_getElem? (i := 782) (by decide +kernel)⟩
def lw_privs_2 : List (MethodName × Nat) := [(⟨"UnbeatenHouse$Reader", "readFact", "()V"⟩, 12), (⟨"UnbeatenHouse$Reader", "isSign", "(I)Z"⟩, 12), (⟨"UnbeatenHouse$Reader", "opensOne", "(I)Z"⟩, 12), (⟨"UnbeatenHouse$Reader", "closeOne", "(I)V"⟩, 12), (⟨"UnbeatenHouse$Reader", "take", "(I)V"⟩, 12), (⟨"UnbeatenHouse$Reader", "readComparison", "()V"⟩, 12), (⟨"UnbeatenHouse$Reader", "readSum", "()V"⟩, 12), (⟨"UnbeatenHouse$Reader", "readProduct", "()V"⟩, 12), (⟨"UnbeatenHouse$Reader", "readPart", "()V"⟩, 12), (⟨"UnbeatenHouse$Reader", "readPair", "(I)V"⟩, 12), (⟨"UnbeatenHouse$Reader", "readRow", "()V"⟩, 12), (⟨"UnbeatenHouse$Reader", "readThing", "()V"⟩, 12), (⟨"UnbeatenHouse$Rows", "takeLoss", "(LUnbeatenHouse$Tale;II)V"⟩, 8), (⟨"UnbeatenHouse$Weighings", "add", "(IIII)V"⟩, 4), (⟨"UnbeatenHouse$Weighings", "put", "(II)V"⟩, 4), (⟨"UnbeatenHouse", "takeWays", "(II)I"⟩, 16)]
theorem lw_r2 : ∀ q ∈ lw_privs_2, lw_okq q := List.forall_mem_cons.mpr ⟨lw_p16, List.forall_mem_cons.mpr ⟨lw_p17, List.forall_mem_cons.mpr ⟨lw_p18, List.forall_mem_cons.mpr ⟨lw_p19, List.forall_mem_cons.mpr ⟨lw_p20, List.forall_mem_cons.mpr ⟨lw_p21, List.forall_mem_cons.mpr ⟨lw_p22, List.forall_mem_cons.mpr ⟨lw_p23, List.forall_mem_cons.mpr ⟨lw_p24, List.forall_mem_cons.mpr ⟨lw_p25, List.forall_mem_cons.mpr ⟨lw_p26, List.forall_mem_cons.mpr ⟨lw_p27, List.forall_mem_cons.mpr ⟨lw_p28, List.forall_mem_cons.mpr ⟨lw_p29, List.forall_mem_cons.mpr ⟨lw_p30, List.forall_mem_cons.mpr ⟨lw_p31, fun _ h => absurd h List.not_mem_nil⟩⟩⟩⟩⟩⟩⟩⟩⟩⟩⟩⟩⟩⟩⟩⟩
theorem lw_p32 : lw_okq (⟨"UnbeatenHouse$Gatherer", "walk", "(LUnbeatenHouse$Tale;LUnbeatenHouse$Pool;IIIIJ)V"⟩, 3) := ⟨⟨by decide +kernel, by decide +kernel⟩, List.mem_of_getElem? (i := 252) (by decide +kernel), List.mem_of_getElem? (i := 793) (by decide +kernel), List.mem_of_getElem? (i := 794) (by decide +kernel)⟩
theorem lw_p33 : lw_okq (⟨"UnbeatenHouse$Gatherer", "putLosses", "(LUnbeatenHouse$Tale;I)V"⟩, 3) := ⟨⟨by decide +kernel, by decide +kernel⟩, List.mem_of_getElem? (i := 252) (by decide +kernel), List.mem_of_getElem? (i := 797) (by decide +kernel), List.mem_of_getElem? (i := 798) (by decide +kernel)⟩
theorem lw_p34 : lw_okq (⟨"UnbeatenHouse$Gatherer", "goAlong", "(LUnbeatenHouse$Tale;II)V"⟩, 3) := ⟨⟨by decide +kernel, by decide +kernel⟩, List.mem_of_getElem? (i := 252) (by decide +kernel), List.mem_of_getElem? (i := 807) (by decide +kernel), List.mem_of_getElem? (i := 808) (by decide +kernel)⟩
theorem lw_p35 : lw_okq (⟨"UnbeatenHouse$Pool", "sort", "()V"⟩, 5) := ⟨⟨by decide +kernel, by decide +kernel⟩, List.mem_of_getElem? (i := 229) (by decide +kernel), List.mem_of_getElem? (i := 816) (by decide +kernel), List.mem_of_getElem? (i := 817) (by decide +kernel)⟩
theorem lw_p36 : lw_okq (⟨"UnbeatenHouse$Pool", "sink", "(II)V"⟩, 5) := ⟨⟨by decide +kernel, by decide +kernel⟩, List.mem_of_getElem? (i := 229) (by decide +kernel), List.mem_of_getElem? (i := 820) (by decide +kernel), List.mem_of_getElem? (i := 821) (by decide +kernel)⟩
theorem lw_p37 : lw_okq (⟨"UnbeatenHouse$Pool", "isAhead", "(II)Z"⟩, 5) := ⟨⟨by decide +kernel, by decide +kernel⟩, List.mem_of_getElem? (i := 229) (by decide +kernel), List.mem_of_getElem? (i := 824) (by decide +kernel), List.mem_of_getElem? (i := 825) (by decide +kernel)⟩
theorem lw_p38 : lw_okq (⟨"UnbeatenHouse$Pool", "swap", "(II)V"⟩, 5) := ⟨⟨by decide +kernel, by decide +kernel⟩, List.mem_of_getElem? (i := 229) (by decide +kernel), List.mem_of_getElem? (i := 828) (by decide +kernel), List.mem_of_getElem? (i := 829) (by decide +kernel)⟩
theorem lw_p39 : lw_okq (⟨"UnbeatenHouse", "takeSets", "()I"⟩, 16) := ⟨⟨by decide +kernel, by decide +kernel⟩, List.mem_of_getElem? (i := 23) (by decide +kernel), List.mem_of_getElem? (i := 844) (by decide +kernel), List.mem_of_getElem? (i := 845) (by decide +kernel)⟩
theorem lw_p40 : lw_okq (⟨"UnbeatenHouse$Gatherer", "addUp", "(LUnbeatenHouse$Tale;I)V"⟩, 3) := ⟨⟨by decide +kernel, by decide +kernel⟩, List.mem_of_getElem? (i := 252) (by decide +kernel), List.mem_of_getElem? (i := 852) (by decide +kernel), List.mem_of_getElem? (i := 853) (by decide +kernel)⟩
theorem lw_p41 : lw_okq (⟨"UnbeatenHouse$Judge", "work", "(III[I)V"⟩, 2) := ⟨⟨by decide +kernel, by decide +kernel⟩, List.mem_of_getElem? (i := 258) (by decide +kernel), List.mem_of_getElem? (i := 860) (by decide +kernel), List.mem_of_getElem? (i := 861) (by decide +kernel)⟩
theorem lw_p42 : lw_okq (⟨"UnbeatenHouse$Judge", "push", "(I)V"⟩, 2) := ⟨⟨by decide +kernel, by decide +kernel⟩, List.mem_of_getElem? (i := 258) (by decide +kernel), List.mem_of_getElem? (i := 864) (by decide +kernel), List.mem_of_getElem? (i := 865) (by decide +kernel)⟩
theorem lw_p43 : lw_okq (⟨"UnbeatenHouse$Judge", "pop", "()I"⟩, 2) := ⟨⟨by decide +kernel, by decide +kernel⟩, List.mem_of_getElem? (i := 258) (by decide +kernel), List.mem_of_getElem? (i := 874) (by decide +kernel), List.mem_of_getElem? (i := 875) (by decide +kernel)⟩
theorem lw_p44 : lw_okq (⟨"UnbeatenHouse$Picker", "measure", "(LUnbeatenHouse$Front;I)V"⟩, 5) := ⟨⟨by decide +kernel, by decide +kernel⟩, List.mem_of_getElem? (i := 308) (by decide +kernel), List.mem_of_getElem? (i := 956) (by decide +kernel), List.mem_of_getElem? (i := 957) (by decide +kernel)⟩
theorem lw_p45 : lw_okq (⟨"UnbeatenHouse$Picker", "pickOf", "(III)I"⟩, 5) := ⟨⟨by decide +kernel, by decide +kernel⟩, List.mem_of_getElem? (i := 308) (by decide +kernel), List.mem_of_getElem? (i := 966) (by decide +kernel), List.mem_of_getElem? (i := 967) (by decide +kernel)⟩
theorem lw_p46 : lw_okq (⟨"UnbeatenHouse$Picker", "farthest", "(II)I"⟩, 5) := ⟨⟨by decide +kernel, by decide +kernel⟩, List.mem_of_getElem? (i := 308) (by decide +kernel), List.mem_of_getElem? (i := 970) (by decide +kernel), List.mem_of_getElem? (i := 971) (by decide +kernel)⟩
theorem lw_p47 : lw_okq (⟨"UnbeatenHouse$Picker", "moveOn", "(I)Z"⟩, 5) := ⟨⟨by decide +kernel, by decide +kernel⟩, List.mem_of_getElem? (i := 308) (by decide +kernel), List.mem_of_getElem? (i := 976) (by decide +kernel), List.mem_of_getElem? (i := 977) (by decide +kernel)⟩
def lw_privs_3 : List (MethodName × Nat) := [(⟨"UnbeatenHouse$Gatherer", "walk", "(LUnbeatenHouse$Tale;LUnbeatenHouse$Pool;IIIIJ)V"⟩, 3), (⟨"UnbeatenHouse$Gatherer", "putLosses", "(LUnbeatenHouse$Tale;I)V"⟩, 3), (⟨"UnbeatenHouse$Gatherer", "goAlong", "(LUnbeatenHouse$Tale;II)V"⟩, 3), (⟨"UnbeatenHouse$Pool", "sort", "()V"⟩, 5), (⟨"UnbeatenHouse$Pool", "sink", "(II)V"⟩, 5), (⟨"UnbeatenHouse$Pool", "isAhead", "(II)Z"⟩, 5), (⟨"UnbeatenHouse$Pool", "swap", "(II)V"⟩, 5), (⟨"UnbeatenHouse", "takeSets", "()I"⟩, 16), (⟨"UnbeatenHouse$Gatherer", "addUp", "(LUnbeatenHouse$Tale;I)V"⟩, 3), (⟨"UnbeatenHouse$Judge", "work", "(III[I)V"⟩, 2), (⟨"UnbeatenHouse$Judge", "push", "(I)V"⟩, 2), (⟨"UnbeatenHouse$Judge", "pop", "()I"⟩, 2), (⟨"UnbeatenHouse$Picker", "measure", "(LUnbeatenHouse$Front;I)V"⟩, 5), (⟨"UnbeatenHouse$Picker", "pickOf", "(III)I"⟩, 5), (⟨"UnbeatenHouse$Picker", "farthest", "(II)I"⟩, 5), (⟨"UnbeatenHouse$Picker", "moveOn", "(I)Z"⟩, 5)]
theorem lw_r3 : ∀ q ∈ lw_privs_3, lw_okq q := List.forall_mem_cons.mpr ⟨lw_p32, List.forall_mem_cons.mpr ⟨lw_p33, List.forall_mem_cons.mpr ⟨lw_p34, List.forall_mem_cons.mpr ⟨lw_p35, List.forall_mem_cons.mpr ⟨lw_p36, List.forall_mem_cons.mpr ⟨lw_p37, List.forall_mem_cons.mpr ⟨lw_p38, List.forall_mem_cons.mpr ⟨lw_p39, List.forall_mem_cons.mpr ⟨lw_p40, List.forall_mem_cons.mpr ⟨lw_p41, List.forall_mem_cons.mpr ⟨lw_p42, List.forall_mem_cons.mpr ⟨lw_p43, List.forall_mem_cons.mpr ⟨lw_p44, List.forall_mem_cons.mpr ⟨lw_p45, List.forall_mem_cons.mpr ⟨lw_p46, List.forall_mem_cons.mpr ⟨lw_p47, fun _ h => absurd h List.not_mem_nil⟩⟩⟩⟩⟩⟩⟩⟩⟩⟩⟩⟩⟩⟩⟩⟩
theorem lw_p48 : lw_okq (⟨"UnbeatenHouse$Sayings", "isSayingAgreed", "(IILUnbeatenHouse$Weighings;LUnbeatenHouse$Rows;)Z"⟩, 8) := ⟨⟨by decide +kernel, by decide +kernel⟩, List.mem_of_getElem? (i := 355) (by decide +kernel), List.mem_of_getElem? (i := 1031) (by decide +kernel), List.mem_of_getElem? (i := 1032) (by decide +kernel)⟩
theorem lw_p49 : lw_okq (⟨"UnbeatenHouse$Sayings", "noteFirst", "(JLUnbeatenHouse$Rows;)V"⟩, 8) := ⟨⟨by decide +kernel, by decide +kernel⟩, List.mem_of_getElem? (i := 355) (by decide +kernel), List.mem_of_getElem? (i := 1058) (by decide +kernel), List.mem_of_getElem? (i := 1059) (by decide +kernel)⟩
theorem lw_p50 : lw_okq (⟨"UnbeatenHouse$Sayings", "tryQuestion", "(II)V"⟩, 8) := ⟨⟨by decide +kernel, by decide +kernel⟩, List.mem_of_getElem? (i := 355) (by decide +kernel), List.mem_of_getElem? (i := 1063) (by decide +kernel), List.mem_of_getElem? (i := 1064) (by decide +kernel)⟩
theorem lw_p51 : lw_okq (⟨"UnbeatenHouse$Sayings", "agreedSayings", "(ILUnbeatenHouse$Weighings;LUnbeatenHouse$Rows;)I"⟩, 8) := ⟨⟨by decide +kernel, by decide +kernel⟩, List.mem_of_getElem? (i := 355) (by decide +kernel), List.mem_of_getElem? (i := 1077) (by decide +kernel), List.mem_of_getElem? (i := 1078) (by decide +kernel)⟩
theorem lw_p52 : lw_okq (⟨"UnbeatenHouse$Sayings", "spreadToParts", "(I)V"⟩, 8) := ⟨⟨by decide +kernel, by decide +kernel⟩, List.mem_of_getElem? (i := 355) (by decide +kernel), List.mem_of_getElem? (i := 1081) (by decide +kernel), List.mem_of_getElem? (i := 1082) (by decide +kernel)⟩
theorem lw_p53 : lw_okq (⟨"UnbeatenHouse$People", "weighAll", "(ILUnbeatenHouse$Rows;)V"⟩, 6) := ⟨⟨by decide +kernel, by decide +kernel⟩, List.mem_of_getElem? (i := 390) (by decide +kernel), List.mem_of_getElem? (i := 1123) (by decide +kernel), List.mem_of_getElem? (i := 1124) (by decide +kernel)⟩
theorem lw_p54 : lw_okq (⟨"UnbeatenHouse$People", "pickAheadOfAll", "(J)I"⟩, 6) := ⟨⟨by decide +kernel, by decide +kernel⟩, List.mem_of_getElem? (i := 390) (by decide +kernel), List.mem_of_getElem? (i := 1131) (by decide +kernel), List.mem_of_getElem? (i := 1132) (by decide +kernel)⟩
theorem lw_p55 : lw_okq (⟨"UnbeatenHouse$People", "isAheadForMost", "(II)Z"⟩, 6) := ⟨⟨by decide +kernel, by decide +kernel⟩, List.mem_of_getElem? (i := 390) (by decide +kernel), List.mem_of_getElem? (i := 1136) (by decide +kernel), List.mem_of_getElem? (i := 1137) (by decide +kernel)⟩
theorem lw_p56 : lw_okq (⟨"UnbeatenHouse$People", "isAhead", "(III)Z"⟩, 6) := ⟨⟨by decide +kernel, by decide +kernel⟩, List.mem_of_getElem? (i := 390) (by decide +kernel), List.mem_of_getElem? (i := 1140) (by decide +kernel), List.mem_of_getElem? (i := 1141) (by decide +kernel)⟩
theorem lw_p57 : lw_okq (⟨"UnbeatenHouse$People", "blameOf", "(IIJ)I"⟩, 6) := ⟨⟨by decide +kernel, by decide +kernel⟩, List.mem_of_getElem? (i := 390) (by decide +kernel), List.mem_of_getElem? (i := 1144) (by decide +kernel), List.mem_of_getElem? (i := 1145) (by decide +kernel)⟩
theorem lw_p58 : lw_okq (⟨"UnbeatenHouse$People", "isBehindAll", "(I)Z"⟩, 6) := ⟨⟨by decide +kernel, by decide +kernel⟩, List.mem_of_getElem? (i := 390) (by decide +kernel), List.mem_of_getElem? (i := 1162) (by decide +kernel), List.mem_of_getElem? (i := 1163) (by decide +kernel)⟩
theorem lw_p59 : lw_okq (⟨"UnbeatenHouse$People", "everFirst", "()J"⟩, 6) := ⟨⟨by decide +kernel, by decide +kernel⟩, List.mem_of_getElem? (i := 390) (by decide +kernel), List.mem_of_getElem? (i := 1166) (by decide +kernel), List.mem_of_getElem? (i := 1167) (by decide +kernel)⟩
theorem lw_p60 : lw_okq (⟨"UnbeatenHouseModel", "put", "(I)V"⟩, 77) := ⟨⟨by decide +kernel, by decide +kernel⟩, List.mem_of_getElem? (i := 1175) (by decide +kernel), List.mem_of_getElem? (i := 1419) (by decide +kernel), List.mem_of_getElem? (i := 1420) (by decide +kernel)⟩
theorem lw_p61 : lw_okq (⟨"UnbeatenHouseModel", "next", "()V"⟩, 77) := ⟨⟨by decide +kernel, by decide +kernel⟩, List.mem_of_getElem? (i := 1175) (by decide +kernel), List.mem_of_getElem? (i := 1431) (by decide +kernel), List.mem_of_getElem? (i := 1432) (by decide +kernel)⟩
theorem lw_p62 : lw_okq (⟨"UnbeatenHouseModel", "blame", "(II)V"⟩, 77) := ⟨⟨by decide +kernel, by decide +kernel⟩, List.mem_of_getElem? (i := 1175) (by decide +kernel), List.mem_of_getElem? (i := 1441) (by decide +kernel), List.mem_of_getElem? (i := 1442) (by decide +kernel)⟩
theorem lw_p63 : lw_okq (⟨"UnbeatenHouseModel", "statement", "()V"⟩, 77) := ⟨⟨by decide +kernel, by decide +kernel⟩, List.mem_of_getElem? (i := 1175) (by decide +kernel), List.mem_of_getElem? (i := 1445) (by decide +kernel), List.mem_of_getElem? (i := 1446) (by decide +kernel)⟩
def lw_privs_4 : List (MethodName × Nat) := [(⟨"UnbeatenHouse$Sayings", "isSayingAgreed", "(IILUnbeatenHouse$Weighings;LUnbeatenHouse$Rows;)Z"⟩, 8), (⟨"UnbeatenHouse$Sayings", "noteFirst", "(JLUnbeatenHouse$Rows;)V"⟩, 8), (⟨"UnbeatenHouse$Sayings", "tryQuestion", "(II)V"⟩, 8), (⟨"UnbeatenHouse$Sayings", "agreedSayings", "(ILUnbeatenHouse$Weighings;LUnbeatenHouse$Rows;)I"⟩, 8), (⟨"UnbeatenHouse$Sayings", "spreadToParts", "(I)V"⟩, 8), (⟨"UnbeatenHouse$People", "weighAll", "(ILUnbeatenHouse$Rows;)V"⟩, 6), (⟨"UnbeatenHouse$People", "pickAheadOfAll", "(J)I"⟩, 6), (⟨"UnbeatenHouse$People", "isAheadForMost", "(II)Z"⟩, 6), (⟨"UnbeatenHouse$People", "isAhead", "(III)Z"⟩, 6), (⟨"UnbeatenHouse$People", "blameOf", "(IIJ)I"⟩, 6), (⟨"UnbeatenHouse$People", "isBehindAll", "(I)Z"⟩, 6), (⟨"UnbeatenHouse$People", "everFirst", "()J"⟩, 6), (⟨"UnbeatenHouseModel", "put", "(I)V"⟩, 77), (⟨"UnbeatenHouseModel", "next", "()V"⟩, 77), (⟨"UnbeatenHouseModel", "blame", "(II)V"⟩, 77), (⟨"UnbeatenHouseModel", "statement", "()V"⟩, 77)]
theorem lw_r4 : ∀ q ∈ lw_privs_4, lw_okq q := List.forall_mem_cons.mpr ⟨lw_p48, List.forall_mem_cons.mpr ⟨lw_p49, List.forall_mem_cons.mpr ⟨lw_p50, List.forall_mem_cons.mpr ⟨lw_p51, List.forall_mem_cons.mpr ⟨lw_p52, List.forall_mem_cons.mpr ⟨lw_p53, List.forall_mem_cons.mpr ⟨lw_p54, List.forall_mem_cons.mpr ⟨lw_p55, List.forall_mem_cons.mpr ⟨lw_p56, List.forall_mem_cons.mpr ⟨lw_p57, List.forall_mem_cons.mpr ⟨lw_p58, List.forall_mem_cons.mpr ⟨lw_p59, List.forall_mem_cons.mpr ⟨lw_p60, List.forall_mem_cons.mpr ⟨lw_p61, List.forall_mem_cons.mpr ⟨lw_p62, List.forall_mem_cons.mpr ⟨lw_p63, fun _ h => absurd h List.not_mem_nil⟩⟩⟩⟩⟩⟩⟩⟩⟩⟩⟩⟩⟩⟩⟩⟩
theorem lw_p64 : lw_okq (⟨"UnbeatenHouseModel", "isWord", "(J)Z"⟩, 77) := ⟨⟨by decide +kernel, by decide +kernel⟩, List.mem_of_getElem? (i := 1175) (by decide +kernel), List.mem_of_getElem? (i := 1450) (by decide +kernel), List.mem_of_getElem? (i := 1451) (by decide +kernel)⟩
theorem lw_p65 : lw_okq (⟨"UnbeatenHouseModel", "wish", "()V"⟩, 77) := ⟨⟨by decide +kernel, by decide +kernel⟩, List.mem_of_getElem? (i := 1175) (by decide +kernel), List.mem_of_getElem? (i := 1454) (by decide +kernel), List.mem_of_getElem? (i := 1455) (by decide +kernel)⟩
theorem lw_p66 : lw_okq (⟨"UnbeatenHouseModel", "counts", "(ZZ)V"⟩, 77) := ⟨⟨by decide +kernel, by decide +kernel⟩, List.mem_of_getElem? (i := 1175) (by decide +kernel), List.mem_of_getElem? (i := 1458) (by decide +kernel), List.mem_of_getElem? (i := 1459) (by decide +kernel)⟩
theorem lw_p67 : lw_okq (⟨"UnbeatenHouseModel", "fresh", "()J"⟩, 77) := ⟨⟨by decide +kernel, by decide +kernel⟩, List.mem_of_getElem? (i := 1175) (by decide +kernel), List.mem_of_getElem? (i := 1462) (by decide +kernel), List.mem_of_getElem? (i := 1463) (by decide +kernel)⟩
theorem lw_p68 : lw_okq (⟨"UnbeatenHouseModel", "isOwn", "(J)Z"⟩, 77) := ⟨⟨by decide +kernel, by decide +kernel⟩, List.mem_of_getElem? (i := 1175) (by decide +kernel), List.mem_of_getElem? (i := 1466) (by decide +kernel), List.mem_of_getElem? (i := 1467) (by decide +kernel)⟩
theorem lw_p69 : lw_okq (⟨"UnbeatenHouseModel", "isName", "(J)Z"⟩, 77) := ⟨⟨by decide +kernel, by decide +kernel⟩, List.mem_of_getElem? (i := 1175) (by decide +kernel), List.mem_of_getElem? (i := 1486) (by decide +kernel), List.mem_of_getElem? (i := 1487) (by decide +kernel)⟩
theorem lw_p70 : lw_okq (⟨"UnbeatenHouseModel", "wishOf", "(IJ)I"⟩, 77) := ⟨⟨by decide +kernel, by decide +kernel⟩, List.mem_of_getElem? (i := 1175) (by decide +kernel), List.mem_of_getElem? (i := 1490) (by decide +kernel), List.mem_of_getElem? (i := 1491) (by decide +kernel)⟩
theorem lw_p71 : lw_okq (⟨"UnbeatenHouseModel", "knotOf", "(IJ)I"⟩, 77) := ⟨⟨by decide +kernel, by decide +kernel⟩, List.mem_of_getElem? (i := 1175) (by decide +kernel), List.mem_of_getElem? (i := 1494) (by decide +kernel), List.mem_of_getElem? (i := 1495) (by decide +kernel)⟩
theorem lw_p72 : lw_okq (⟨"UnbeatenHouseModel", "thingOf", "(IJ)I"⟩, 77) := ⟨⟨by decide +kernel, by decide +kernel⟩, List.mem_of_getElem? (i := 1175) (by decide +kernel), List.mem_of_getElem? (i := 1498) (by decide +kernel), List.mem_of_getElem? (i := 1499) (by decide +kernel)⟩
theorem lw_p73 : lw_okq (⟨"UnbeatenHouseModel", "row", "()V"⟩, 77) := ⟨⟨by decide +kernel, by decide +kernel⟩, List.mem_of_getElem? (i := 1175) (by decide +kernel), List.mem_of_getElem? (i := 1502) (by decide +kernel), List.mem_of_getElem? (i := 1503) (by decide +kernel)⟩
theorem lw_p74 : lw_okq (⟨"UnbeatenHouseModel", "isSign", "(I)Z"⟩, 77) := ⟨⟨by decide +kernel, by decide +kernel⟩, List.mem_of_getElem? (i := 1175) (by decide +kernel), List.mem_of_getElem? (i := 1506) (by decide +kernel), List.mem_of_getElem? (i := 1507) (by decide +kernel)⟩
theorem lw_p75 : lw_okq (⟨"UnbeatenHouseModel", "number", "()I"⟩, 77) := ⟨⟨by decide +kernel, by decide +kernel⟩, List.mem_of_getElem? (i := 1175) (by decide +kernel), List.mem_of_getElem? (i := 1510) (by decide +kernel), List.mem_of_getElem? (i := 1511) (by decide +kernel)⟩
theorem lw_p76 : lw_okq (⟨"UnbeatenHouseModel", "tie", "()V"⟩, 77) := ⟨⟨by decide +kernel, by decide +kernel⟩, List.mem_of_getElem? (i := 1175) (by decide +kernel), List.mem_of_getElem? (i := 1514) (by decide +kernel), List.mem_of_getElem? (i := 1515) (by decide +kernel)⟩
theorem lw_p77 : lw_okq (⟨"UnbeatenHouseModel", "knotRead", "(I)I"⟩, 77) := ⟨⟨by decide +kernel, by decide +kernel⟩, List.mem_of_getElem? (i := 1175) (by decide +kernel), List.mem_of_getElem? (i := 1518) (by decide +kernel), List.mem_of_getElem? (i := 1519) (by decide +kernel)⟩
theorem lw_p78 : lw_okq (⟨"UnbeatenHouseModel", "thing", "()V"⟩, 77) := ⟨⟨by decide +kernel, by decide +kernel⟩, List.mem_of_getElem? (i := 1175) (by decide +kernel), List.mem_of_getElem? (i := 1522) (by decide +kernel), List.mem_of_getElem? (i := 1523) (by decide +kernel)⟩
theorem lw_p79 : lw_okq (⟨"UnbeatenHouseModel", "readsTest", "()V"⟩, 77) := ⟨⟨by decide +kernel, by decide +kernel⟩, List.mem_of_getElem? (i := 1175) (by decide +kernel), List.mem_of_getElem? (i := 1526) (by decide +kernel), List.mem_of_getElem? (i := 1527) (by decide +kernel)⟩
def lw_privs_5 : List (MethodName × Nat) := [(⟨"UnbeatenHouseModel", "isWord", "(J)Z"⟩, 77), (⟨"UnbeatenHouseModel", "wish", "()V"⟩, 77), (⟨"UnbeatenHouseModel", "counts", "(ZZ)V"⟩, 77), (⟨"UnbeatenHouseModel", "fresh", "()J"⟩, 77), (⟨"UnbeatenHouseModel", "isOwn", "(J)Z"⟩, 77), (⟨"UnbeatenHouseModel", "isName", "(J)Z"⟩, 77), (⟨"UnbeatenHouseModel", "wishOf", "(IJ)I"⟩, 77), (⟨"UnbeatenHouseModel", "knotOf", "(IJ)I"⟩, 77), (⟨"UnbeatenHouseModel", "thingOf", "(IJ)I"⟩, 77), (⟨"UnbeatenHouseModel", "row", "()V"⟩, 77), (⟨"UnbeatenHouseModel", "isSign", "(I)Z"⟩, 77), (⟨"UnbeatenHouseModel", "number", "()I"⟩, 77), (⟨"UnbeatenHouseModel", "tie", "()V"⟩, 77), (⟨"UnbeatenHouseModel", "knotRead", "(I)I"⟩, 77), (⟨"UnbeatenHouseModel", "thing", "()V"⟩, 77), (⟨"UnbeatenHouseModel", "readsTest", "()V"⟩, 77)]
theorem lw_r5 : ∀ q ∈ lw_privs_5, lw_okq q := List.forall_mem_cons.mpr ⟨lw_p64, List.forall_mem_cons.mpr ⟨lw_p65, List.forall_mem_cons.mpr ⟨lw_p66, List.forall_mem_cons.mpr ⟨lw_p67, List.forall_mem_cons.mpr ⟨lw_p68, List.forall_mem_cons.mpr ⟨lw_p69, List.forall_mem_cons.mpr ⟨lw_p70, List.forall_mem_cons.mpr ⟨lw_p71, List.forall_mem_cons.mpr ⟨lw_p72, List.forall_mem_cons.mpr ⟨lw_p73, List.forall_mem_cons.mpr ⟨lw_p74, List.forall_mem_cons.mpr ⟨lw_p75, List.forall_mem_cons.mpr ⟨lw_p76, List.forall_mem_cons.mpr ⟨lw_p77, List.forall_mem_cons.mpr ⟨lw_p78, List.forall_mem_cons.mpr ⟨lw_p79, fun _ h => absurd h List.not_mem_nil⟩⟩⟩⟩⟩⟩⟩⟩⟩⟩⟩⟩⟩⟩⟩⟩
theorem lw_p80 : lw_okq (⟨"UnbeatenHouseModel", "pushes", "(I)V"⟩, 77) := ⟨⟨by decide +kernel, by decide +kernel⟩, List.mem_of_getElem? (i := 1175) (by decide +kernel), List.mem_of_getElem? (i := 1530) (by decide +kernel), List.mem_of_getElem? (i := 1531) (by decide +kernel)⟩
theorem lw_p81 : lw_okq (⟨"UnbeatenHouseModel", "part", "()Z"⟩, 77) := ⟨⟨by decide +kernel, by decide +kernel⟩, List.mem_of_getElem? (i := 1175) (by decide +kernel), List.mem_of_getElem? (i := 1534) (by decide +kernel), List.mem_of_getElem? (i := 1535) (by decide +kernel)⟩
theorem lw_p82 : lw_okq (⟨"UnbeatenHouseModel", "holdsBack", "(I)V"⟩, 77) := ⟨⟨by decide +kernel, by decide +kernel⟩, List.mem_of_getElem? (i := 1175) (by decide +kernel), List.mem_of_getElem? (i := 1541) (by decide +kernel), List.mem_of_getElem? (i := 1542) (by decide +kernel)⟩
theorem lw_p83 : lw_okq (⟨"UnbeatenHouseModel", "opens", "(I)V"⟩, 77) := ⟨⟨by decide +kernel, by decide +kernel⟩, List.mem_of_getElem? (i := 1175) (by decide +kernel), List.mem_of_getElem? (i := 1545) (by decide +kernel), List.mem_of_getElem? (i := 1546) (by decide +kernel)⟩
theorem lw_p84 : lw_okq (⟨"UnbeatenHouseModel", "add", "(II)V"⟩, 77) := ⟨⟨by decide +kernel, by decide +kernel⟩, List.mem_of_getElem? (i := 1175) (by decide +kernel), List.mem_of_getElem? (i := 1549) (by decide +kernel), List.mem_of_getElem? (i := 1550) (by decide +kernel)⟩
theorem lw_p85 : lw_okq (⟨"UnbeatenHouseModel", "named", "(I)V"⟩, 77) := ⟨⟨by decide +kernel, by decide +kernel⟩, List.mem_of_getElem? (i := 1175) (by decide +kernel), List.mem_of_getElem? (i := 1553) (by decide +kernel), List.mem_of_getElem? (i := 1554) (by decide +kernel)⟩
theorem lw_p86 : lw_okq (⟨"UnbeatenHouseModel", "goesOn", "()Z"⟩, 77) := ⟨⟨by decide +kernel, by decide +kernel⟩, List.mem_of_getElem? (i := 1175) (by decide +kernel), List.mem_of_getElem? (i := 1557) (by decide +kernel), List.mem_of_getElem? (i := 1558) (by decide +kernel)⟩
theorem lw_p87 : lw_okq (⟨"UnbeatenHouseModel", "joins", "(I)V"⟩, 77) := ⟨⟨by decide +kernel, by decide +kernel⟩, List.mem_of_getElem? (i := 1175) (by decide +kernel), List.mem_of_getElem? (i := 1561) (by decide +kernel), List.mem_of_getElem? (i := 1562) (by decide +kernel)⟩
theorem lw_p88 : lw_okq (⟨"UnbeatenHouseModel", "must", "(I)V"⟩, 77) := ⟨⟨by decide +kernel, by decide +kernel⟩, List.mem_of_getElem? (i := 1175) (by decide +kernel), List.mem_of_getElem? (i := 1568) (by decide +kernel), List.mem_of_getElem? (i := 1569) (by decide +kernel)⟩
theorem lw_p89 : lw_okq (⟨"UnbeatenHouseModel", "isWish", "(I)Z"⟩, 77) := ⟨⟨by decide +kernel, by decide +kernel⟩, List.mem_of_getElem? (i := 1175) (by decide +kernel), List.mem_of_getElem? (i := 1584) (by decide +kernel), List.mem_of_getElem? (i := 1585) (by decide +kernel)⟩
theorem lw_p90 : lw_okq (⟨"UnbeatenHouseModel", "isRow", "(I)Z"⟩, 77) := ⟨⟨by decide +kernel, by decide +kernel⟩, List.mem_of_getElem? (i := 1175) (by decide +kernel), List.mem_of_getElem? (i := 1595) (by decide +kernel), List.mem_of_getElem? (i := 1596) (by decide +kernel)⟩
theorem lw_p91 : lw_okq (⟨"UnbeatenHouseModel", "rowAt", "(II)I"⟩, 77) := ⟨⟨by decide +kernel, by decide +kernel⟩, List.mem_of_getElem? (i := 1175) (by decide +kernel), List.mem_of_getElem? (i := 1603) (by decide +kernel), List.mem_of_getElem? (i := 1604) (by decide +kernel)⟩
theorem lw_p92 : lw_okq (⟨"UnbeatenHouseModel", "doesBeat", "(II)Z"⟩, 77) := ⟨⟨by decide +kernel, by decide +kernel⟩, List.mem_of_getElem? (i := 1175) (by decide +kernel), List.mem_of_getElem? (i := 1611) (by decide +kernel), List.mem_of_getElem? (i := 1612) (by decide +kernel)⟩
theorem lw_p93 : lw_okq (⟨"UnbeatenHouseModel", "isAside", "(I)Z"⟩, 77) := ⟨⟨by decide +kernel, by decide +kernel⟩, List.mem_of_getElem? (i := 1175) (by decide +kernel), List.mem_of_getElem? (i := 1615) (by decide +kernel), List.mem_of_getElem? (i := 1616) (by decide +kernel)⟩
theorem lw_p94 : lw_okq (⟨"UnbeatenHouseModel", "rowLoss", "(II)I"⟩, 77) := ⟨⟨by decide +kernel, by decide +kernel⟩, List.mem_of_getElem? (i := 1175) (by decide +kernel), List.mem_of_getElem? (i := 1619) (by decide +kernel), List.mem_of_getElem? (i := 1620) (by decide +kernel)⟩
theorem lw_p95 : lw_okq (⟨"UnbeatenHouseModel", "lossOf", "(II)I"⟩, 77) := ⟨⟨by decide +kernel, by decide +kernel⟩, List.mem_of_getElem? (i := 1175) (by decide +kernel), List.mem_of_getElem? (i := 1623) (by decide +kernel), List.mem_of_getElem? (i := 1624) (by decide +kernel)⟩
def lw_privs_6 : List (MethodName × Nat) := [(⟨"UnbeatenHouseModel", "pushes", "(I)V"⟩, 77), (⟨"UnbeatenHouseModel", "part", "()Z"⟩, 77), (⟨"UnbeatenHouseModel", "holdsBack", "(I)V"⟩, 77), (⟨"UnbeatenHouseModel", "opens", "(I)V"⟩, 77), (⟨"UnbeatenHouseModel", "add", "(II)V"⟩, 77), (⟨"UnbeatenHouseModel", "named", "(I)V"⟩, 77), (⟨"UnbeatenHouseModel", "goesOn", "()Z"⟩, 77), (⟨"UnbeatenHouseModel", "joins", "(I)V"⟩, 77), (⟨"UnbeatenHouseModel", "must", "(I)V"⟩, 77), (⟨"UnbeatenHouseModel", "isWish", "(I)Z"⟩, 77), (⟨"UnbeatenHouseModel", "isRow", "(I)Z"⟩, 77), (⟨"UnbeatenHouseModel", "rowAt", "(II)I"⟩, 77), (⟨"UnbeatenHouseModel", "doesBeat", "(II)Z"⟩, 77), (⟨"UnbeatenHouseModel", "isAside", "(I)Z"⟩, 77), (⟨"UnbeatenHouseModel", "rowLoss", "(II)I"⟩, 77), (⟨"UnbeatenHouseModel", "lossOf", "(II)I"⟩, 77)]
theorem lw_r6 : ∀ q ∈ lw_privs_6, lw_okq q := List.forall_mem_cons.mpr ⟨lw_p80, List.forall_mem_cons.mpr ⟨lw_p81, List.forall_mem_cons.mpr ⟨lw_p82, List.forall_mem_cons.mpr ⟨lw_p83, List.forall_mem_cons.mpr ⟨lw_p84, List.forall_mem_cons.mpr ⟨lw_p85, List.forall_mem_cons.mpr ⟨lw_p86, List.forall_mem_cons.mpr ⟨lw_p87, List.forall_mem_cons.mpr ⟨lw_p88, List.forall_mem_cons.mpr ⟨lw_p89, List.forall_mem_cons.mpr ⟨lw_p90, List.forall_mem_cons.mpr ⟨lw_p91, List.forall_mem_cons.mpr ⟨lw_p92, List.forall_mem_cons.mpr ⟨lw_p93, List.forall_mem_cons.mpr ⟨lw_p94, List.forall_mem_cons.mpr ⟨lw_p95, fun _ h => absurd h List.not_mem_nil⟩⟩⟩⟩⟩⟩⟩⟩⟩⟩⟩⟩⟩⟩⟩⟩
theorem lw_p96 : lw_okq (⟨"UnbeatenHouseModel", "rowFront", "()J"⟩, 77) := ⟨⟨by decide +kernel, by decide +kernel⟩, List.mem_of_getElem? (i := 1175) (by decide +kernel), List.mem_of_getElem? (i := 1631) (by decide +kernel), List.mem_of_getElem? (i := 1632) (by decide +kernel)⟩
theorem lw_p97 : lw_okq (⟨"UnbeatenHouseModel", "mayBeat", "(II)I"⟩, 77) := ⟨⟨by decide +kernel, by decide +kernel⟩, List.mem_of_getElem? (i := 1175) (by decide +kernel), List.mem_of_getElem? (i := 1655) (by decide +kernel), List.mem_of_getElem? (i := 1656) (by decide +kernel)⟩
theorem lw_p98 : lw_okq (⟨"UnbeatenHouseModel", "mostLoss", "(II)I"⟩, 77) := ⟨⟨by decide +kernel, by decide +kernel⟩, List.mem_of_getElem? (i := 1175) (by decide +kernel), List.mem_of_getElem? (i := 1659) (by decide +kernel), List.mem_of_getElem? (i := 1660) (by decide +kernel)⟩
theorem lw_p99 : lw_okq (⟨"UnbeatenHouseModel", "leastLoss", "(II)I"⟩, 77) := ⟨⟨by decide +kernel, by decide +kernel⟩, List.mem_of_getElem? (i := 1175) (by decide +kernel), List.mem_of_getElem? (i := 1663) (by decide +kernel), List.mem_of_getElem? (i := 1664) (by decide +kernel)⟩
theorem lw_p100 : lw_okq (⟨"UnbeatenHouseModel", "ways", "(II)V"⟩, 77) := ⟨⟨by decide +kernel, by decide +kernel⟩, List.mem_of_getElem? (i := 1175) (by decide +kernel), List.mem_of_getElem? (i := 1675) (by decide +kernel), List.mem_of_getElem? (i := 1676) (by decide +kernel)⟩
theorem lw_p101 : lw_okq (⟨"UnbeatenHouseModel", "gathers", "(I)V"⟩, 77) := ⟨⟨by decide +kernel, by decide +kernel⟩, List.mem_of_getElem? (i := 1175) (by decide +kernel), List.mem_of_getElem? (i := 1679) (by decide +kernel), List.mem_of_getElem? (i := 1680) (by decide +kernel)⟩
theorem lw_p102 : lw_okq (⟨"UnbeatenHouseModel", "isLost", "(I)Z"⟩, 77) := ⟨⟨by decide +kernel, by decide +kernel⟩, List.mem_of_getElem? (i := 1175) (by decide +kernel), List.mem_of_getElem? (i := 1683) (by decide +kernel), List.mem_of_getElem? (i := 1684) (by decide +kernel)⟩
theorem lw_p103 : lw_okq (⟨"UnbeatenHouseModel", "isWorse", "(I)Z"⟩, 77) := ⟨⟨by decide +kernel, by decide +kernel⟩, List.mem_of_getElem? (i := 1175) (by decide +kernel), List.mem_of_getElem? (i := 1687) (by decide +kernel), List.mem_of_getElem? (i := 1688) (by decide +kernel)⟩
theorem lw_p104 : lw_okq (⟨"UnbeatenHouseModel", "lays", "(II)V"⟩, 77) := ⟨⟨by decide +kernel, by decide +kernel⟩, List.mem_of_getElem? (i := 1175) (by decide +kernel), List.mem_of_getElem? (i := 1691) (by decide +kernel), List.mem_of_getElem? (i := 1692) (by decide +kernel)⟩
theorem lw_p105 : lw_okq (⟨"UnbeatenHouseModel", "sets", "()V"⟩, 77) := ⟨⟨by decide +kernel, by decide +kernel⟩, List.mem_of_getElem? (i := 1175) (by decide +kernel), List.mem_of_getElem? (i := 1695) (by decide +kernel), List.mem_of_getElem? (i := 1696) (by decide +kernel)⟩
theorem lw_p106 : lw_okq (⟨"UnbeatenHouseModel", "works", "(II)J"⟩, 77) := ⟨⟨by decide +kernel, by decide +kernel⟩, List.mem_of_getElem? (i := 1175) (by decide +kernel), List.mem_of_getElem? (i := 1699) (by decide +kernel), List.mem_of_getElem? (i := 1700) (by decide +kernel)⟩
theorem lw_p107 : lw_okq (⟨"UnbeatenHouseModel", "leaf", "(II)J"⟩, 77) := ⟨⟨by decide +kernel, by decide +kernel⟩, List.mem_of_getElem? (i := 1175) (by decide +kernel), List.mem_of_getElem? (i := 1703) (by decide +kernel), List.mem_of_getElem? (i := 1704) (by decide +kernel)⟩
theorem lw_p108 : lw_okq (⟨"UnbeatenHouseModel", "setHas", "(I)I"⟩, 77) := ⟨⟨by decide +kernel, by decide +kernel⟩, List.mem_of_getElem? (i := 1175) (by decide +kernel), List.mem_of_getElem? (i := 1707) (by decide +kernel), List.mem_of_getElem? (i := 1708) (by decide +kernel)⟩
theorem lw_p109 : lw_okq (⟨"UnbeatenHouseModel", "isAhead", "(II)Z"⟩, 77) := ⟨⟨by decide +kernel, by decide +kernel⟩, List.mem_of_getElem? (i := 1175) (by decide +kernel), List.mem_of_getElem? (i := 1722) (by decide +kernel), List.mem_of_getElem? (i := 1723) (by decide +kernel)⟩
theorem lw_p110 : lw_okq (⟨"UnbeatenHouseModel", "isFront", "(I)Z"⟩, 77) := ⟨⟨by decide +kernel, by decide +kernel⟩, List.mem_of_getElem? (i := 1175) (by decide +kernel), List.mem_of_getElem? (i := 1730) (by decide +kernel), List.mem_of_getElem? (i := 1731) (by decide +kernel)⟩
theorem lw_p111 : lw_okq (⟨"UnbeatenHouseModel", "numbers", "()I"⟩, 77) := ⟨⟨by decide +kernel, by decide +kernel⟩, List.mem_of_getElem? (i := 1175) (by decide +kernel), List.mem_of_getElem? (i := 1751) (by decide +kernel), List.mem_of_getElem? (i := 1752) (by decide +kernel)⟩
def lw_privs_7 : List (MethodName × Nat) := [(⟨"UnbeatenHouseModel", "rowFront", "()J"⟩, 77), (⟨"UnbeatenHouseModel", "mayBeat", "(II)I"⟩, 77), (⟨"UnbeatenHouseModel", "mostLoss", "(II)I"⟩, 77), (⟨"UnbeatenHouseModel", "leastLoss", "(II)I"⟩, 77), (⟨"UnbeatenHouseModel", "ways", "(II)V"⟩, 77), (⟨"UnbeatenHouseModel", "gathers", "(I)V"⟩, 77), (⟨"UnbeatenHouseModel", "isLost", "(I)Z"⟩, 77), (⟨"UnbeatenHouseModel", "isWorse", "(I)Z"⟩, 77), (⟨"UnbeatenHouseModel", "lays", "(II)V"⟩, 77), (⟨"UnbeatenHouseModel", "sets", "()V"⟩, 77), (⟨"UnbeatenHouseModel", "works", "(II)J"⟩, 77), (⟨"UnbeatenHouseModel", "leaf", "(II)J"⟩, 77), (⟨"UnbeatenHouseModel", "setHas", "(I)I"⟩, 77), (⟨"UnbeatenHouseModel", "isAhead", "(II)Z"⟩, 77), (⟨"UnbeatenHouseModel", "isFront", "(I)Z"⟩, 77), (⟨"UnbeatenHouseModel", "numbers", "()I"⟩, 77)]
theorem lw_r7 : ∀ q ∈ lw_privs_7, lw_okq q := List.forall_mem_cons.mpr ⟨lw_p96, List.forall_mem_cons.mpr ⟨lw_p97, List.forall_mem_cons.mpr ⟨lw_p98, List.forall_mem_cons.mpr ⟨lw_p99, List.forall_mem_cons.mpr ⟨lw_p100, List.forall_mem_cons.mpr ⟨lw_p101, List.forall_mem_cons.mpr ⟨lw_p102, List.forall_mem_cons.mpr ⟨lw_p103, List.forall_mem_cons.mpr ⟨lw_p104, List.forall_mem_cons.mpr ⟨lw_p105, List.forall_mem_cons.mpr ⟨lw_p106, List.forall_mem_cons.mpr ⟨lw_p107, List.forall_mem_cons.mpr ⟨lw_p108, List.forall_mem_cons.mpr ⟨lw_p109, List.forall_mem_cons.mpr ⟨lw_p110, List.forall_mem_cons.mpr ⟨lw_p111, fun _ h => absurd h List.not_mem_nil⟩⟩⟩⟩⟩⟩⟩⟩⟩⟩⟩⟩⟩⟩⟩⟩
theorem lw_p112 : lw_okq (⟨"UnbeatenHouseModel", "isWeighing", "(I)Z"⟩, 77) := ⟨⟨by decide +kernel, by decide +kernel⟩, List.mem_of_getElem? (i := 1175) (by decide +kernel), List.mem_of_getElem? (i := 1755) (by decide +kernel), List.mem_of_getElem? (i := 1756) (by decide +kernel)⟩
theorem lw_p113 : lw_okq (⟨"UnbeatenHouseModel", "isFirst", "(I)Z"⟩, 77) := ⟨⟨by decide +kernel, by decide +kernel⟩, List.mem_of_getElem? (i := 1175) (by decide +kernel), List.mem_of_getElem? (i := 1759) (by decide +kernel), List.mem_of_getElem? (i := 1760) (by decide +kernel)⟩
theorem lw_p114 : lw_okq (⟨"UnbeatenHouseModel", "worth", "(I)I"⟩, 77) := ⟨⟨by decide +kernel, by decide +kernel⟩, List.mem_of_getElem? (i := 1175) (by decide +kernel), List.mem_of_getElem? (i := 1763) (by decide +kernel), List.mem_of_getElem? (i := 1764) (by decide +kernel)⟩
theorem lw_p115 : lw_okq (⟨"UnbeatenHouseModel", "apart", "(I)I"⟩, 77) := ⟨⟨by decide +kernel, by decide +kernel⟩, List.mem_of_getElem? (i := 1175) (by decide +kernel), List.mem_of_getElem? (i := 1775) (by decide +kernel), List.mem_of_getElem? (i := 1776) (by decide +kernel)⟩
theorem lw_p116 : lw_okq (⟨"UnbeatenHouseModel", "more", "(II)I"⟩, 77) := ⟨⟨by decide +kernel, by decide +kernel⟩, List.mem_of_getElem? (i := 1175) (by decide +kernel), List.mem_of_getElem? (i := 1779) (by decide +kernel), List.mem_of_getElem? (i := 1780) (by decide +kernel)⟩
theorem lw_p117 : lw_okq (⟨"UnbeatenHouseModel", "keeps", "(I)V"⟩, 77) := ⟨⟨by decide +kernel, by decide +kernel⟩, List.mem_of_getElem? (i := 1175) (by decide +kernel), List.mem_of_getElem? (i := 1783) (by decide +kernel), List.mem_of_getElem? (i := 1784) (by decide +kernel)⟩
theorem lw_p118 : lw_okq (⟨"UnbeatenHouseModel", "nextPick", "(I)Z"⟩, 77) := ⟨⟨by decide +kernel, by decide +kernel⟩, List.mem_of_getElem? (i := 1175) (by decide +kernel), List.mem_of_getElem? (i := 1787) (by decide +kernel), List.mem_of_getElem? (i := 1788) (by decide +kernel)⟩
theorem lw_p119 : lw_okq (⟨"UnbeatenHouseModel", "agrees", "()Z"⟩, 77) := ⟨⟨by decide +kernel, by decide +kernel⟩, List.mem_of_getElem? (i := 1175) (by decide +kernel), List.mem_of_getElem? (i := 1822) (by decide +kernel), List.mem_of_getElem? (i := 1823) (by decide +kernel)⟩
theorem lw_p120 : lw_okq (⟨"UnbeatenHouseModel", "agreed", "()I"⟩, 77) := ⟨⟨by decide +kernel, by decide +kernel⟩, List.mem_of_getElem? (i := 1175) (by decide +kernel), List.mem_of_getElem? (i := 1826) (by decide +kernel), List.mem_of_getElem? (i := 1827) (by decide +kernel)⟩
theorem lw_p121 : lw_okq (⟨"UnbeatenHouseModel", "rowWorth", "(I)I"⟩, 77) := ⟨⟨by decide +kernel, by decide +kernel⟩, List.mem_of_getElem? (i := 1175) (by decide +kernel), List.mem_of_getElem? (i := 1830) (by decide +kernel), List.mem_of_getElem? (i := 1831) (by decide +kernel)⟩
theorem lw_p122 : lw_okq (⟨"UnbeatenHouseModel", "gathersAgreeing", "()V"⟩, 77) := ⟨⟨by decide +kernel, by decide +kernel⟩, List.mem_of_getElem? (i := 1175) (by decide +kernel), List.mem_of_getElem? (i := 1838) (by decide +kernel), List.mem_of_getElem? (i := 1839) (by decide +kernel)⟩
theorem lw_p123 : lw_okq (⟨"UnbeatenHouseModel", "leaves", "(II)I"⟩, 77) := ⟨⟨by decide +kernel, by decide +kernel⟩, List.mem_of_getElem? (i := 1175) (by decide +kernel), List.mem_of_getElem? (i := 1846) (by decide +kernel), List.mem_of_getElem? (i := 1847) (by decide +kernel)⟩
theorem lw_p124 : lw_okq (⟨"UnbeatenHouseModel", "isAgreed", "(II)Z"⟩, 77) := ⟨⟨by decide +kernel, by decide +kernel⟩, List.mem_of_getElem? (i := 1175) (by decide +kernel), List.mem_of_getElem? (i := 1854) (by decide +kernel), List.mem_of_getElem? (i := 1855) (by decide +kernel)⟩
theorem lw_p125 : lw_okq (⟨"UnbeatenHouseModel", "voters", "()I"⟩, 77) := ⟨⟨by decide +kernel, by decide +kernel⟩, List.mem_of_getElem? (i := 1175) (by decide +kernel), List.mem_of_getElem? (i := 1877) (by decide +kernel), List.mem_of_getElem? (i := 1878) (by decide +kernel)⟩
theorem lw_p126 : lw_okq (⟨"UnbeatenHouseModel", "votes", "(I)Z"⟩, 77) := ⟨⟨by decide +kernel, by decide +kernel⟩, List.mem_of_getElem? (i := 1175) (by decide +kernel), List.mem_of_getElem? (i := 1881) (by decide +kernel), List.mem_of_getElem? (i := 1882) (by decide +kernel)⟩
theorem lw_p127 : lw_okq (⟨"UnbeatenHouseModel", "candidates", "()J"⟩, 77) := ⟨⟨by decide +kernel, by decide +kernel⟩, List.mem_of_getElem? (i := 1175) (by decide +kernel), List.mem_of_getElem? (i := 1885) (by decide +kernel), List.mem_of_getElem? (i := 1886) (by decide +kernel)⟩
def lw_privs_8 : List (MethodName × Nat) := [(⟨"UnbeatenHouseModel", "isWeighing", "(I)Z"⟩, 77), (⟨"UnbeatenHouseModel", "isFirst", "(I)Z"⟩, 77), (⟨"UnbeatenHouseModel", "worth", "(I)I"⟩, 77), (⟨"UnbeatenHouseModel", "apart", "(I)I"⟩, 77), (⟨"UnbeatenHouseModel", "more", "(II)I"⟩, 77), (⟨"UnbeatenHouseModel", "keeps", "(I)V"⟩, 77), (⟨"UnbeatenHouseModel", "nextPick", "(I)Z"⟩, 77), (⟨"UnbeatenHouseModel", "agrees", "()Z"⟩, 77), (⟨"UnbeatenHouseModel", "agreed", "()I"⟩, 77), (⟨"UnbeatenHouseModel", "rowWorth", "(I)I"⟩, 77), (⟨"UnbeatenHouseModel", "gathersAgreeing", "()V"⟩, 77), (⟨"UnbeatenHouseModel", "leaves", "(II)I"⟩, 77), (⟨"UnbeatenHouseModel", "isAgreed", "(II)Z"⟩, 77), (⟨"UnbeatenHouseModel", "voters", "()I"⟩, 77), (⟨"UnbeatenHouseModel", "votes", "(I)Z"⟩, 77), (⟨"UnbeatenHouseModel", "candidates", "()J"⟩, 77)]
theorem lw_r8 : ∀ q ∈ lw_privs_8, lw_okq q := List.forall_mem_cons.mpr ⟨lw_p112, List.forall_mem_cons.mpr ⟨lw_p113, List.forall_mem_cons.mpr ⟨lw_p114, List.forall_mem_cons.mpr ⟨lw_p115, List.forall_mem_cons.mpr ⟨lw_p116, List.forall_mem_cons.mpr ⟨lw_p117, List.forall_mem_cons.mpr ⟨lw_p118, List.forall_mem_cons.mpr ⟨lw_p119, List.forall_mem_cons.mpr ⟨lw_p120, List.forall_mem_cons.mpr ⟨lw_p121, List.forall_mem_cons.mpr ⟨lw_p122, List.forall_mem_cons.mpr ⟨lw_p123, List.forall_mem_cons.mpr ⟨lw_p124, List.forall_mem_cons.mpr ⟨lw_p125, List.forall_mem_cons.mpr ⟨lw_p126, List.forall_mem_cons.mpr ⟨lw_p127, fun _ h => absurd h List.not_mem_nil⟩⟩⟩⟩⟩⟩⟩⟩⟩⟩⟩⟩⟩⟩⟩⟩
theorem lw_p128 : lw_okq (⟨"UnbeatenHouseModel", "chosenBy", "(IJ)I"⟩, 77) := ⟨⟨by decide +kernel, by decide +kernel⟩, List.mem_of_getElem? (i := 1175) (by decide +kernel), List.mem_of_getElem? (i := 1889) (by decide +kernel), List.mem_of_getElem? (i := 1890) (by decide +kernel)⟩
theorem lw_p129 : lw_okq (⟨"UnbeatenHouseModel", "against", "(IIJ)I"⟩, 77) := ⟨⟨by decide +kernel, by decide +kernel⟩, List.mem_of_getElem? (i := 1175) (by decide +kernel), List.mem_of_getElem? (i := 1893) (by decide +kernel), List.mem_of_getElem? (i := 1894) (by decide +kernel)⟩
theorem lw_p130 : lw_okq (⟨"UnbeatenHouseModel", "placeOf", "(IIJ)I"⟩, 77) := ⟨⟨by decide +kernel, by decide +kernel⟩, List.mem_of_getElem? (i := 1175) (by decide +kernel), List.mem_of_getElem? (i := 1897) (by decide +kernel), List.mem_of_getElem? (i := 1898) (by decide +kernel)⟩
theorem lw_p131 : lw_okq (⟨"UnbeatenHouseModel", "isBefore", "(III)Z"⟩, 77) := ⟨⟨by decide +kernel, by decide +kernel⟩, List.mem_of_getElem? (i := 1175) (by decide +kernel), List.mem_of_getElem? (i := 1901) (by decide +kernel), List.mem_of_getElem? (i := 1902) (by decide +kernel)⟩
theorem lw_p132 : lw_okq (⟨"UnbeatenHouseModel", "personWorth", "(II)I"⟩, 77) := ⟨⟨by decide +kernel, by decide +kernel⟩, List.mem_of_getElem? (i := 1175) (by decide +kernel), List.mem_of_getElem? (i := 1905) (by decide +kernel), List.mem_of_getElem? (i := 1906) (by decide +kernel)⟩
theorem lw_p133 : lw_okq (⟨"UnbeatenHouseModel", "wins", "(II)Z"⟩, 77) := ⟨⟨by decide +kernel, by decide +kernel⟩, List.mem_of_getElem? (i := 1175) (by decide +kernel), List.mem_of_getElem? (i := 1909) (by decide +kernel), List.mem_of_getElem? (i := 1910) (by decide +kernel)⟩
def lw_privs_9 : List (MethodName × Nat) := [(⟨"UnbeatenHouseModel", "chosenBy", "(IJ)I"⟩, 77), (⟨"UnbeatenHouseModel", "against", "(IIJ)I"⟩, 77), (⟨"UnbeatenHouseModel", "placeOf", "(IIJ)I"⟩, 77), (⟨"UnbeatenHouseModel", "isBefore", "(III)Z"⟩, 77), (⟨"UnbeatenHouseModel", "personWorth", "(II)I"⟩, 77), (⟨"UnbeatenHouseModel", "wins", "(II)Z"⟩, 77)]
theorem lw_r9 : ∀ q ∈ lw_privs_9, lw_okq q := List.forall_mem_cons.mpr ⟨lw_p128, List.forall_mem_cons.mpr ⟨lw_p129, List.forall_mem_cons.mpr ⟨lw_p130, List.forall_mem_cons.mpr ⟨lw_p131, List.forall_mem_cons.mpr ⟨lw_p132, List.forall_mem_cons.mpr ⟨lw_p133, fun _ h => absurd h List.not_mem_nil⟩⟩⟩⟩⟩⟩
def lw_privs : List (MethodName × Nat) := lw_privs_1 ++ (lw_privs_2 ++ (lw_privs_3 ++ (lw_privs_4 ++ (lw_privs_5 ++ (lw_privs_6 ++ (lw_privs_7 ++ (lw_privs_8 ++ (lw_privs_9))))))))
def lw_tbl : List Cond := k2_sels lw_privs ++ tables_1
theorem lw_privs_ok : ∀ q ∈ lw_privs, lw_okq q := by
  show ∀ q ∈ lw_privs_1 ++ (lw_privs_2 ++ (lw_privs_3 ++ (lw_privs_4 ++ (lw_privs_5 ++ (lw_privs_6 ++ (lw_privs_7 ++ (lw_privs_8 ++ (lw_privs_9)))))))), lw_okq q
  exact List.forall_mem_append.mpr ⟨lw_r1, List.forall_mem_append.mpr ⟨lw_r2, List.forall_mem_append.mpr ⟨lw_r3, List.forall_mem_append.mpr ⟨lw_r4, List.forall_mem_append.mpr ⟨lw_r5, List.forall_mem_append.mpr ⟨lw_r6, List.forall_mem_append.mpr ⟨lw_r7, List.forall_mem_append.mpr ⟨lw_r8, lw_r9⟩⟩⟩⟩⟩⟩⟩⟩
end
section
/-! THE SMALL MACHINE: what its tables are, and what is checked of them -/
abbrev mj_H : Type := (Nat → Nat → Int32) × (Nat → Nat → Int64) × (Nat → Nat → Nat)
abbrev mj_L : Type := List (Nat × Value)
abbrev mj_R : Type := Value × mj_H
abbrev mj_S : Type := List (Nat × Nat)
/-- an instruction as decoded, its length, four operands, an int, a long, the cases of a switch -/
abbrev mj_E : Type := Jvm.ClassFile.Instr × Nat × (Nat × Nat × Nat × Nat) × Int32 × Int64 × List (Int32 × Nat)
/-- a method's blocks by their first pc; the pcs where a walk halts, with the locals that go on living; how many locals -/
abbrev mj_C : Type := List (Nat × List mj_E) × List (Nat × List Nat) × Nat
abbrev mj_M : Type := MethodName × ByteArray × Nat × Option FieldType
/-- a field's kind: 0 int, 1 long, 2 a cell, 3 boolean -/
def mj_tc : FieldType → Nat
  | .int => 0
  | .long => 1
  | .object _ => 2
  | .array _ => 2
  | .boolean => 3
  | _ => 9
def mj_floatDescs : List String := ["(D)D", "(DD)D", "(DDD)D", "(F)F", "(FF)F", "(FFF)F"]
theorem mj_mathRows : (Jvm.natives.all fun r => r.cls != "java/lang/Math" || mj_floatDescs.contains r.desc) = true := by decide +kernel
theorem mj_mathPlain {x : MethodName} (hc : x.cls = "java/lang/Math") (hd : mj_floatDescs.contains x.desc = false) : plainFor x = true := by
  unfold plainFor
  rw [Bool.or_eq_true]; right
  rw [Option.isNone_iff_eq_none, NativeRow.find?, List.find?_eq_none]
  intro r hr h
  have := List.all_eq_true.mp mj_mathRows r hr
  simp only [Bool.and_eq_true, beq_iff_eq] at h
  rw [h.1.2, h.2, hc, hd] at this
  simp at this
-- what a table must keep
def mj_okF (TB : List Cond) (CL : List vw_C) (own : String) (x ci k : Nat) : Prop :=
  ∃ (C : String) (T : u_T) (N : Nat), CL[ci]? = some (C, T, N) ∧ k < N ∧ (Cond.fieldLink own x (T k).1 (T k).2.1 (T k).2.2.1 ∈ TB ∨ ∃ host : String, Cond.fieldLinkNest own x (T k).1 (T k).2.1 (T k).2.2.1 host ∈ TB)
def mj_okY (TB : List Cond) (y : mj_M) : Prop := Cond.code y.1 y.2.1 y.2.2.1 y.2.2.2 ∈ TB ∧ Cond.initialized y.1.cls ∈ TB ∧ y.2.2.1 ≤ 40 ∧ plainFor y.1 = true ∧ y.1.cls ≠ "java/lang/invoke/MethodHandle" ∧ y.1.cls ≠ "java/lang/invoke/VarHandle"
def mj_okV (TB : List Cond) (CL : List vw_C) (own : String) (x : Nat) (y : mj_M) (n d : Nat) : Prop :=
  (Cond.methodLink own x y.1 ∈ TB ∨ ∃ host : String, Cond.methodLinkNest own x y.1 host ∈ TB) ∧ Cond.instanceMethod y.1 ∈ TB ∧ Cond.selects y.1.cls y.1 y.1 ∈ TB ∧ (∃ (ci : Nat) (T : u_T) (N : Nat), d = ci + 1 ∧ CL[ci]? = some (y.1.cls, T, N)) ∧ (∃ k, n = k + 1 ∧ (parseMethodDescriptor y.1.desc).map (fun d => d.parameters.length) = some k) ∧ mj_okY TB y
def mj_okS (TB : List Cond) (own : String) (x : Nat) (y : mj_M) (n : Nat) : Prop :=
  (Cond.methodLink own x y.1 ∈ TB ∨ ∃ host : String, Cond.methodLinkNest own x y.1 host ∈ TB) ∧ Cond.static y.1 ∈ TB ∧ (parseMethodDescriptor y.1.desc).map (fun d => d.parameters.length) = some n ∧ mj_okY TB y
def mj_okC (TB : List Cond) (own : String) (x : Nat) : Prop := Cond.methodLink own x arraycopyName ∈ TB ∧ Cond.native arraycopyName ∈ TB ∧ Cond.static arraycopyName ∈ TB ∧ Cond.initialized "java/lang/System" ∈ TB
def mj_okI (TB : List Cond) (CL : List vw_C) (TY : Nat → Nat → FieldType) (MS : Nat → mj_M) (own : String) (nL : Nat) (rt : Option FieldType) (pc : Nat) (e : mj_E) : Prop :=
  match e.1, e.2.1, e.2.2.1.1, e.2.2.1.2.1, e.2.2.1.2.2.1, e.2.2.1.2.2.2, e.2.2.2.1, e.2.2.2.2.1, e.2.2.2.2.2 with
  | .iconst n, len, _, _, _, _, v, _, _ => len = 1 ∧ Int32.ofInt n = v
  | .bipush n, len, _, _, _, _, v, _, _ => len = 2 ∧ (Int8.ofInt n).toInt32 = v
  | .sipush n, len, _, _, _, _, v, _, _ => len = 3 ∧ (Int16.ofInt n).toInt32 = v
  | .ldc x, len, _, _, _, _, v, _, _ => len = 2 ∧ Cond.constant own x v ∈ TB
  | .ldc_w x, len, _, _, _, _, v, _, _ => len = 3 ∧ Cond.constant own x v ∈ TB
  | .lconst n, len, _, _, _, _, _, w, _ => len = 1 ∧ Int64.ofNat n.val = w
  | .ldc2_w x, len, _, _, _, _, _, w, _ => len = 3 ∧ Cond.constantLong own x w ∈ TB
  | .iload _, len, _, _, _, _, _, _, _ => len = 2
  | .lload _, len, _, _, _, _, _, _, _ => len = 2
  | .aload _, len, _, _, _, _, _, _, _ => len = 2
  | .istore_n n, len, _, _, _, _, _, _, _ => len = 1 ∧ n.val < nL
  | .astore_n n, len, _, _, _, _, _, _, _ => len = 1 ∧ n.val < nL
  | .lstore_n n, len, _, _, _, _, _, _, _ => len = 1 ∧ n.val + 1 < nL
  | .istore n, len, _, _, _, _, _, _, _ => len = 2 ∧ n < nL
  | .astore n, len, _, _, _, _, _, _, _ => len = 2 ∧ n < nL
  | .lstore n, len, _, _, _, _, _, _, _ => len = 2 ∧ n + 1 < nL
  | .iinc n x, len, _, _, _, _, v, _, _ => len = 3 ∧ n < nL ∧ Int32.ofInt x = v
  | .getfield x, len, a, b, c, _, _, _, _ => len = 3 ∧ mj_okF TB CL own x a b ∧ mj_tc (TY a b) = c
  | .putfield x, len, a, b, c, _, _, _, _ => len = 3 ∧ mj_okF TB CL own x a b ∧ mj_tc (TY a b) = c ∧ c < 4 ∧ (∃ q, CL[a]? = some q ∧ (q.2.1 b).2.2.2 = false)
  | .getstatic _, len, _, _, _, _, _, _, _ => len = 3
  | .goto off, len, a, _, _, _, _, _, _ => len = 3 ∧ (pc : Int) + off = (a : Int)
  | .ifCond _ off, len, a, _, _, _, _, _, _ => len = 3 ∧ (pc : Int) + off = (a : Int)
  | .if_icmp _ off, len, a, _, _, _, _, _, _ => len = 3 ∧ (pc : Int) + off = (a : Int)
  | .tableswitch df lo hi offs, _, a, _, _, _, _, _, sw => (pc : Int) + df = (a : Int) ∧ lo + sw.length = hi + 1 ∧ ∀ k, k < sw.length → (sw.getD k (0, 0)).1.toInt = lo + k ∧ offs[k]? = some (((sw.getD k (0, 0)).2 : Int) - pc)
  | .lookupswitch df ps, _, a, _, _, _, _, _, sw => (pc : Int) + df = (a : Int) ∧ (ps.toList.zip (ps.toList.drop 1)).all (fun (a, next) => a.1 < next.1) = true ∧ ps.toList = sw.map (fun q => (q.1.toInt, (q.2 : Int) - pc))
  | .invokevirtual x, len, a, b, _, d, _, _, _ => len = 3 ∧ mj_okV TB CL own x (MS a) b d
  | .invokestatic x, len, a, b, _, _, _, _, _ => len = 3 ∧ ((a = 999 ∧ mj_okC TB own x) ∨ (a ≠ 999 ∧ mj_okS TB own x (MS a) b))
  | .ireturn, len, a, _, _, _, _, _, _ => len = 1 ∧ rt = some (match a with | 0 => .int | _ => .boolean)
  | .lreturn, len, _, _, _, _, _, _, _ => len = 1 ∧ rt = some .long
  | .areturn, len, _, _, _, _, _, _, _ => len = 1 ∧ ∃ n, rt = some (.object n)
  | .return_, len, _, _, _, _, _, _, _ => len = 1 ∧ rt = none
  | _, len, _, _, _, _, _, _, _ => len = 1
/-- every instruction of a block, from its pc on -/
def mj_okB (TB : List Cond) (CL : List vw_C) (TY : Nat → Nat → FieldType) (MS : Nat → mj_M) (own : String) (cc : ByteArray) (nL : Nat) (rt : Option FieldType) : List mj_E → Nat → Prop
  | [], _ => True
  | e :: r, pc => (decode cc pc = .ok (e.1, e.2.1) ∧ mj_okI TB CL TY MS own nL rt pc e) ∧ mj_okB TB CL TY MS own cc nL rt r (pc + e.2.1)
def mj_okM (TB : List Cond) (CL : List vw_C) (TY : Nat → Nat → FieldType) (MS : Nat → mj_M) (y : mj_M) (C : mj_C) : Prop :=
  mj_okY TB y ∧ C.2.2 = y.2.2.1 ∧ ∀ b ∈ C.1, mj_okB TB CL TY MS y.1.cls y.2.1 y.2.2.1 y.2.2.2 b.2 b.1
/-- what a class' pool holds: fields (place, class, slot, final), virtual calls (place, method, arguments, receiver's class + 1), static calls (place, method, arguments), ints, longs, copies of arrays -/
abbrev mj_Q : Type := List (Nat × Nat × Nat × Bool) × List (Nat × Nat × Nat × Nat) × List (Nat × Nat × Nat) × List (Nat × Int32) × List (Nat × Int64) × List Nat
def mj_okQ (TB : List Cond) (CL : List vw_C) (MS : Nat → mj_M) (own : String) (P : mj_Q) : Prop :=
  (∀ r ∈ P.1, mj_okF TB CL own r.1 r.2.1 r.2.2.1 ∧ (r.2.2.2 = false → ∃ q, CL[r.2.1]? = some q ∧ (q.2.1 r.2.2.1).2.2.2 = false)) ∧
  (∀ r ∈ P.2.1, mj_okV TB CL own r.1 (MS r.2.1) r.2.2.1 r.2.2.2) ∧ (∀ r ∈ P.2.2.1, mj_okS TB own r.1 (MS r.2.1) r.2.2) ∧ (∀ r ∈ P.2.2.2.1, Cond.constant own r.1 r.2 ∈ TB) ∧ (∀ r ∈ P.2.2.2.2.1, Cond.constantLong own r.1 r.2 ∈ TB) ∧ (∀ x ∈ P.2.2.2.2.2, mj_okC TB own x)
def mj_ckT (pc : Nat) (lo hi : Int) (offs : Array Int) (sw : List (Int32 × Nat)) : Bool :=
  decide (lo + sw.length = hi + 1) && (List.range sw.length).all (fun k => decide ((sw.getD k (0, 0)).1.toInt = lo + k) && decide (offs[k]? = some (((sw.getD k (0, 0)).2 : Int) - pc)))
def mj_ckI (TY : Nat → Nat → FieldType) (P : mj_Q) (nL : Nat) (rt : Option FieldType) (pc : Nat) (e : mj_E) : Bool :=
  match e.1 with
  | .iconst n => decide (e.2.1 = 1 ∧ Int32.ofInt n = e.2.2.2.1)
  | .bipush n => decide (e.2.1 = 2 ∧ (Int8.ofInt n).toInt32 = e.2.2.2.1)
  | .sipush n => decide (e.2.1 = 3 ∧ (Int16.ofInt n).toInt32 = e.2.2.2.1)
  | .ldc x => decide (e.2.1 = 2) && P.2.2.2.1.any (fun r => decide (r = (x, e.2.2.2.1)))
  | .ldc_w x => decide (e.2.1 = 3) && P.2.2.2.1.any (fun r => decide (r = (x, e.2.2.2.1)))
  | .lconst n => decide (e.2.1 = 1 ∧ Int64.ofNat n.val = e.2.2.2.2.1)
  | .ldc2_w x => decide (e.2.1 = 3) && P.2.2.2.2.1.any (fun r => decide (r = (x, e.2.2.2.2.1)))
  | .iload _ => decide (e.2.1 = 2)
  | .lload _ => decide (e.2.1 = 2)
  | .aload _ => decide (e.2.1 = 2)
  | .istore_n n => decide (e.2.1 = 1 ∧ n.val < nL)
  | .astore_n n => decide (e.2.1 = 1 ∧ n.val < nL)
  | .lstore_n n => decide (e.2.1 = 1 ∧ n.val + 1 < nL)
  | .istore n => decide (e.2.1 = 2 ∧ n < nL)
  | .astore n => decide (e.2.1 = 2 ∧ n < nL)
  | .lstore n => decide (e.2.1 = 2 ∧ n + 1 < nL)
  | .iinc n x => decide (e.2.1 = 3 ∧ n < nL ∧ Int32.ofInt x = e.2.2.2.1)
  | .getfield x => decide (e.2.1 = 3 ∧ mj_tc (TY e.2.2.1.1 e.2.2.1.2.1) = e.2.2.1.2.2.1) && P.1.any (fun r => decide (r.1 = x ∧ r.2.1 = e.2.2.1.1 ∧ r.2.2.1 = e.2.2.1.2.1))
  | .putfield x => decide (e.2.1 = 3 ∧ mj_tc (TY e.2.2.1.1 e.2.2.1.2.1) = e.2.2.1.2.2.1 ∧ e.2.2.1.2.2.1 < 4) && P.1.any (fun r => decide (r.1 = x ∧ r.2.1 = e.2.2.1.1 ∧ r.2.2.1 = e.2.2.1.2.1 ∧ r.2.2.2 = false))
  | .getstatic _ => decide (e.2.1 = 3)
  | .goto off => decide (e.2.1 = 3 ∧ (pc : Int) + off = (e.2.2.1.1 : Int))
  | .ifCond _ off => decide (e.2.1 = 3 ∧ (pc : Int) + off = (e.2.2.1.1 : Int))
  | .if_icmp _ off => decide (e.2.1 = 3 ∧ (pc : Int) + off = (e.2.2.1.1 : Int))
  | .tableswitch df lo hi offs => decide ((pc : Int) + df = (e.2.2.1.1 : Int)) && mj_ckT pc lo hi offs e.2.2.2.2.2
  | .lookupswitch df ps => decide ((pc : Int) + df = (e.2.2.1.1 : Int)) && ((ps.toList.zip (ps.toList.drop 1)).all (fun (a, next) => a.1 < next.1) && decide (ps.toList = e.2.2.2.2.2.map (fun q => (q.1.toInt, (q.2 : Int) - pc))))
  | .invokevirtual x => decide (e.2.1 = 3) && P.2.1.any (fun r => decide (r = (x, e.2.2.1.1, e.2.2.1.2.1, e.2.2.1.2.2.2)))
  | .invokestatic x => decide (e.2.1 = 3) && ((decide (e.2.2.1.1 = 999) && P.2.2.2.2.2.any (fun r => decide (r = x))) || (decide (e.2.2.1.1 ≠ 999) && P.2.2.1.any (fun r => decide (r = (x, e.2.2.1.1, e.2.2.1.2.1)))))
  | .ireturn => decide (e.2.1 = 1 ∧ rt = some (match e.2.2.1.1 with | 0 => .int | _ => .boolean))
  | .lreturn => decide (e.2.1 = 1 ∧ rt = some .long)
  | .areturn => decide (e.2.1 = 1) && (match rt with | some (.object _) => true | _ => false)
  | .return_ => decide (e.2.1 = 1 ∧ rt = none)
  | _ => decide (e.2.1 = 1)
def mj_ckB (TY : Nat → Nat → FieldType) (P : mj_Q) (cc : ByteArray) (nL : Nat) (rt : Option FieldType) : List mj_E → Nat → Bool
  | [], _ => true
  | e :: r, pc => (decide (decode cc pc = .ok (e.1, e.2.1)) && mj_ckI TY P nL rt pc e) && mj_ckB TY P cc nL rt r (pc + e.2.1)
def mj_ckM (TY : Nat → Nat → FieldType) (P : mj_Q) (cc : ByteArray) (nL : Nat) (rt : Option FieldType) (C : mj_C) : Bool :=
  decide (C.2.2 = nL) && C.1.all (fun b => mj_ckB TY P cc nL rt b.2 b.1)
theorem mj_any {α : Type} {L : List α} {f : α → Bool} (h : L.any f = true) : ∃ r ∈ L, f r = true := by
  simpa using h
set_option maxHeartbeats 4000000 in
theorem mj_ckI_ok {TB : List Cond} {CL : List vw_C} {TY : Nat → Nat → FieldType} {MS : Nat → mj_M} {P : mj_Q} {own : String} {nL : Nat} {rt : Option FieldType} {pc : Nat} {e : mj_E} (hP : mj_okQ TB CL MS own P) (h : mj_ckI TY P nL rt pc e = true) : mj_okI TB CL TY MS own nL rt pc e := by
  obtain ⟨i, len, ⟨a, b, c, d⟩, v, w, sw⟩ := e
  obtain ⟨hF, hV, hSt, hC, hL, hA⟩ := hP
  cases i with
  | ldc x =>
    simp only [mj_ckI, Bool.and_eq_true, decide_eq_true_eq] at h
    obtain ⟨h1, h2⟩ := h
    obtain ⟨r, hr, h3⟩ := mj_any h2
    have h4 := hC r hr
    rw [of_decide_eq_true h3] at h4
    exact ⟨h1, h4⟩
  | ldc_w x =>
    simp only [mj_ckI, Bool.and_eq_true, decide_eq_true_eq] at h
    obtain ⟨h1, h2⟩ := h
    obtain ⟨r, hr, h3⟩ := mj_any h2
    have h4 := hC r hr
    rw [of_decide_eq_true h3] at h4
    exact ⟨h1, h4⟩
  | ldc2_w x =>
    simp only [mj_ckI, Bool.and_eq_true, decide_eq_true_eq] at h
    obtain ⟨h1, h2⟩ := h
    obtain ⟨r, hr, h3⟩ := mj_any h2
    have h4 := hL r hr
    rw [of_decide_eq_true h3] at h4
    exact ⟨h1, h4⟩
  | getfield x =>
    simp only [mj_ckI, Bool.and_eq_true, decide_eq_true_eq] at h
    obtain ⟨⟨h1, h2⟩, h3⟩ := h
    obtain ⟨r, hr, h4⟩ := mj_any h3
    obtain ⟨e1, e2, e3⟩ := of_decide_eq_true h4
    have h5 := (hF r hr).1
    rw [e1, e2, e3] at h5
    exact ⟨h1, h5, h2⟩
  | putfield x =>
    simp only [mj_ckI, Bool.and_eq_true, decide_eq_true_eq] at h
    obtain ⟨⟨h1, h2, h6⟩, h3⟩ := h
    obtain ⟨r, hr, h4⟩ := mj_any h3
    obtain ⟨e1, e2, e3, e4⟩ := of_decide_eq_true h4
    have h5 := hF r hr
    rw [e1, e2, e3] at h5
    exact ⟨h1, h5.1, h2, h6, h5.2 e4⟩
  | tableswitch df lo hi offs =>
    simp only [mj_ckI, mj_ckT, Bool.and_eq_true, decide_eq_true_eq, List.all_eq_true] at h
    exact ⟨h.1, h.2.1, fun k hk => h.2.2 k (List.mem_range.mpr hk)⟩
  | lookupswitch df ps =>
    simp only [mj_ckI, Bool.and_eq_true, decide_eq_true_eq] at h
    exact ⟨h.1, h.2.1, h.2.2⟩
  | invokevirtual x =>
    simp only [mj_ckI, Bool.and_eq_true, decide_eq_true_eq] at h
    obtain ⟨h1, h2⟩ := h
    obtain ⟨r, hr, h3⟩ := mj_any h2
    have h4 := hV r hr
    rw [of_decide_eq_true h3] at h4
    exact ⟨h1, h4⟩
  | invokestatic x =>
    simp only [mj_ckI, Bool.and_eq_true, Bool.or_eq_true, decide_eq_true_eq] at h
    obtain ⟨h1, ⟨h2, h3⟩ | ⟨h2, h3⟩⟩ := h
    · obtain ⟨r, hr, h4⟩ := mj_any h3
      have h5 := hA r hr
      rw [of_decide_eq_true h4] at h5
      exact ⟨h1, Or.inl ⟨h2, h5⟩⟩
    · obtain ⟨r, hr, h4⟩ := mj_any h3
      have h5 := hSt r hr
      rw [of_decide_eq_true h4] at h5
      exact ⟨h1, Or.inr ⟨h2, h5⟩⟩
  | areturn =>
    simp only [mj_ckI, Bool.and_eq_true, decide_eq_true_eq] at h
    obtain ⟨h1, h2⟩ := h
    refine ⟨h1, ?_⟩
    split at h2
    · exact ⟨_, rfl⟩
    · cases h2
  | _ =>
    simp only [mj_ckI, decide_eq_true_eq] at h
    exact h
theorem mj_ckB_ok {TB : List Cond} {CL : List vw_C} {TY : Nat → Nat → FieldType} {MS : Nat → mj_M} {P : mj_Q} {own : String} {cc : ByteArray} {nL : Nat} {rt : Option FieldType} (hP : mj_okQ TB CL MS own P) : ∀ (b : List mj_E) (pc : Nat), mj_ckB TY P cc nL rt b pc = true → mj_okB TB CL TY MS own cc nL rt b pc
  | [], _, _ => trivial
  | e :: r, pc, h => by
    simp only [mj_ckB, Bool.and_eq_true, decide_eq_true_eq] at h
    exact ⟨⟨h.1.1, mj_ckI_ok hP h.1.2⟩, mj_ckB_ok hP r _ h.2⟩
theorem mj_ckM_ok {TB : List Cond} {CL : List vw_C} {TY : Nat → Nat → FieldType} {MS : Nat → mj_M} {P : mj_Q} {y : mj_M} {C : mj_C} (hP : mj_okQ TB CL MS y.1.cls P) (hY : mj_okY TB y) (h : mj_ckM TY P y.2.1 y.2.2.1 y.2.2.2 C = true) : mj_okM TB CL TY MS y C := by
  simp only [mj_ckM, Bool.and_eq_true, decide_eq_true_eq, List.all_eq_true] at h
  exact ⟨hY, h.1, fun b hb => mj_ckB_ok hP _ _ (h.2 b hb)⟩
-- short forms for the tables
def o0 (i : Jvm.ClassFile.Instr) (len : Nat) : mj_E := (i, len, (0, 0, 0, 0), 0, 0, [])
def oV (i : Jvm.ClassFile.Instr) (len : Nat) (v : Int32) : mj_E := (i, len, (0, 0, 0, 0), v, 0, [])
def oW (i : Jvm.ClassFile.Instr) (len : Nat) (w : Int64) : mj_E := (i, len, (0, 0, 0, 0), 0, w, [])
def oA (i : Jvm.ClassFile.Instr) (len a : Nat) : mj_E := (i, len, (a, 0, 0, 0), 0, 0, [])
def oF (i : Jvm.ClassFile.Instr) (len a b c : Nat) : mj_E := (i, len, (a, b, c, 0), 0, 0, [])
def oM (i : Jvm.ClassFile.Instr) (len a b c d : Nat) : mj_E := (i, len, (a, b, c, d), 0, 0, [])
def oT (i : Jvm.ClassFile.Instr) (len a : Nat) (sw : List (Int32 × Nat)) : mj_E := (i, len, (a, 0, 0, 0), 0, 0, sw)
end
section
/-! the classes, by program -/
def mF_0 : u_T := fun k => ([("UnbeatenHouseModel", "tape", "[I", true), ("UnbeatenHouseModel", "taped", "I", false), ("UnbeatenHouseModel", "size", "I", false), ("UnbeatenHouseModel", "sign", "I", false), ("UnbeatenHouseModel", "signAt", "I", false), ("UnbeatenHouseModel", "signEnd", "I", false), ("UnbeatenHouseModel", "value", "I", false), ("UnbeatenHouseModel", "word", "J", false), ("UnbeatenHouseModel", "faultKind", "I", false), ("UnbeatenHouseModel", "faultPlace", "I", false), ("UnbeatenHouseModel", "toldKind", "I", false), ("UnbeatenHouseModel", "toldPlace", "I", false), ("UnbeatenHouseModel", "bank", "I", false), ("UnbeatenHouseModel", "wishes", "[I", true), ("UnbeatenHouseModel", "rows", "[I", true), ("UnbeatenHouseModel", "knots", "[I", true), ("UnbeatenHouseModel", "ties", "[I", true), ("UnbeatenHouseModel", "things", "[I", true), ("UnbeatenHouseModel", "rules", "[I", true), ("UnbeatenHouseModel", "wishName", "[J", true), ("UnbeatenHouseModel", "isMore", "[Z", true), ("UnbeatenHouseModel", "rowName", "[J", true), ("UnbeatenHouseModel", "rowHas", "[I", true), ("UnbeatenHouseModel", "spread", "[I", true), ("UnbeatenHouseModel", "knotName", "[J", true), ("UnbeatenHouseModel", "tieFrom", "[I", true), ("UnbeatenHouseModel", "tieTo", "[I", true), ("UnbeatenHouseModel", "tieHas", "[I", true), ("UnbeatenHouseModel", "thingName", "[J", true), ("UnbeatenHouseModel", "thingHas", "[I", true), ("UnbeatenHouseModel", "ruleFrom", "[I", true), ("UnbeatenHouseModel", "ruleTo", "[I", true), ("UnbeatenHouseModel", "codeSort", "[I", true), ("UnbeatenHouseModel", "codeValue", "[I", true), ("UnbeatenHouseModel", "codes", "I", false), ("UnbeatenHouseModel", "in", "I", false), ("UnbeatenHouseModel", "frame", "[I", true), ("UnbeatenHouseModel", "phase", "[I", true), ("UnbeatenHouseModel", "begins", "[Z", true), ("UnbeatenHouseModel", "pair", "[I", true), ("UnbeatenHouseModel", "base", "[I", true), ("UnbeatenHouseModel", "deep", "I", false), ("UnbeatenHouseModel", "open", "I", false), ("UnbeatenHouseModel", "ops", "[I", true), ("UnbeatenHouseModel", "opMany", "I", false), ("UnbeatenHouseModel", "operand", "Z", false), ("UnbeatenHouseModel", "fell", "J", false), ("UnbeatenHouseModel", "came", "J", false), ("UnbeatenHouseModel", "gathered", "I", false), ("UnbeatenHouseModel", "gLoss", "[I", true), ("UnbeatenHouseModel", "gWho", "[I", true), ("UnbeatenHouseModel", "gKnots", "[I", true), ("UnbeatenHouseModel", "at", "[I", true), ("UnbeatenHouseModel", "path", "[I", true), ("UnbeatenHouseModel", "sums", "[I", true), ("UnbeatenHouseModel", "step", "[I", true), ("UnbeatenHouseModel", "setMask", "I", false), ("UnbeatenHouseModel", "heap", "[J", true), ("UnbeatenHouseModel", "frontMany", "I", false), ("UnbeatenHouseModel", "frontKind", "I", false), ("UnbeatenHouseModel", "fLoss", "[I", true), ("UnbeatenHouseModel", "fWho", "[I", true), ("UnbeatenHouseModel", "fKnots", "[I", true), ("UnbeatenHouseModel", "grid", "I", false), ("UnbeatenHouseModel", "weigh", "[I", true), ("UnbeatenHouseModel", "keptMany", "I", false), ("UnbeatenHouseModel", "kept", "[I", true), ("UnbeatenHouseModel", "pick", "[I", true), ("UnbeatenHouseModel", "sayings", "I", false), ("UnbeatenHouseModel", "better", "[I", true), ("UnbeatenHouseModel", "worse", "[I", true), ("UnbeatenHouseModel", "agreeing", "I", false), ("UnbeatenHouseModel", "worths", "[I", true), ("UnbeatenHouseModel", "firsts", "[J", true), ("UnbeatenHouseModel", "agreements", "[I", true), ("UnbeatenHouseModel", "weights", "[I", true), ("UnbeatenHouseModel", "bars", "[J", true)] : List (String × String × String × Bool)).getD k ("", "", "", false)
def mF_1 : u_T := fun k => ([("UnbeatenHouse", "taped", "I", false), ("UnbeatenHouse", "tale", "LUnbeatenHouse$Tale;", false), ("UnbeatenHouse", "reader", "LUnbeatenHouse$Reader;", true), ("UnbeatenHouse", "table", "LUnbeatenHouse$Rows;", true), ("UnbeatenHouse", "pool", "LUnbeatenHouse$Pool;", true), ("UnbeatenHouse", "gatherer", "LUnbeatenHouse$Gatherer;", true), ("UnbeatenHouse", "hand", "LUnbeatenHouse$Front;", true), ("UnbeatenHouse", "made", "LUnbeatenHouse$Front;", true), ("UnbeatenHouse", "setFront", "LUnbeatenHouse$Front;", true), ("UnbeatenHouse", "setsOnFront", "I", false), ("UnbeatenHouse", "picker", "LUnbeatenHouse$Picker;", true), ("UnbeatenHouse", "weighings", "LUnbeatenHouse$Weighings;", true), ("UnbeatenHouse", "sayings", "LUnbeatenHouse$Sayings;", true), ("UnbeatenHouse", "people", "LUnbeatenHouse$People;", true), ("UnbeatenHouse", "fell", "J", false), ("UnbeatenHouse", "came", "J", false)] : List (String × String × String × Bool)).getD k ("", "", "", false)
def mF_2 : u_T := fun k => ([("UnbeatenHouse$Front", "kind", "I", false), ("UnbeatenHouse$Front", "count", "I", false), ("UnbeatenHouse$Front", "losses", "[I", true), ("UnbeatenHouse$Front", "keys", "[J", true)] : List (String × String × String × Bool)).getD k ("", "", "", false)
def mF_3 : u_T := fun k => ([("UnbeatenHouse$Gatherer", "judge", "LUnbeatenHouse$Judge;", true), ("UnbeatenHouse$Gatherer", "sums", "[I", true), ("UnbeatenHouse$Gatherer", "losses", "[I", true)] : List (String × String × String × Bool)).getD k ("", "", "", false)
def mF_4 : u_T := fun k => ([("UnbeatenHouse$Judge", "stack", "[I", true), ("UnbeatenHouse$Judge", "top", "I", false)] : List (String × String × String × Bool)).getD k ("", "", "", false)
def mF_5 : u_T := fun k => ([("UnbeatenHouse$People", "weights", "[I", true), ("UnbeatenHouse$People", "votes", "[Z", true), ("UnbeatenHouse$People", "bars", "[J", true), ("UnbeatenHouse$People", "worths", "[I", true), ("UnbeatenHouse$People", "voters", "I", false), ("UnbeatenHouse$People", "candidates", "J", false)] : List (String × String × String × Bool)).getD k ("", "", "", false)
def mF_6 : u_T := fun k => ([("UnbeatenHouse$Picker", "count", "I", false), ("UnbeatenHouse$Picker", "distances", "[I", true), ("UnbeatenHouse$Picker", "tried", "[I", true), ("UnbeatenHouse$Picker", "chosen", "[I", true), ("UnbeatenHouse$Picker", "keptCount", "I", false)] : List (String × String × String × Bool)).getD k ("", "", "", false)
def mF_7 : u_T := fun k => ([("UnbeatenHouse$Pool", "losses", "[I", true), ("UnbeatenHouse$Pool", "keys", "[J", true), ("UnbeatenHouse$Pool", "order", "[I", true), ("UnbeatenHouse$Pool", "count", "I", false), ("UnbeatenHouse$Pool", "wishes", "I", false)] : List (String × String × String × Bool)).getD k ("", "", "", false)
def mF_8 : u_T := fun k => ([("UnbeatenHouse$Reader", "ownCodes", "[I", true), ("UnbeatenHouse$Reader", "tape", "[I", true), ("UnbeatenHouse$Reader", "length", "I", false), ("UnbeatenHouse$Reader", "into", "LUnbeatenHouse$Tale;", false), ("UnbeatenHouse$Reader", "at", "I", false), ("UnbeatenHouse$Reader", "token", "I", false), ("UnbeatenHouse$Reader", "value", "I", false), ("UnbeatenHouse$Reader", "own", "I", false), ("UnbeatenHouse$Reader", "tokenAt", "I", false), ("UnbeatenHouse$Reader", "open", "I", false), ("UnbeatenHouse$Reader", "wrong", "I", false), ("UnbeatenHouse$Reader", "wrongAt", "I", false)] : List (String × String × String × Bool)).getD k ("", "", "", false)
def mF_9 : u_T := fun k => ([("UnbeatenHouse$Rows", "count", "I", false), ("UnbeatenHouse$Rows", "wishes", "I", false), ("UnbeatenHouse$Rows", "losses", "[I", true), ("UnbeatenHouse$Rows", "low", "[I", true), ("UnbeatenHouse$Rows", "high", "[I", true), ("UnbeatenHouse$Rows", "aside", "J", false), ("UnbeatenHouse$Rows", "best", "J", false), ("UnbeatenHouse$Rows", "worths", "[I", true)] : List (String × String × String × Bool)).getD k ("", "", "", false)
def mF_10 : u_T := fun k => ([("UnbeatenHouse$Sayings", "count", "I", false), ("UnbeatenHouse$Sayings", "liked", "[I", true), ("UnbeatenHouse$Sayings", "passed", "[I", true), ("UnbeatenHouse$Sayings", "leaves", "[J", true), ("UnbeatenHouse$Sayings", "held", "[Z", true), ("UnbeatenHouse$Sayings", "askedFirst", "I", false), ("UnbeatenHouse$Sayings", "askedSecond", "I", false), ("UnbeatenHouse$Sayings", "askedLeaves", "I", false)] : List (String × String × String × Bool)).getD k ("", "", "", false)
def mF_11 : u_T := fun k => ([("UnbeatenHouse$Tale", "statements", "I", false), ("UnbeatenHouse$Tale", "counts", "[I", true), ("UnbeatenHouse$Tale", "names", "[I", true), ("UnbeatenHouse$Tale", "more", "[Z", true), ("UnbeatenHouse$Tale", "amounts", "[I", true), ("UnbeatenHouse$Tale", "spreads", "[I", true), ("UnbeatenHouse$Tale", "tieFrom", "[I", true), ("UnbeatenHouse$Tale", "tieTo", "[I", true), ("UnbeatenHouse$Tale", "steps", "[I", true), ("UnbeatenHouse$Tale", "stepCount", "I", false), ("UnbeatenHouse$Tale", "ruleEnds", "[I", true)] : List (String × String × String × Bool)).getD k ("", "", "", false)
def mF_12 : u_T := fun k => ([("UnbeatenHouse$Weighings", "sum", "I", false), ("UnbeatenHouse$Weighings", "wishes", "I", false), ("UnbeatenHouse$Weighings", "count", "I", false), ("UnbeatenHouse$Weighings", "weights", "[I", true)] : List (String × String × String × Bool)).getD k ("", "", "", false)
def mj_CL : List vw_C := [("UnbeatenHouseModel", mF_0, 77), ("UnbeatenHouse", mF_1, 16), ("UnbeatenHouse$Front", mF_2, 4), ("UnbeatenHouse$Gatherer", mF_3, 3), ("UnbeatenHouse$Judge", mF_4, 2), ("UnbeatenHouse$People", mF_5, 6), ("UnbeatenHouse$Picker", mF_6, 5), ("UnbeatenHouse$Pool", mF_7, 5), ("UnbeatenHouse$Reader", mF_8, 12), ("UnbeatenHouse$Rows", mF_9, 8), ("UnbeatenHouse$Sayings", mF_10, 8), ("UnbeatenHouse$Tale", mF_11, 11), ("UnbeatenHouse$Weighings", mF_12, 4)]
def mj_TL : List (List FieldType) := [[.array .int, .int, .int, .int, .int, .int, .int, .long, .int, .int, .int, .int, .int, .array .int, .array .int, .array .int, .array .int, .array .int, .array .int, .array .long, .array .boolean, .array .long, .array .int, .array .int, .array .long, .array .int, .array .int, .array .int, .array .long, .array .int, .array .int, .array .int, .array .int, .array .int, .int, .int, .array .int, .array .int, .array .boolean, .array .int, .array .int, .int, .int, .array .int, .int, .boolean, .long, .long, .int, .array .int, .array .int, .array .int, .array .int, .array .int, .array .int, .array .int, .int, .array .long, .int, .int, .array .int, .array .int, .array .int, .int, .array .int, .int, .array .int, .array .int, .int, .array .int, .array .int, .int, .array .int, .array .long, .array .int, .array .int, .array .long], [.int, .object "UnbeatenHouse$Tale", .object "UnbeatenHouse$Reader", .object "UnbeatenHouse$Rows", .object "UnbeatenHouse$Pool", .object "UnbeatenHouse$Gatherer", .object "UnbeatenHouse$Front", .object "UnbeatenHouse$Front", .object "UnbeatenHouse$Front", .int, .object "UnbeatenHouse$Picker", .object "UnbeatenHouse$Weighings", .object "UnbeatenHouse$Sayings", .object "UnbeatenHouse$People", .long, .long], [.int, .int, .array .int, .array .long], [.object "UnbeatenHouse$Judge", .array .int, .array .int], [.array .int, .int], [.array .int, .array .boolean, .array .long, .array .int, .int, .long], [.int, .array .int, .array .int, .array .int, .int], [.array .int, .array .long, .array .int, .int, .int], [.array .int, .array .int, .int, .object "UnbeatenHouse$Tale", .int, .int, .int, .int, .int, .int, .int, .int], [.int, .int, .array .int, .array .int, .array .int, .long, .long, .array .int], [.int, .array .int, .array .int, .array .long, .array .boolean, .int, .int, .int], [.int, .array .int, .array .int, .array .boolean, .array .int, .array .int, .array .int, .array .int, .array .int, .int, .array .int], [.int, .int, .int, .array .int]]
def mj_TY (c k : Nat) : FieldType := (mj_TL.getD c []).getD k .int
theorem mc_0 : (∀ w ∈ u_ws "UnbeatenHouseModel" mF_0 77, w ∈ lw_tbl) ∧ (∀ k, k < 77 → parseFieldDescriptor (mF_0 k).2.2.1 = some (mj_TY 0 k)) ∧ (∀ a, a < 77 → ∀ b, b < 77 → a ≠ b → (mF_0 a).2.1 ≠ (mF_0 b).2.1) := ⟨by decide +kernel, by decide +kernel, by decide +kernel⟩
theorem mc_1 : (∀ w ∈ u_ws "UnbeatenHouse" mF_1 16, w ∈ lw_tbl) ∧ (∀ k, k < 16 → parseFieldDescriptor (mF_1 k).2.2.1 = some (mj_TY 1 k)) ∧ (∀ a, a < 16 → ∀ b, b < 16 → a ≠ b → (mF_1 a).2.1 ≠ (mF_1 b).2.1) := ⟨by decide +kernel, by decide +kernel, by decide +kernel⟩
theorem mc_2 : (∀ w ∈ u_ws "UnbeatenHouse$Front" mF_2 4, w ∈ lw_tbl) ∧ (∀ k, k < 4 → parseFieldDescriptor (mF_2 k).2.2.1 = some (mj_TY 2 k)) ∧ (∀ a, a < 4 → ∀ b, b < 4 → a ≠ b → (mF_2 a).2.1 ≠ (mF_2 b).2.1) := ⟨by decide +kernel, by decide +kernel, by decide +kernel⟩
theorem mc_3 : (∀ w ∈ u_ws "UnbeatenHouse$Gatherer" mF_3 3, w ∈ lw_tbl) ∧ (∀ k, k < 3 → parseFieldDescriptor (mF_3 k).2.2.1 = some (mj_TY 3 k)) ∧ (∀ a, a < 3 → ∀ b, b < 3 → a ≠ b → (mF_3 a).2.1 ≠ (mF_3 b).2.1) := ⟨by decide +kernel, by decide +kernel, by decide +kernel⟩
theorem mc_4 : (∀ w ∈ u_ws "UnbeatenHouse$Judge" mF_4 2, w ∈ lw_tbl) ∧ (∀ k, k < 2 → parseFieldDescriptor (mF_4 k).2.2.1 = some (mj_TY 4 k)) ∧ (∀ a, a < 2 → ∀ b, b < 2 → a ≠ b → (mF_4 a).2.1 ≠ (mF_4 b).2.1) := ⟨by decide +kernel, by decide +kernel, by decide +kernel⟩
theorem mc_5 : (∀ w ∈ u_ws "UnbeatenHouse$People" mF_5 6, w ∈ lw_tbl) ∧ (∀ k, k < 6 → parseFieldDescriptor (mF_5 k).2.2.1 = some (mj_TY 5 k)) ∧ (∀ a, a < 6 → ∀ b, b < 6 → a ≠ b → (mF_5 a).2.1 ≠ (mF_5 b).2.1) := ⟨by decide +kernel, by decide +kernel, by decide +kernel⟩
theorem mc_6 : (∀ w ∈ u_ws "UnbeatenHouse$Picker" mF_6 5, w ∈ lw_tbl) ∧ (∀ k, k < 5 → parseFieldDescriptor (mF_6 k).2.2.1 = some (mj_TY 6 k)) ∧ (∀ a, a < 5 → ∀ b, b < 5 → a ≠ b → (mF_6 a).2.1 ≠ (mF_6 b).2.1) := ⟨by decide +kernel, by decide +kernel, by decide +kernel⟩
theorem mc_7 : (∀ w ∈ u_ws "UnbeatenHouse$Pool" mF_7 5, w ∈ lw_tbl) ∧ (∀ k, k < 5 → parseFieldDescriptor (mF_7 k).2.2.1 = some (mj_TY 7 k)) ∧ (∀ a, a < 5 → ∀ b, b < 5 → a ≠ b → (mF_7 a).2.1 ≠ (mF_7 b).2.1) := ⟨by decide +kernel, by decide +kernel, by decide +kernel⟩
theorem mc_8 : (∀ w ∈ u_ws "UnbeatenHouse$Reader" mF_8 12, w ∈ lw_tbl) ∧ (∀ k, k < 12 → parseFieldDescriptor (mF_8 k).2.2.1 = some (mj_TY 8 k)) ∧ (∀ a, a < 12 → ∀ b, b < 12 → a ≠ b → (mF_8 a).2.1 ≠ (mF_8 b).2.1) := ⟨by decide +kernel, by decide +kernel, by decide +kernel⟩
theorem mc_9 : (∀ w ∈ u_ws "UnbeatenHouse$Rows" mF_9 8, w ∈ lw_tbl) ∧ (∀ k, k < 8 → parseFieldDescriptor (mF_9 k).2.2.1 = some (mj_TY 9 k)) ∧ (∀ a, a < 8 → ∀ b, b < 8 → a ≠ b → (mF_9 a).2.1 ≠ (mF_9 b).2.1) := ⟨by decide +kernel, by decide +kernel, by decide +kernel⟩
theorem mc_10 : (∀ w ∈ u_ws "UnbeatenHouse$Sayings" mF_10 8, w ∈ lw_tbl) ∧ (∀ k, k < 8 → parseFieldDescriptor (mF_10 k).2.2.1 = some (mj_TY 10 k)) ∧ (∀ a, a < 8 → ∀ b, b < 8 → a ≠ b → (mF_10 a).2.1 ≠ (mF_10 b).2.1) := ⟨by decide +kernel, by decide +kernel, by decide +kernel⟩
theorem mc_11 : (∀ w ∈ u_ws "UnbeatenHouse$Tale" mF_11 11, w ∈ lw_tbl) ∧ (∀ k, k < 11 → parseFieldDescriptor (mF_11 k).2.2.1 = some (mj_TY 11 k)) ∧ (∀ a, a < 11 → ∀ b, b < 11 → a ≠ b → (mF_11 a).2.1 ≠ (mF_11 b).2.1) := ⟨by decide +kernel, by decide +kernel, by decide +kernel⟩
theorem mc_12 : (∀ w ∈ u_ws "UnbeatenHouse$Weighings" mF_12 4, w ∈ lw_tbl) ∧ (∀ k, k < 4 → parseFieldDescriptor (mF_12 k).2.2.1 = some (mj_TY 12 k)) ∧ (∀ a, a < 4 → ∀ b, b < 4 → a ≠ b → (mF_12 a).2.1 ≠ (mF_12 b).2.1) := ⟨by decide +kernel, by decide +kernel, by decide +kernel⟩
theorem mj_CL_ok (ci : Nat) (C : String) (T : u_T) (N : Nat) (h : mj_CL[ci]? = some (C, T, N)) : (∀ w ∈ u_ws C T N, w ∈ lw_tbl) ∧ (∀ k, k < N → parseFieldDescriptor (T k).2.2.1 = some (mj_TY ci k)) ∧ (∀ a, a < N → ∀ b, b < N → a ≠ b → (T a).2.1 ≠ (T b).2.1) := by
  match ci, h with
  | 0, h => cases h; exact mc_0
  | 1, h => cases h; exact mc_1
  | 2, h => cases h; exact mc_2
  | 3, h => cases h; exact mc_3
  | 4, h => cases h; exact mc_4
  | 5, h => cases h; exact mc_5
  | 6, h => cases h; exact mc_6
  | 7, h => cases h; exact mc_7
  | 8, h => cases h; exact mc_8
  | 9, h => cases h; exact mc_9
  | 10, h => cases h; exact mc_10
  | 11, h => cases h; exact mc_11
  | 12, h => cases h; exact mc_12
  | k + 13, h => simp [mj_CL] at h
end
section
/-! the methods, by program: names, code, and what the tables say of them -/
def mm_0 : mj_M := (⟨"java/lang/Math", "min", "(II)I"⟩, prog_17_method_69_code, 2, (some .int))
def mm_1 : mj_M := (⟨"java/lang/Math", "max", "(II)I"⟩, prog_17_method_65_code, 2, (some .int))
def mm_2 : mj_M := (⟨"java/lang/Long", "bitCount", "(J)I"⟩, prog_16_method_50_code, 2, (some .int))
def mm_3 : mj_M := (⟨"java/lang/Integer", "bitCount", "(I)I"⟩, prog_15_method_49_code, 1, (some .int))
def mm_4 : mj_M := (⟨"java/lang/Math", "min", "(JJ)J"⟩, prog_17_method_70_code, 4, (some .long))
def mm_5 : mj_M := (⟨"java/lang/Math", "max", "(JJ)J"⟩, prog_17_method_66_code, 4, (some .long))
def mm_6 : mj_M := (⟨"java/lang/Math", "floorDiv", "(II)I"⟩, prog_17_method_47_code, 3, (some .int))
def mm_7 : mj_M := (⟨"java/lang/Long", "numberOfTrailingZeros", "(J)I"⟩, prog_16_method_49_code, 3, (some .int))
def mm_8 : mj_M := (⟨"java/lang/Integer", "numberOfTrailingZeros", "(I)I"⟩, prog_15_method_48_code, 2, (some .int))
def mm_9 : mj_M := (⟨"UnbeatenHouseModel", "feed", "(IIIII)I"⟩, prog_14_method_4_code, 6, (some .int))
def mm_10 : mj_M := (⟨"UnbeatenHouseModel", "put", "(I)V"⟩, prog_14_method_3_code, 3, none)
def mm_11 : mj_M := (⟨"UnbeatenHouseModel", "end", "(I)Z"⟩, prog_14_method_5_code, 2, (some .boolean))
def mm_12 : mj_M := (⟨"UnbeatenHouseModel", "text", "()I"⟩, prog_14_method_38_code, 4, (some .int))
def mm_13 : mj_M := (⟨"UnbeatenHouseModel", "next", "()V"⟩, prog_14_method_9_code, 6, none)
def mm_14 : mj_M := (⟨"UnbeatenHouseModel", "isLetter", "(I)Z"⟩, prog_14_method_7_code, 1, (some .boolean))
def mm_15 : mj_M := (⟨"UnbeatenHouseModel", "isDigit", "(I)Z"⟩, prog_14_method_8_code, 1, (some .boolean))
def mm_16 : mj_M := (⟨"UnbeatenHouseModel", "blame", "(II)V"⟩, prog_14_method_6_code, 3, none)
def mm_17 : mj_M := (⟨"UnbeatenHouseModel", "statement", "()V"⟩, prog_14_method_37_code, 3, none)
def mm_18 : mj_M := (⟨"UnbeatenHouseModel", "isWord", "(J)Z"⟩, prog_14_method_11_code, 3, (some .boolean))
def mm_19 : mj_M := (⟨"UnbeatenHouseModel", "wish", "()V"⟩, prog_14_method_33_code, 3, none)
def mm_20 : mj_M := (⟨"UnbeatenHouseModel", "counts", "(ZZ)V"⟩, prog_14_method_32_code, 3, none)
def mm_21 : mj_M := (⟨"UnbeatenHouseModel", "fresh", "()J"⟩, prog_14_method_18_code, 3, (some .long))
def mm_22 : mj_M := (⟨"UnbeatenHouseModel", "isOwn", "(J)Z"⟩, prog_14_method_13_code, 3, (some .boolean))
def mm_23 : mj_M := (⟨"UnbeatenHouseModel", "isName", "(J)Z"⟩, prog_14_method_17_code, 4, (some .boolean))
def mm_24 : mj_M := (⟨"UnbeatenHouseModel", "wishOf", "(IJ)I"⟩, prog_14_method_14_code, 5, (some .int))
def mm_25 : mj_M := (⟨"UnbeatenHouseModel", "knotOf", "(IJ)I"⟩, prog_14_method_15_code, 5, (some .int))
def mm_26 : mj_M := (⟨"UnbeatenHouseModel", "thingOf", "(IJ)I"⟩, prog_14_method_16_code, 5, (some .int))
def mm_27 : mj_M := (⟨"UnbeatenHouseModel", "row", "()V"⟩, prog_14_method_34_code, 3, none)
def mm_28 : mj_M := (⟨"UnbeatenHouseModel", "isSign", "(I)Z"⟩, prog_14_method_10_code, 2, (some .boolean))
def mm_29 : mj_M := (⟨"UnbeatenHouseModel", "number", "()I"⟩, prog_14_method_20_code, 2, (some .int))
def mm_30 : mj_M := (⟨"UnbeatenHouseModel", "tie", "()V"⟩, prog_14_method_35_code, 3, none)
def mm_31 : mj_M := (⟨"UnbeatenHouseModel", "knotRead", "(I)I"⟩, prog_14_method_19_code, 3, (some .int))
def mm_32 : mj_M := (⟨"UnbeatenHouseModel", "thing", "()V"⟩, prog_14_method_36_code, 5, none)
def mm_33 : mj_M := (⟨"UnbeatenHouseModel", "readsTest", "()V"⟩, prog_14_method_31_code, 2, none)
def mm_34 : mj_M := (⟨"UnbeatenHouseModel", "pushes", "(I)V"⟩, prog_14_method_25_code, 2, none)
def mm_35 : mj_M := (⟨"UnbeatenHouseModel", "part", "()Z"⟩, prog_14_method_29_code, 4, (some .boolean))
def mm_36 : mj_M := (⟨"UnbeatenHouseModel", "isTest", "(I)Z"⟩, prog_14_method_27_code, 1, (some .boolean))
def mm_37 : mj_M := (⟨"UnbeatenHouseModel", "holdsBack", "(I)V"⟩, prog_14_method_24_code, 2, none)
def mm_38 : mj_M := (⟨"UnbeatenHouseModel", "opens", "(I)V"⟩, prog_14_method_26_code, 2, none)
def mm_39 : mj_M := (⟨"UnbeatenHouseModel", "add", "(II)V"⟩, prog_14_method_21_code, 3, none)
def mm_40 : mj_M := (⟨"UnbeatenHouseModel", "named", "(I)V"⟩, prog_14_method_28_code, 3, none)
def mm_41 : mj_M := (⟨"UnbeatenHouseModel", "goesOn", "()Z"⟩, prog_14_method_30_code, 5, (some .boolean))
def mm_42 : mj_M := (⟨"UnbeatenHouseModel", "joins", "(I)V"⟩, prog_14_method_23_code, 2, none)
def mm_43 : mj_M := (⟨"UnbeatenHouseModel", "rank", "(I)I"⟩, prog_14_method_22_code, 1, (some .int))
def mm_44 : mj_M := (⟨"UnbeatenHouseModel", "must", "(I)V"⟩, prog_14_method_12_code, 2, none)
def mm_45 : mj_M := (⟨"UnbeatenHouseModel", "fault", "(I)I"⟩, prog_14_method_39_code, 2, (some .int))
def mm_46 : mj_M := (⟨"UnbeatenHouseModel", "has", "(I)I"⟩, prog_14_method_40_code, 2, (some .int))
def mm_47 : mj_M := (⟨"UnbeatenHouseModel", "letter", "(III)I"⟩, prog_14_method_42_code, 4, (some .int))
def mm_48 : mj_M := (⟨"UnbeatenHouseModel", "isWish", "(I)Z"⟩, prog_14_method_43_code, 2, (some .boolean))
def mm_49 : mj_M := (⟨"UnbeatenHouseModel", "is", "(III)Z"⟩, prog_14_method_2_code, 3, (some .boolean))
def mm_50 : mj_M := (⟨"UnbeatenHouseModel", "letterOf", "(JI)I"⟩, prog_14_method_41_code, 6, (some .int))
def mm_51 : mj_M := (⟨"UnbeatenHouseModel", "isRow", "(I)Z"⟩, prog_14_method_44_code, 2, (some .boolean))
def mm_52 : mj_M := (⟨"UnbeatenHouseModel", "price", "(IIZ)I"⟩, prog_14_method_49_code, 4, (some .int))
def mm_53 : mj_M := (⟨"UnbeatenHouseModel", "rowAt", "(II)I"⟩, prog_14_method_45_code, 3, (some .int))
def mm_54 : mj_M := (⟨"UnbeatenHouseModel", "beats", "(II)I"⟩, prog_14_method_51_code, 3, (some .int))
def mm_55 : mj_M := (⟨"UnbeatenHouseModel", "doesBeat", "(II)Z"⟩, prog_14_method_50_code, 5, (some .boolean))
def mm_56 : mj_M := (⟨"UnbeatenHouseModel", "isAside", "(I)Z"⟩, prog_14_method_48_code, 3, (some .boolean))
def mm_57 : mj_M := (⟨"UnbeatenHouseModel", "rowLoss", "(II)I"⟩, prog_14_method_47_code, 3, (some .int))
def mm_58 : mj_M := (⟨"UnbeatenHouseModel", "lossOf", "(II)I"⟩, prog_14_method_46_code, 3, (some .int))
def mm_59 : mj_M := (⟨"UnbeatenHouseModel", "rows", "()J"⟩, prog_14_method_53_code, 1, (some .long))
def mm_60 : mj_M := (⟨"UnbeatenHouseModel", "rowFront", "()J"⟩, prog_14_method_52_code, 6, (some .long))
def mm_61 : mj_M := (⟨"UnbeatenHouseModel", "leads", "(I)I"⟩, prog_14_method_54_code, 5, (some .int))
def mm_62 : mj_M := (⟨"UnbeatenHouseModel", "change", "(III)I"⟩, prog_14_method_56_code, 9, (some .int))
def mm_63 : mj_M := (⟨"UnbeatenHouseModel", "bitsOf", "(J)I"⟩, prog_14_method_55_code, 5, (some .int))
def mm_64 : mj_M := (⟨"UnbeatenHouseModel", "changed", "(Z)J"⟩, prog_14_method_57_code, 2, (some .long))
def mm_65 : mj_M := (⟨"UnbeatenHouseModel", "maybe", "(II)I"⟩, prog_14_method_61_code, 3, (some .int))
def mm_66 : mj_M := (⟨"UnbeatenHouseModel", "mayBeat", "(II)I"⟩, prog_14_method_60_code, 8, (some .int))
def mm_67 : mj_M := (⟨"UnbeatenHouseModel", "mostLoss", "(II)I"⟩, prog_14_method_59_code, 3, (some .int))
def mm_68 : mj_M := (⟨"UnbeatenHouseModel", "leastLoss", "(II)I"⟩, prog_14_method_58_code, 3, (some .int))
def mm_69 : mj_M := (⟨"UnbeatenHouseModel", "unsure", "(Z)J"⟩, prog_14_method_62_code, 7, (some .long))
def mm_70 : mj_M := (⟨"UnbeatenHouseModel", "front", "(III)I"⟩, prog_14_method_76_code, 9, (some .int))
def mm_71 : mj_M := (⟨"UnbeatenHouseModel", "ways", "(II)V"⟩, prog_14_method_68_code, 8, none)
def mm_72 : mj_M := (⟨"UnbeatenHouseModel", "gathers", "(I)V"⟩, prog_14_method_66_code, 4, none)
def mm_73 : mj_M := (⟨"UnbeatenHouseModel", "isLost", "(I)Z"⟩, prog_14_method_63_code, 3, (some .boolean))
def mm_74 : mj_M := (⟨"UnbeatenHouseModel", "isWorse", "(I)Z"⟩, prog_14_method_64_code, 3, (some .boolean))
def mm_75 : mj_M := (⟨"UnbeatenHouseModel", "lays", "(II)V"⟩, prog_14_method_65_code, 4, none)
def mm_76 : mj_M := (⟨"UnbeatenHouseModel", "sets", "()V"⟩, prog_14_method_69_code, 4, none)
def mm_77 : mj_M := (⟨"UnbeatenHouseModel", "works", "(II)J"⟩, prog_14_method_75_code, 6, (some .long))
def mm_78 : mj_M := (⟨"UnbeatenHouseModel", "leaf", "(II)J"⟩, prog_14_method_74_code, 3, (some .long))
def mm_79 : mj_M := (⟨"UnbeatenHouseModel", "setHas", "(I)I"⟩, prog_14_method_70_code, 4, (some .int))
def mm_80 : mj_M := (⟨"UnbeatenHouseModel", "two", "(IJJ)J"⟩, prog_14_method_73_code, 5, (some .long))
def mm_81 : mj_M := (⟨"UnbeatenHouseModel", "held", "(J)J"⟩, prog_14_method_71_code, 2, (some .long))
def mm_82 : mj_M := (⟨"UnbeatenHouseModel", "over", "(JJ)J"⟩, prog_14_method_72_code, 6, (some .long))
def mm_83 : mj_M := (⟨"UnbeatenHouseModel", "isAhead", "(II)Z"⟩, prog_14_method_67_code, 4, (some .boolean))
def mm_84 : mj_M := (⟨"UnbeatenHouseModel", "loss", "(II)I"⟩, prog_14_method_78_code, 3, (some .int))
def mm_85 : mj_M := (⟨"UnbeatenHouseModel", "isFront", "(I)Z"⟩, prog_14_method_77_code, 2, (some .boolean))
def mm_86 : mj_M := (⟨"UnbeatenHouseModel", "who", "(I)I"⟩, prog_14_method_79_code, 2, (some .int))
def mm_87 : mj_M := (⟨"UnbeatenHouseModel", "knot", "(II)I"⟩, prog_14_method_80_code, 3, (some .int))
def mm_88 : mj_M := (⟨"UnbeatenHouseModel", "grid", "(I)Z"⟩, prog_14_method_81_code, 2, (some .boolean))
def mm_89 : mj_M := (⟨"UnbeatenHouseModel", "corner", "(I)I"⟩, prog_14_method_86_code, 4, (some .int))
def mm_90 : mj_M := (⟨"UnbeatenHouseModel", "numbers", "()I"⟩, prog_14_method_82_code, 3, (some .int))
def mm_91 : mj_M := (⟨"UnbeatenHouseModel", "isWeighing", "(I)Z"⟩, prog_14_method_83_code, 5, (some .boolean))
def mm_92 : mj_M := (⟨"UnbeatenHouseModel", "isFirst", "(I)Z"⟩, prog_14_method_85_code, 3, (some .boolean))
def mm_93 : mj_M := (⟨"UnbeatenHouseModel", "worth", "(I)I"⟩, prog_14_method_84_code, 4, (some .int))
def mm_94 : mj_M := (⟨"UnbeatenHouseModel", "weight", "(II)I"⟩, prog_14_method_87_code, 4, (some .int))
def mm_95 : mj_M := (⟨"UnbeatenHouseModel", "near", "(I)I"⟩, prog_14_method_92_code, 4, (some .int))
def mm_96 : mj_M := (⟨"UnbeatenHouseModel", "apart", "(I)I"⟩, prog_14_method_89_code, 6, (some .int))
def mm_97 : mj_M := (⟨"UnbeatenHouseModel", "more", "(II)I"⟩, prog_14_method_88_code, 5, (some .int))
def mm_98 : mj_M := (⟨"UnbeatenHouseModel", "keeps", "(I)V"⟩, prog_14_method_91_code, 3, none)
def mm_99 : mj_M := (⟨"UnbeatenHouseModel", "nextPick", "(I)Z"⟩, prog_14_method_90_code, 4, (some .boolean))
def mm_100 : mj_M := (⟨"UnbeatenHouseModel", "standIns", "(I)I"⟩, prog_14_method_93_code, 5, (some .int))
def mm_101 : mj_M := (⟨"UnbeatenHouseModel", "kept", "(I)I"⟩, prog_14_method_94_code, 2, (some .int))
def mm_102 : mj_M := (⟨"UnbeatenHouseModel", "cost", "(IIIZ)I"⟩, prog_14_method_96_code, 10, (some .int))
def mm_103 : mj_M := (⟨"UnbeatenHouseModel", "common", "(II)I"⟩, prog_14_method_95_code, 5, (some .int))
def mm_104 : mj_M := (⟨"UnbeatenHouseModel", "hole", "(I)I"⟩, prog_14_method_97_code, 7, (some .int))
def mm_105 : mj_M := (⟨"UnbeatenHouseModel", "rather", "(II)I"⟩, prog_14_method_99_code, 3, (some .int))
def mm_106 : mj_M := (⟨"UnbeatenHouseModel", "unsay", "()I"⟩, prog_14_method_100_code, 1, (some .int))
def mm_107 : mj_M := (⟨"UnbeatenHouseModel", "agree", "()I"⟩, prog_14_method_103_code, 3, (some .int))
def mm_108 : mj_M := (⟨"UnbeatenHouseModel", "agrees", "()Z"⟩, prog_14_method_102_code, 1, (some .boolean))
def mm_109 : mj_M := (⟨"UnbeatenHouseModel", "agreed", "()I"⟩, prog_14_method_101_code, 3, (some .int))
def mm_110 : mj_M := (⟨"UnbeatenHouseModel", "rowWorth", "(I)I"⟩, prog_14_method_98_code, 4, (some .int))
def mm_111 : mj_M := (⟨"UnbeatenHouseModel", "could", "()J"⟩, prog_14_method_105_code, 4, (some .long))
def mm_112 : mj_M := (⟨"UnbeatenHouseModel", "gathersAgreeing", "()V"⟩, prog_14_method_104_code, 9, none)
def mm_113 : mj_M := (⟨"UnbeatenHouseModel", "question", "(I)I"⟩, prog_14_method_107_code, 12, (some .int))
def mm_114 : mj_M := (⟨"UnbeatenHouseModel", "leaves", "(II)I"⟩, prog_14_method_106_code, 6, (some .int))
def mm_115 : mj_M := (⟨"UnbeatenHouseModel", "quarrel", "()I"⟩, prog_14_method_109_code, 6, (some .int))
def mm_116 : mj_M := (⟨"UnbeatenHouseModel", "isAgreed", "(II)Z"⟩, prog_14_method_108_code, 4, (some .boolean))
def mm_117 : mj_M := (⟨"UnbeatenHouseModel", "stop", "(I)I"⟩, prog_14_method_110_code, 9, (some .int))
def mm_118 : mj_M := (⟨"UnbeatenHouseModel", "person", "(IIIII)Z"⟩, prog_14_method_112_code, 7, (some .boolean))
def mm_119 : mj_M := (⟨"UnbeatenHouseModel", "isPerson", "(I)Z"⟩, prog_14_method_111_code, 1, (some .boolean))
def mm_120 : mj_M := (⟨"UnbeatenHouseModel", "bar", "(IIZ)Z"⟩, prog_14_method_113_code, 4, (some .boolean))
def mm_121 : mj_M := (⟨"UnbeatenHouseModel", "choose", "(I)I"⟩, prog_14_method_123_code, 2, (some .int))
def mm_122 : mj_M := (⟨"UnbeatenHouseModel", "voters", "()I"⟩, prog_14_method_115_code, 3, (some .int))
def mm_123 : mj_M := (⟨"UnbeatenHouseModel", "votes", "(I)Z"⟩, prog_14_method_114_code, 2, (some .boolean))
def mm_124 : mj_M := (⟨"UnbeatenHouseModel", "candidates", "()J"⟩, prog_14_method_116_code, 4, (some .long))
def mm_125 : mj_M := (⟨"UnbeatenHouseModel", "chosenBy", "(IJ)I"⟩, prog_14_method_122_code, 8, (some .int))
def mm_126 : mj_M := (⟨"UnbeatenHouseModel", "against", "(IIJ)I"⟩, prog_14_method_121_code, 10, (some .int))
def mm_127 : mj_M := (⟨"UnbeatenHouseModel", "placeOf", "(IIJ)I"⟩, prog_14_method_119_code, 7, (some .int))
def mm_128 : mj_M := (⟨"UnbeatenHouseModel", "isBefore", "(III)Z"⟩, prog_14_method_118_code, 6, (some .boolean))
def mm_129 : mj_M := (⟨"UnbeatenHouseModel", "personWorth", "(II)I"⟩, prog_14_method_117_code, 5, (some .int))
def mm_130 : mj_M := (⟨"UnbeatenHouseModel", "wins", "(II)Z"⟩, prog_14_method_120_code, 5, (some .boolean))
def mm_131 : mj_M := (⟨"UnbeatenHouseModel", "breaks", "(I)I"⟩, prog_14_method_124_code, 12, (some .int))
def mm_132 : mj_M := (⟨"UnbeatenHouseModel", "place", "(II)I"⟩, prog_14_method_125_code, 3, (some .int))
def mm_133 : mj_M := (⟨"UnbeatenHouse", "feed", "(IIIII)I"⟩, prog_1_method_2_code, 6, (some .int))
def mm_134 : mj_M := (⟨"UnbeatenHouse", "putBytes", "(I)V"⟩, prog_1_method_3_code, 3, none)
def mm_135 : mj_M := (⟨"UnbeatenHouse", "end", "(I)Z"⟩, prog_1_method_4_code, 2, (some .boolean))
def mm_136 : mj_M := (⟨"UnbeatenHouse", "text", "()I"⟩, prog_1_method_5_code, 2, (some .int))
def mm_137 : mj_M := (⟨"UnbeatenHouse$Reader", "read", "(I)Z"⟩, prog_8_method_3_code, 3, (some .boolean))
def mm_138 : mj_M := (⟨"UnbeatenHouse$Tale", "clear", "()V"⟩, prog_11_method_3_code, 2, none)
def mm_139 : mj_M := (⟨"UnbeatenHouse$Reader", "advance", "()V"⟩, prog_8_method_5_code, 6, none)
def mm_140 : mj_M := (⟨"UnbeatenHouse$Reader", "kindOf", "(I)I"⟩, prog_8_method_6_code, 1, (some .int))
def mm_141 : mj_M := (⟨"UnbeatenHouse$Reader", "ownNumber", "(I)I"⟩, prog_8_method_7_code, 3, (some .int))
def mm_142 : mj_M := (⟨"UnbeatenHouse$Reader", "readStatement", "()V"⟩, prog_8_method_14_code, 2, none)
def mm_143 : mj_M := (⟨"UnbeatenHouse$Reader", "blame", "(I)V"⟩, prog_8_method_4_code, 2, none)
def mm_144 : mj_M := (⟨"UnbeatenHouse$Reader", "isOutOfTurn", "(I)Z"⟩, prog_8_method_15_code, 2, (some .boolean))
def mm_145 : mj_M := (⟨"UnbeatenHouse$Reader", "readWish", "()V"⟩, prog_8_method_16_code, 2, none)
def mm_146 : mj_M := (⟨"UnbeatenHouse$Reader", "giveName", "(I)V"⟩, prog_8_method_12_code, 2, none)
def mm_147 : mj_M := (⟨"UnbeatenHouse$Reader", "isName", "()Z"⟩, prog_8_method_11_code, 1, (some .boolean))
def mm_148 : mj_M := (⟨"UnbeatenHouse$Tale", "isGiven", "(I)Z"⟩, prog_11_method_6_code, 3, (some .boolean))
def mm_149 : mj_M := (⟨"UnbeatenHouse$Tale", "find", "(II)I"⟩, prog_11_method_5_code, 4, (some .int))
def mm_150 : mj_M := (⟨"UnbeatenHouse$Tale", "give", "(II)V"⟩, prog_11_method_7_code, 3, none)
def mm_151 : mj_M := (⟨"UnbeatenHouse$Reader", "readTie", "()V"⟩, prog_8_method_17_code, 2, none)
def mm_152 : mj_M := (⟨"UnbeatenHouse$Reader", "askName", "(II)I"⟩, prog_8_method_13_code, 4, (some .int))
def mm_153 : mj_M := (⟨"UnbeatenHouse$Reader", "readAmounts", "(II)V"⟩, prog_8_method_19_code, 4, none)
def mm_154 : mj_M := (⟨"UnbeatenHouse$Tale", "slot", "(III)I"⟩, prog_11_method_2_code, 3, (some .int))
def mm_155 : mj_M := (⟨"UnbeatenHouse$Reader", "takeNumber", "()I"⟩, prog_8_method_10_code, 2, (some .int))
def mm_156 : mj_M := (⟨"UnbeatenHouse$Reader", "readRule", "()V"⟩, prog_8_method_21_code, 2, none)
def mm_157 : mj_M := (⟨"UnbeatenHouse$Reader", "readTest", "()V"⟩, prog_8_method_22_code, 2, none)
def mm_158 : mj_M := (⟨"UnbeatenHouse$Reader", "readBoth", "()V"⟩, prog_8_method_23_code, 2, none)
def mm_159 : mj_M := (⟨"UnbeatenHouse$Reader", "readFact", "()V"⟩, prog_8_method_24_code, 3, none)
def mm_160 : mj_M := (⟨"UnbeatenHouse$Reader", "isSign", "(I)Z"⟩, prog_8_method_8_code, 2, (some .boolean))
def mm_161 : mj_M := (⟨"UnbeatenHouse$Reader", "opensOne", "(I)Z"⟩, prog_8_method_30_code, 2, (some .boolean))
def mm_162 : mj_M := (⟨"UnbeatenHouse$Reader", "closeOne", "(I)V"⟩, prog_8_method_31_code, 2, none)
def mm_163 : mj_M := (⟨"UnbeatenHouse$Reader", "take", "(I)V"⟩, prog_8_method_9_code, 2, none)
def mm_164 : mj_M := (⟨"UnbeatenHouse$Tale", "addStep", "(II)V"⟩, prog_11_method_8_code, 3, none)
def mm_165 : mj_M := (⟨"UnbeatenHouse$Reader", "readComparison", "()V"⟩, prog_8_method_25_code, 2, none)
def mm_166 : mj_M := (⟨"UnbeatenHouse$Reader", "readSum", "()V"⟩, prog_8_method_26_code, 3, none)
def mm_167 : mj_M := (⟨"UnbeatenHouse$Reader", "readProduct", "()V"⟩, prog_8_method_27_code, 3, none)
def mm_168 : mj_M := (⟨"UnbeatenHouse$Reader", "readPart", "()V"⟩, prog_8_method_28_code, 2, none)
def mm_169 : mj_M := (⟨"UnbeatenHouse$Reader", "readPair", "(I)V"⟩, prog_8_method_29_code, 2, none)
def mm_170 : mj_M := (⟨"UnbeatenHouse$Reader", "readRow", "()V"⟩, prog_8_method_20_code, 5, none)
def mm_171 : mj_M := (⟨"UnbeatenHouse$Reader", "readThing", "()V"⟩, prog_8_method_18_code, 2, none)
def mm_172 : mj_M := (⟨"UnbeatenHouse$Reader", "swap", "(LUnbeatenHouse$Tale;)LUnbeatenHouse$Tale;"⟩, prog_8_method_2_code, 3, (some (.object "UnbeatenHouse$Tale")))
def mm_173 : mj_M := (⟨"UnbeatenHouse$Rows", "take", "(LUnbeatenHouse$Tale;)V"⟩, prog_9_method_2_code, 4, none)
def mm_174 : mj_M := (⟨"UnbeatenHouse$Rows", "takeLoss", "(LUnbeatenHouse$Tale;II)V"⟩, prog_9_method_3_code, 6, none)
def mm_175 : mj_M := (⟨"UnbeatenHouse$Tale", "lossFor", "(II)I"⟩, prog_11_method_9_code, 3, (some .int))
def mm_176 : mj_M := (⟨"UnbeatenHouse$Rows", "unbeaten", "([I[I)J"⟩, prog_9_method_7_code, 8, (some .long))
def mm_177 : mj_M := (⟨"UnbeatenHouse$Rows", "isJudged", "(I)Z"⟩, prog_9_method_4_code, 2, (some .boolean))
def mm_178 : mj_M := (⟨"UnbeatenHouse", "isIn", "(JI)Z"⟩, prog_1_method_46_code, 3, (some .boolean))
def mm_179 : mj_M := (⟨"UnbeatenHouse$Rows", "outdoes", "(I[II[I)Z"⟩, prog_9_method_5_code, 7, (some .boolean))
def mm_180 : mj_M := (⟨"UnbeatenHouse", "isNowhereMore", "([II[III)Z"⟩, prog_1_method_47_code, 6, (some .boolean))
def mm_181 : mj_M := (⟨"UnbeatenHouse$Front", "drop", "()V"⟩, prog_2_method_2_code, 1, none)
def mm_182 : mj_M := (⟨"UnbeatenHouse$Front", "start", "(I)V"⟩, prog_2_method_3_code, 2, none)
def mm_183 : mj_M := (⟨"UnbeatenHouse$Picker", "forget", "()V"⟩, prog_6_method_2_code, 1, none)
def mm_184 : mj_M := (⟨"UnbeatenHouse$Sayings", "forget", "()V"⟩, prog_10_method_2_code, 1, none)
def mm_185 : mj_M := (⟨"UnbeatenHouse$People", "forget", "()V"⟩, prog_5_method_3_code, 2, none)
def mm_186 : mj_M := (⟨"UnbeatenHouse$Weighings", "make", "(II)V"⟩, prog_12_method_2_code, 9, none)
def mm_187 : mj_M := (⟨"UnbeatenHouse$Weighings", "add", "(IIII)V"⟩, prog_12_method_3_code, 6, none)
def mm_188 : mj_M := (⟨"UnbeatenHouse$Weighings", "put", "(II)V"⟩, prog_12_method_4_code, 3, none)
def mm_189 : mj_M := (⟨"UnbeatenHouse", "fault", "(I)I"⟩, prog_1_method_6_code, 2, (some .int))
def mm_190 : mj_M := (⟨"UnbeatenHouse", "has", "(I)I"⟩, prog_1_method_7_code, 2, (some .int))
def mm_191 : mj_M := (⟨"UnbeatenHouse", "letter", "(III)I"⟩, prog_1_method_8_code, 5, (some .int))
def mm_192 : mj_M := (⟨"UnbeatenHouse$Tale", "isThere", "(II)Z"⟩, prog_11_method_4_code, 3, (some .boolean))
def mm_193 : mj_M := (⟨"UnbeatenHouse", "letterOf", "(II)I"⟩, prog_1_method_9_code, 4, (some .int))
def mm_194 : mj_M := (⟨"UnbeatenHouse", "price", "(IIZ)I"⟩, prog_1_method_10_code, 5, (some .int))
def mm_195 : mj_M := (⟨"UnbeatenHouse", "beats", "(II)I"⟩, prog_1_method_11_code, 3, (some .int))
def mm_196 : mj_M := (⟨"UnbeatenHouse$Rows", "isBetter", "(II)Z"⟩, prog_9_method_6_code, 3, (some .boolean))
def mm_197 : mj_M := (⟨"UnbeatenHouse", "leads", "(I)I"⟩, prog_1_method_12_code, 3, (some .int))
def mm_198 : mj_M := (⟨"UnbeatenHouse", "change", "(III)I"⟩, prog_1_method_13_code, 6, (some .int))
def mm_199 : mj_M := (⟨"UnbeatenHouse", "changed", "(Z)J"⟩, prog_1_method_14_code, 2, (some .long))
def mm_200 : mj_M := (⟨"UnbeatenHouse", "rows", "()J"⟩, prog_1_method_15_code, 1, (some .long))
def mm_201 : mj_M := (⟨"UnbeatenHouse", "unsure", "(Z)J"⟩, prog_1_method_16_code, 2, (some .long))
def mm_202 : mj_M := (⟨"UnbeatenHouse", "maybe", "(II)I"⟩, prog_1_method_17_code, 3, (some .int))
def mm_203 : mj_M := (⟨"UnbeatenHouse", "front", "(III)I"⟩, prog_1_method_18_code, 4, (some .int))
def mm_204 : mj_M := (⟨"UnbeatenHouse$Rows", "putFront", "(LUnbeatenHouse$Front;)V"⟩, prog_9_method_8_code, 3, none)
def mm_205 : mj_M := (⟨"UnbeatenHouse$Front", "add", "([IIJ)V"⟩, prog_2_method_6_code, 5, none)
def mm_206 : mj_M := (⟨"UnbeatenHouse", "takeWays", "(II)I"⟩, prog_1_method_19_code, 4, (some .int))
def mm_207 : mj_M := (⟨"UnbeatenHouse$Gatherer", "gatherWays", "(LUnbeatenHouse$Tale;IILUnbeatenHouse$Pool;)V"⟩, prog_3_method_2_code, 6, none)
def mm_208 : mj_M := (⟨"UnbeatenHouse$Pool", "clear", "(I)V"⟩, prog_7_method_2_code, 2, none)
def mm_209 : mj_M := (⟨"UnbeatenHouse$Gatherer", "walk", "(LUnbeatenHouse$Tale;LUnbeatenHouse$Pool;IIIIJ)V"⟩, prog_3_method_3_code, 13, none)
def mm_210 : mj_M := (⟨"UnbeatenHouse$Gatherer", "putLosses", "(LUnbeatenHouse$Tale;I)V"⟩, prog_3_method_5_code, 4, none)
def mm_211 : mj_M := (⟨"UnbeatenHouse$Pool", "add", "([IJ)V"⟩, prog_7_method_3_code, 4, none)
def mm_212 : mj_M := (⟨"UnbeatenHouse$Gatherer", "goAlong", "(LUnbeatenHouse$Tale;II)V"⟩, prog_3_method_4_code, 6, none)
def mm_213 : mj_M := (⟨"UnbeatenHouse$Pool", "putFront", "(LUnbeatenHouse$Front;I)I"⟩, prog_7_method_4_code, 5, (some .int))
def mm_214 : mj_M := (⟨"UnbeatenHouse$Pool", "sort", "()V"⟩, prog_7_method_5_code, 2, none)
def mm_215 : mj_M := (⟨"UnbeatenHouse$Pool", "sink", "(II)V"⟩, prog_7_method_6_code, 6, none)
def mm_216 : mj_M := (⟨"UnbeatenHouse$Pool", "isAhead", "(II)Z"⟩, prog_7_method_8_code, 6, (some .boolean))
def mm_217 : mj_M := (⟨"UnbeatenHouse$Pool", "swap", "(II)V"⟩, prog_7_method_7_code, 4, none)
def mm_218 : mj_M := (⟨"UnbeatenHouse$Front", "standsUnder", "([III)Z"⟩, prog_2_method_8_code, 5, (some .boolean))
def mm_219 : mj_M := (⟨"UnbeatenHouse$Front", "copy", "(LUnbeatenHouse$Front;)V"⟩, prog_2_method_7_code, 3, none)
def mm_220 : mj_M := (⟨"UnbeatenHouse", "takeSets", "()I"⟩, prog_1_method_20_code, 1, (some .int))
def mm_221 : mj_M := (⟨"UnbeatenHouse$Gatherer", "gatherSets", "(LUnbeatenHouse$Tale;LUnbeatenHouse$Pool;)V"⟩, prog_3_method_6_code, 4, none)
def mm_222 : mj_M := (⟨"UnbeatenHouse$Gatherer", "addUp", "(LUnbeatenHouse$Tale;I)V"⟩, prog_3_method_7_code, 5, none)
def mm_223 : mj_M := (⟨"UnbeatenHouse$Judge", "allows", "(LUnbeatenHouse$Tale;I[I)Z"⟩, prog_4_method_2_code, 6, (some .boolean))
def mm_224 : mj_M := (⟨"UnbeatenHouse$Judge", "work", "(III[I)V"⟩, prog_4_method_5_code, 7, none)
def mm_225 : mj_M := (⟨"UnbeatenHouse$Judge", "push", "(I)V"⟩, prog_4_method_3_code, 2, none)
def mm_226 : mj_M := (⟨"UnbeatenHouse$Judge", "pop", "()I"⟩, prog_4_method_4_code, 1, (some .int))
def mm_227 : mj_M := (⟨"UnbeatenHouse$Judge", "join", "(III)I"⟩, prog_4_method_6_code, 3, (some .int))
def mm_228 : mj_M := (⟨"UnbeatenHouse$Judge", "bounded", "(J)I"⟩, prog_4_method_8_code, 2, (some .int))
def mm_229 : mj_M := (⟨"UnbeatenHouse$Judge", "holds", "(III)Z"⟩, prog_4_method_7_code, 3, (some .boolean))
def mm_230 : mj_M := (⟨"UnbeatenHouse", "loss", "(II)I"⟩, prog_1_method_21_code, 3, (some .int))
def mm_231 : mj_M := (⟨"UnbeatenHouse$Front", "isThere", "(I)Z"⟩, prog_2_method_5_code, 2, (some .boolean))
def mm_232 : mj_M := (⟨"UnbeatenHouse", "who", "(I)I"⟩, prog_1_method_22_code, 2, (some .int))
def mm_233 : mj_M := (⟨"UnbeatenHouse$Front", "knotsOf", "(J)I"⟩, prog_2_method_11_code, 2, (some .int))
def mm_234 : mj_M := (⟨"UnbeatenHouse", "knot", "(II)I"⟩, prog_1_method_23_code, 3, (some .int))
def mm_235 : mj_M := (⟨"UnbeatenHouse$Front", "knotOf", "(JI)I"⟩, prog_2_method_12_code, 3, (some .int))
def mm_236 : mj_M := (⟨"UnbeatenHouse", "grid", "(I)Z"⟩, prog_1_method_24_code, 2, (some .boolean))
def mm_237 : mj_M := (⟨"UnbeatenHouse", "corner", "(I)I"⟩, prog_1_method_25_code, 4, (some .int))
def mm_238 : mj_M := (⟨"UnbeatenHouse$Weighings", "isFirst", "(ILUnbeatenHouse$Front;I)Z"⟩, prog_12_method_6_code, 6, (some .boolean))
def mm_239 : mj_M := (⟨"UnbeatenHouse$Weighings", "weigh", "(I[II)I"⟩, prog_12_method_5_code, 6, (some .int))
def mm_240 : mj_M := (⟨"UnbeatenHouse", "weight", "(II)I"⟩, prog_1_method_26_code, 4, (some .int))
def mm_241 : mj_M := (⟨"UnbeatenHouse", "near", "(I)I"⟩, prog_1_method_27_code, 2, (some .int))
def mm_242 : mj_M := (⟨"UnbeatenHouse$Front", "isAtHand", "()Z"⟩, prog_2_method_4_code, 1, (some .boolean))
def mm_243 : mj_M := (⟨"UnbeatenHouse$Picker", "pickFewest", "(LUnbeatenHouse$Front;II)I"⟩, prog_6_method_3_code, 5, (some .int))
def mm_244 : mj_M := (⟨"UnbeatenHouse$Picker", "measure", "(LUnbeatenHouse$Front;I)V"⟩, prog_6_method_5_code, 7, none)
def mm_245 : mj_M := (⟨"UnbeatenHouse$Front", "difference", "(III)I"⟩, prog_2_method_9_code, 4, (some .int))
def mm_246 : mj_M := (⟨"UnbeatenHouse$Picker", "pickOf", "(III)I"⟩, prog_6_method_6_code, 8, (some .int))
def mm_247 : mj_M := (⟨"UnbeatenHouse$Picker", "farthest", "(II)I"⟩, prog_6_method_7_code, 7, (some .int))
def mm_248 : mj_M := (⟨"UnbeatenHouse$Picker", "moveOn", "(I)Z"⟩, prog_6_method_8_code, 4, (some .boolean))
def mm_249 : mj_M := (⟨"UnbeatenHouse", "standIns", "(I)I"⟩, prog_1_method_28_code, 2, (some .int))
def mm_250 : mj_M := (⟨"UnbeatenHouse$Picker", "pickClosest", "(LUnbeatenHouse$Front;II)I"⟩, prog_6_method_4_code, 4, (some .int))
def mm_251 : mj_M := (⟨"UnbeatenHouse", "kept", "(I)I"⟩, prog_1_method_29_code, 2, (some .int))
def mm_252 : mj_M := (⟨"UnbeatenHouse", "cost", "(IIIZ)I"⟩, prog_1_method_30_code, 14, (some .int))
def mm_253 : mj_M := (⟨"UnbeatenHouse", "commonDivisor", "(JJ)J"⟩, prog_1_method_31_code, 11, (some .long))
def mm_254 : mj_M := (⟨"UnbeatenHouse", "hole", "(I)I"⟩, prog_1_method_32_code, 4, (some .int))
def mm_255 : mj_M := (⟨"UnbeatenHouse$Front", "stepAbove", "(II)I"⟩, prog_2_method_10_code, 6, (some .int))
def mm_256 : mj_M := (⟨"UnbeatenHouse", "rather", "(II)I"⟩, prog_1_method_33_code, 3, (some .int))
def mm_257 : mj_M := (⟨"UnbeatenHouse$Sayings", "add", "(II)I"⟩, prog_10_method_3_code, 3, (some .int))
def mm_258 : mj_M := (⟨"UnbeatenHouse", "unsay", "()I"⟩, prog_1_method_34_code, 1, (some .int))
def mm_259 : mj_M := (⟨"UnbeatenHouse", "agree", "()I"⟩, prog_1_method_35_code, 3, (some .int))
def mm_260 : mj_M := (⟨"UnbeatenHouse$Sayings", "isAgreed", "(ILUnbeatenHouse$Weighings;LUnbeatenHouse$Rows;)Z"⟩, prog_10_method_5_code, 5, (some .boolean))
def mm_261 : mj_M := (⟨"UnbeatenHouse$Sayings", "isSayingAgreed", "(IILUnbeatenHouse$Weighings;LUnbeatenHouse$Rows;)Z"⟩, prog_10_method_4_code, 7, (some .boolean))
def mm_262 : mj_M := (⟨"UnbeatenHouse", "could", "()J"⟩, prog_1_method_36_code, 4, (some .long))
def mm_263 : mj_M := (⟨"UnbeatenHouse$Rows", "firstBy", "(ILUnbeatenHouse$Weighings;I)J"⟩, prog_9_method_9_code, 8, (some .long))
def mm_264 : mj_M := (⟨"UnbeatenHouse", "question", "(I)I"⟩, prog_1_method_37_code, 2, (some .int))
def mm_265 : mj_M := (⟨"UnbeatenHouse$Sayings", "ask", "(LUnbeatenHouse$Weighings;LUnbeatenHouse$Rows;)Z"⟩, prog_10_method_6_code, 5, (some .boolean))
def mm_266 : mj_M := (⟨"UnbeatenHouse$Sayings", "noteFirst", "(JLUnbeatenHouse$Rows;)V"⟩, prog_10_method_7_code, 6, none)
def mm_267 : mj_M := (⟨"UnbeatenHouse$Sayings", "tryQuestion", "(II)V"⟩, prog_10_method_8_code, 4, none)
def mm_268 : mj_M := (⟨"UnbeatenHouse", "quarrel", "()I"⟩, prog_1_method_38_code, 1, (some .int))
def mm_269 : mj_M := (⟨"UnbeatenHouse$Sayings", "fewestAtOdds", "(LUnbeatenHouse$Weighings;LUnbeatenHouse$Rows;)I"⟩, prog_10_method_9_code, 6, (some .int))
def mm_270 : mj_M := (⟨"UnbeatenHouse$Sayings", "agreedSayings", "(ILUnbeatenHouse$Weighings;LUnbeatenHouse$Rows;)I"⟩, prog_10_method_10_code, 6, (some .int))
def mm_271 : mj_M := (⟨"UnbeatenHouse$Sayings", "spreadToParts", "(I)V"⟩, prog_10_method_11_code, 4, none)
def mm_272 : mj_M := (⟨"UnbeatenHouse$Sayings", "isAhead", "(II)Z"⟩, prog_10_method_12_code, 4, (some .boolean))
def mm_273 : mj_M := (⟨"UnbeatenHouse", "stop", "(I)I"⟩, prog_1_method_39_code, 6, (some .int))
def mm_274 : mj_M := (⟨"UnbeatenHouse", "person", "(IIIII)Z"⟩, prog_1_method_40_code, 8, (some .boolean))
def mm_275 : mj_M := (⟨"UnbeatenHouse$People", "isOne", "(I)Z"⟩, prog_5_method_2_code, 1, (some .boolean))
def mm_276 : mj_M := (⟨"UnbeatenHouse", "isWeight", "(III)Z"⟩, prog_1_method_41_code, 3, (some .boolean))
def mm_277 : mj_M := (⟨"UnbeatenHouse", "bar", "(IIZ)Z"⟩, prog_1_method_42_code, 6, (some .boolean))
def mm_278 : mj_M := (⟨"UnbeatenHouse", "choose", "(I)I"⟩, prog_1_method_43_code, 2, (some .int))
def mm_279 : mj_M := (⟨"UnbeatenHouse$People", "gather", "(LUnbeatenHouse$Rows;)Z"⟩, prog_5_method_4_code, 3, (some .boolean))
def mm_280 : mj_M := (⟨"UnbeatenHouse$People", "weighAll", "(ILUnbeatenHouse$Rows;)V"⟩, prog_5_method_5_code, 6, none)
def mm_281 : mj_M := (⟨"UnbeatenHouse$People", "pick", "(IJ)I"⟩, prog_5_method_9_code, 8, (some .int))
def mm_282 : mj_M := (⟨"UnbeatenHouse$People", "pickAheadOfAll", "(J)I"⟩, prog_5_method_11_code, 6, (some .int))
def mm_283 : mj_M := (⟨"UnbeatenHouse$People", "isAheadForMost", "(II)Z"⟩, prog_5_method_8_code, 5, (some .boolean))
def mm_284 : mj_M := (⟨"UnbeatenHouse$People", "isAhead", "(III)Z"⟩, prog_5_method_6_code, 5, (some .boolean))
def mm_285 : mj_M := (⟨"UnbeatenHouse$People", "blameOf", "(IIJ)I"⟩, prog_5_method_10_code, 8, (some .int))
def mm_286 : mj_M := (⟨"UnbeatenHouse$People", "rank", "(IIJ)I"⟩, prog_5_method_7_code, 7, (some .int))
def mm_287 : mj_M := (⟨"UnbeatenHouse", "breaks", "(I)I"⟩, prog_1_method_44_code, 2, (some .int))
def mm_288 : mj_M := (⟨"UnbeatenHouse$People", "broken", "(I)I"⟩, prog_5_method_12_code, 5, (some .int))
def mm_289 : mj_M := (⟨"UnbeatenHouse$People", "isBehindAll", "(I)Z"⟩, prog_5_method_13_code, 3, (some .boolean))
def mm_290 : mj_M := (⟨"UnbeatenHouse$People", "everFirst", "()J"⟩, prog_5_method_14_code, 4, (some .long))
def mm_291 : mj_M := (⟨"UnbeatenHouse", "place", "(II)I"⟩, prog_1_method_45_code, 3, (some .int))
def mj_ML : List mj_M := [mm_0, mm_1, mm_2, mm_3, mm_4, mm_5, mm_6, mm_7, mm_8, mm_9, mm_10, mm_11, mm_12, mm_13, mm_14, mm_15, mm_16, mm_17, mm_18, mm_19, mm_20, mm_21, mm_22, mm_23, mm_24, mm_25, mm_26, mm_27, mm_28, mm_29, mm_30, mm_31, mm_32, mm_33, mm_34, mm_35, mm_36, mm_37, mm_38, mm_39, mm_40, mm_41, mm_42, mm_43, mm_44, mm_45, mm_46, mm_47, mm_48, mm_49, mm_50, mm_51, mm_52, mm_53, mm_54, mm_55, mm_56, mm_57, mm_58, mm_59, mm_60, mm_61, mm_62, mm_63, mm_64, mm_65, mm_66, mm_67, mm_68, mm_69, mm_70, mm_71, mm_72, mm_73, mm_74, mm_75, mm_76, mm_77, mm_78, mm_79, mm_80, mm_81, mm_82, mm_83, mm_84, mm_85, mm_86, mm_87, mm_88, mm_89, mm_90, mm_91, mm_92, mm_93, mm_94, mm_95, mm_96, mm_97, mm_98, mm_99, mm_100, mm_101, mm_102, mm_103, mm_104, mm_105, mm_106, mm_107, mm_108, mm_109, mm_110, mm_111, mm_112, mm_113, mm_114, mm_115, mm_116, mm_117, mm_118, mm_119, mm_120, mm_121, mm_122, mm_123, mm_124, mm_125, mm_126, mm_127, mm_128, mm_129, mm_130, mm_131, mm_132, mm_133, mm_134, mm_135, mm_136, mm_137, mm_138, mm_139, mm_140, mm_141, mm_142, mm_143, mm_144, mm_145, mm_146, mm_147, mm_148, mm_149, mm_150, mm_151, mm_152, mm_153, mm_154, mm_155, mm_156, mm_157, mm_158, mm_159, mm_160, mm_161, mm_162, mm_163, mm_164, mm_165, mm_166, mm_167, mm_168, mm_169, mm_170, mm_171, mm_172, mm_173, mm_174, mm_175, mm_176, mm_177, mm_178, mm_179, mm_180, mm_181, mm_182, mm_183, mm_184, mm_185, mm_186, mm_187, mm_188, mm_189, mm_190, mm_191, mm_192, mm_193, mm_194, mm_195, mm_196, mm_197, mm_198, mm_199, mm_200, mm_201, mm_202, mm_203, mm_204, mm_205, mm_206, mm_207, mm_208, mm_209, mm_210, mm_211, mm_212, mm_213, mm_214, mm_215, mm_216, mm_217, mm_218, mm_219, mm_220, mm_221, mm_222, mm_223, mm_224, mm_225, mm_226, mm_227, mm_228, mm_229, mm_230, mm_231, mm_232, mm_233, mm_234, mm_235, mm_236, mm_237, mm_238, mm_239, mm_240, mm_241, mm_242, mm_243, mm_244, mm_245, mm_246, mm_247, mm_248, mm_249, mm_250, mm_251, mm_252, mm_253, mm_254, mm_255, mm_256, mm_257, mm_258, mm_259, mm_260, mm_261, mm_262, mm_263, mm_264, mm_265, mm_266, mm_267, mm_268, mm_269, mm_270, mm_271, mm_272, mm_273, mm_274, mm_275, mm_276, mm_277, mm_278, mm_279, mm_280, mm_281, mm_282, mm_283, mm_284, mm_285, mm_286, mm_287, mm_288, mm_289, mm_290, mm_291]
def mj_MS (z : Nat) : mj_M := mj_ML.getD z mm_0
set_option maxRecDepth 100000 in
theorem my_0 : mj_okY lw_tbl mm_0 := ⟨List.mem_of_getElem? (i := 634) rfl, List.mem_of_getElem? (i := 152) (by decide +kernel), by decide, mj_mathPlain rfl (by decide +kernel), by decide +kernel, by decide +kernel⟩
set_option maxRecDepth 100000 in
theorem my_1 : mj_okY lw_tbl mm_1 := ⟨List.mem_of_getElem? (i := 735) rfl, List.mem_of_getElem? (i := 152) (by decide +kernel), by decide, mj_mathPlain rfl (by decide +kernel), by decide +kernel, by decide +kernel⟩
set_option maxRecDepth 100000 in
theorem my_2 : mj_okY lw_tbl mm_2 := ⟨List.mem_of_getElem? (i := 875) rfl, List.mem_of_getElem? (i := 153) (by decide +kernel), by decide, plainFor_of_name (by decide +kernel), by decide +kernel, by decide +kernel⟩
set_option maxRecDepth 100000 in
theorem my_3 : mj_okY lw_tbl mm_3 := ⟨List.mem_of_getElem? (i := 1003) rfl, List.mem_of_getElem? (i := 155) (by decide +kernel), by decide, plainFor_of_name (by decide +kernel), by decide +kernel, by decide +kernel⟩
set_option maxRecDepth 100000 in
theorem my_4 : mj_okY lw_tbl mm_4 := ⟨List.mem_of_getElem? (i := 1021) rfl, List.mem_of_getElem? (i := 152) (by decide +kernel), by decide, mj_mathPlain rfl (by decide +kernel), by decide +kernel, by decide +kernel⟩
set_option maxRecDepth 100000 in
theorem my_5 : mj_okY lw_tbl mm_5 := ⟨List.mem_of_getElem? (i := 1024) rfl, List.mem_of_getElem? (i := 152) (by decide +kernel), by decide, mj_mathPlain rfl (by decide +kernel), by decide +kernel, by decide +kernel⟩
set_option maxRecDepth 100000 in
theorem my_6 : mj_okY lw_tbl mm_6 := ⟨List.mem_of_getElem? (i := 1027) rfl, List.mem_of_getElem? (i := 152) (by decide +kernel), by decide, mj_mathPlain rfl (by decide +kernel), by decide +kernel, by decide +kernel⟩
set_option maxRecDepth 100000 in
theorem my_7 : mj_okY lw_tbl mm_7 := ⟨List.mem_of_getElem? (i := 1228) rfl, List.mem_of_getElem? (i := 153) (by decide +kernel), by decide, plainFor_of_name (by decide +kernel), by decide +kernel, by decide +kernel⟩
set_option maxRecDepth 100000 in
theorem my_8 : mj_okY lw_tbl mm_8 := ⟨List.mem_of_getElem? (i := 1231) rfl, List.mem_of_getElem? (i := 155) (by decide +kernel), by decide, plainFor_of_name (by decide +kernel), by decide +kernel, by decide +kernel⟩
set_option maxRecDepth 100000 in
theorem my_9 : mj_okY lw_tbl mm_9 := ⟨List.mem_of_getElem? (i := 1551) rfl, List.mem_of_getElem? (i := 151) (by decide +kernel), by decide, plainFor_of_name (by decide +kernel), by decide +kernel, by decide +kernel⟩
set_option maxRecDepth 100000 in
theorem my_10 : mj_okY lw_tbl mm_10 := ⟨List.mem_of_getElem? (i := 1555) rfl, List.mem_of_getElem? (i := 151) (by decide +kernel), by decide, plainFor_of_name (by decide +kernel), by decide +kernel, by decide +kernel⟩
set_option maxRecDepth 100000 in
theorem my_11 : mj_okY lw_tbl mm_11 := ⟨List.mem_of_getElem? (i := 1559) rfl, List.mem_of_getElem? (i := 151) (by decide +kernel), by decide, plainFor_of_name (by decide +kernel), by decide +kernel, by decide +kernel⟩
set_option maxRecDepth 100000 in
theorem my_12 : mj_okY lw_tbl mm_12 := ⟨List.mem_of_getElem? (i := 1563) rfl, List.mem_of_getElem? (i := 151) (by decide +kernel), by decide, plainFor_of_name (by decide +kernel), by decide +kernel, by decide +kernel⟩
set_option maxRecDepth 100000 in
theorem my_13 : mj_okY lw_tbl mm_13 := ⟨List.mem_of_getElem? (i := 1567) rfl, List.mem_of_getElem? (i := 151) (by decide +kernel), by decide, plainFor_of_name (by decide +kernel), by decide +kernel, by decide +kernel⟩
set_option maxRecDepth 100000 in
theorem my_14 : mj_okY lw_tbl mm_14 := ⟨List.mem_of_getElem? (i := 1570) rfl, List.mem_of_getElem? (i := 151) (by decide +kernel), by decide, plainFor_of_name (by decide +kernel), by decide +kernel, by decide +kernel⟩
set_option maxRecDepth 100000 in
theorem my_15 : mj_okY lw_tbl mm_15 := ⟨List.mem_of_getElem? (i := 1573) rfl, List.mem_of_getElem? (i := 151) (by decide +kernel), by decide, plainFor_of_name (by decide +kernel), by decide +kernel, by decide +kernel⟩
set_option maxRecDepth 100000 in
theorem my_16 : mj_okY lw_tbl mm_16 := ⟨List.mem_of_getElem? (i := 1577) rfl, List.mem_of_getElem? (i := 151) (by decide +kernel), by decide, plainFor_of_name (by decide +kernel), by decide +kernel, by decide +kernel⟩
set_option maxRecDepth 100000 in
theorem my_17 : mj_okY lw_tbl mm_17 := ⟨List.mem_of_getElem? (i := 1581) rfl, List.mem_of_getElem? (i := 151) (by decide +kernel), by decide, plainFor_of_name (by decide +kernel), by decide +kernel, by decide +kernel⟩
set_option maxRecDepth 100000 in
theorem my_18 : mj_okY lw_tbl mm_18 := ⟨List.mem_of_getElem? (i := 1586) rfl, List.mem_of_getElem? (i := 151) (by decide +kernel), by decide, plainFor_of_name (by decide +kernel), by decide +kernel, by decide +kernel⟩
set_option maxRecDepth 100000 in
theorem my_19 : mj_okY lw_tbl mm_19 := ⟨List.mem_of_getElem? (i := 1590) rfl, List.mem_of_getElem? (i := 151) (by decide +kernel), by decide, plainFor_of_name (by decide +kernel), by decide +kernel, by decide +kernel⟩
set_option maxRecDepth 100000 in
theorem my_20 : mj_okY lw_tbl mm_20 := ⟨List.mem_of_getElem? (i := 1594) rfl, List.mem_of_getElem? (i := 151) (by decide +kernel), by decide, plainFor_of_name (by decide +kernel), by decide +kernel, by decide +kernel⟩
set_option maxRecDepth 100000 in
theorem my_21 : mj_okY lw_tbl mm_21 := ⟨List.mem_of_getElem? (i := 1598) rfl, List.mem_of_getElem? (i := 151) (by decide +kernel), by decide, plainFor_of_name (by decide +kernel), by decide +kernel, by decide +kernel⟩
set_option maxRecDepth 100000 in
theorem my_22 : mj_okY lw_tbl mm_22 := ⟨List.mem_of_getElem? (i := 1602) rfl, List.mem_of_getElem? (i := 151) (by decide +kernel), by decide, plainFor_of_name (by decide +kernel), by decide +kernel, by decide +kernel⟩
set_option maxRecDepth 100000 in
theorem my_23 : mj_okY lw_tbl mm_23 := ⟨List.mem_of_getElem? (i := 1622) rfl, List.mem_of_getElem? (i := 151) (by decide +kernel), by decide, plainFor_of_name (by decide +kernel), by decide +kernel, by decide +kernel⟩
set_option maxRecDepth 100000 in
theorem my_24 : mj_okY lw_tbl mm_24 := ⟨List.mem_of_getElem? (i := 1626) rfl, List.mem_of_getElem? (i := 151) (by decide +kernel), by decide, plainFor_of_name (by decide +kernel), by decide +kernel, by decide +kernel⟩
set_option maxRecDepth 100000 in
theorem my_25 : mj_okY lw_tbl mm_25 := ⟨List.mem_of_getElem? (i := 1630) rfl, List.mem_of_getElem? (i := 151) (by decide +kernel), by decide, plainFor_of_name (by decide +kernel), by decide +kernel, by decide +kernel⟩
set_option maxRecDepth 100000 in
theorem my_26 : mj_okY lw_tbl mm_26 := ⟨List.mem_of_getElem? (i := 1634) rfl, List.mem_of_getElem? (i := 151) (by decide +kernel), by decide, plainFor_of_name (by decide +kernel), by decide +kernel, by decide +kernel⟩
set_option maxRecDepth 100000 in
theorem my_27 : mj_okY lw_tbl mm_27 := ⟨List.mem_of_getElem? (i := 1638) rfl, List.mem_of_getElem? (i := 151) (by decide +kernel), by decide, plainFor_of_name (by decide +kernel), by decide +kernel, by decide +kernel⟩
set_option maxRecDepth 100000 in
theorem my_28 : mj_okY lw_tbl mm_28 := ⟨List.mem_of_getElem? (i := 1642) rfl, List.mem_of_getElem? (i := 151) (by decide +kernel), by decide, plainFor_of_name (by decide +kernel), by decide +kernel, by decide +kernel⟩
set_option maxRecDepth 100000 in
theorem my_29 : mj_okY lw_tbl mm_29 := ⟨List.mem_of_getElem? (i := 1646) rfl, List.mem_of_getElem? (i := 151) (by decide +kernel), by decide, plainFor_of_name (by decide +kernel), by decide +kernel, by decide +kernel⟩
set_option maxRecDepth 100000 in
theorem my_30 : mj_okY lw_tbl mm_30 := ⟨List.mem_of_getElem? (i := 1650) rfl, List.mem_of_getElem? (i := 151) (by decide +kernel), by decide, plainFor_of_name (by decide +kernel), by decide +kernel, by decide +kernel⟩
set_option maxRecDepth 100000 in
theorem my_31 : mj_okY lw_tbl mm_31 := ⟨List.mem_of_getElem? (i := 1654) rfl, List.mem_of_getElem? (i := 151) (by decide +kernel), by decide, plainFor_of_name (by decide +kernel), by decide +kernel, by decide +kernel⟩
set_option maxRecDepth 100000 in
theorem my_32 : mj_okY lw_tbl mm_32 := ⟨List.mem_of_getElem? (i := 1658) rfl, List.mem_of_getElem? (i := 151) (by decide +kernel), by decide, plainFor_of_name (by decide +kernel), by decide +kernel, by decide +kernel⟩
set_option maxRecDepth 100000 in
theorem my_33 : mj_okY lw_tbl mm_33 := ⟨List.mem_of_getElem? (i := 1662) rfl, List.mem_of_getElem? (i := 151) (by decide +kernel), by decide, plainFor_of_name (by decide +kernel), by decide +kernel, by decide +kernel⟩
set_option maxRecDepth 100000 in
theorem my_34 : mj_okY lw_tbl mm_34 := ⟨List.mem_of_getElem? (i := 1666) rfl, List.mem_of_getElem? (i := 151) (by decide +kernel), by decide, plainFor_of_name (by decide +kernel), by decide +kernel, by decide +kernel⟩
set_option maxRecDepth 100000 in
theorem my_35 : mj_okY lw_tbl mm_35 := ⟨List.mem_of_getElem? (i := 1670) rfl, List.mem_of_getElem? (i := 151) (by decide +kernel), by decide, plainFor_of_name (by decide +kernel), by decide +kernel, by decide +kernel⟩
set_option maxRecDepth 100000 in
theorem my_36 : mj_okY lw_tbl mm_36 := ⟨List.mem_of_getElem? (i := 1673) rfl, List.mem_of_getElem? (i := 151) (by decide +kernel), by decide, plainFor_of_name (by decide +kernel), by decide +kernel, by decide +kernel⟩
set_option maxRecDepth 100000 in
theorem my_37 : mj_okY lw_tbl mm_37 := ⟨List.mem_of_getElem? (i := 1677) rfl, List.mem_of_getElem? (i := 151) (by decide +kernel), by decide, plainFor_of_name (by decide +kernel), by decide +kernel, by decide +kernel⟩
set_option maxRecDepth 100000 in
theorem my_38 : mj_okY lw_tbl mm_38 := ⟨List.mem_of_getElem? (i := 1681) rfl, List.mem_of_getElem? (i := 151) (by decide +kernel), by decide, plainFor_of_name (by decide +kernel), by decide +kernel, by decide +kernel⟩
set_option maxRecDepth 100000 in
theorem my_39 : mj_okY lw_tbl mm_39 := ⟨List.mem_of_getElem? (i := 1685) rfl, List.mem_of_getElem? (i := 151) (by decide +kernel), by decide, plainFor_of_name (by decide +kernel), by decide +kernel, by decide +kernel⟩
set_option maxRecDepth 100000 in
theorem my_40 : mj_okY lw_tbl mm_40 := ⟨List.mem_of_getElem? (i := 1689) rfl, List.mem_of_getElem? (i := 151) (by decide +kernel), by decide, plainFor_of_name (by decide +kernel), by decide +kernel, by decide +kernel⟩
set_option maxRecDepth 100000 in
theorem my_41 : mj_okY lw_tbl mm_41 := ⟨List.mem_of_getElem? (i := 1693) rfl, List.mem_of_getElem? (i := 151) (by decide +kernel), by decide, plainFor_of_name (by decide +kernel), by decide +kernel, by decide +kernel⟩
set_option maxRecDepth 100000 in
theorem my_42 : mj_okY lw_tbl mm_42 := ⟨List.mem_of_getElem? (i := 1697) rfl, List.mem_of_getElem? (i := 151) (by decide +kernel), by decide, plainFor_of_name (by decide +kernel), by decide +kernel, by decide +kernel⟩
set_option maxRecDepth 100000 in
theorem my_43 : mj_okY lw_tbl mm_43 := ⟨List.mem_of_getElem? (i := 1700) rfl, List.mem_of_getElem? (i := 151) (by decide +kernel), by decide, plainFor_of_name (by decide +kernel), by decide +kernel, by decide +kernel⟩
set_option maxRecDepth 100000 in
theorem my_44 : mj_okY lw_tbl mm_44 := ⟨List.mem_of_getElem? (i := 1704) rfl, List.mem_of_getElem? (i := 151) (by decide +kernel), by decide, plainFor_of_name (by decide +kernel), by decide +kernel, by decide +kernel⟩
set_option maxRecDepth 100000 in
theorem my_45 : mj_okY lw_tbl mm_45 := ⟨List.mem_of_getElem? (i := 1708) rfl, List.mem_of_getElem? (i := 151) (by decide +kernel), by decide, plainFor_of_name (by decide +kernel), by decide +kernel, by decide +kernel⟩
set_option maxRecDepth 100000 in
theorem my_46 : mj_okY lw_tbl mm_46 := ⟨List.mem_of_getElem? (i := 1712) rfl, List.mem_of_getElem? (i := 151) (by decide +kernel), by decide, plainFor_of_name (by decide +kernel), by decide +kernel, by decide +kernel⟩
set_option maxRecDepth 100000 in
theorem my_47 : mj_okY lw_tbl mm_47 := ⟨List.mem_of_getElem? (i := 1716) rfl, List.mem_of_getElem? (i := 151) (by decide +kernel), by decide, plainFor_of_name (by decide +kernel), by decide +kernel, by decide +kernel⟩
set_option maxRecDepth 100000 in
theorem my_48 : mj_okY lw_tbl mm_48 := ⟨List.mem_of_getElem? (i := 1720) rfl, List.mem_of_getElem? (i := 151) (by decide +kernel), by decide, plainFor_of_name (by decide +kernel), by decide +kernel, by decide +kernel⟩
set_option maxRecDepth 100000 in
theorem my_49 : mj_okY lw_tbl mm_49 := ⟨List.mem_of_getElem? (i := 1723) rfl, List.mem_of_getElem? (i := 151) (by decide +kernel), by decide, plainFor_of_name (by decide +kernel), by decide +kernel, by decide +kernel⟩
set_option maxRecDepth 100000 in
theorem my_50 : mj_okY lw_tbl mm_50 := ⟨List.mem_of_getElem? (i := 1726) rfl, List.mem_of_getElem? (i := 151) (by decide +kernel), by decide, plainFor_of_name (by decide +kernel), by decide +kernel, by decide +kernel⟩
set_option maxRecDepth 100000 in
theorem my_51 : mj_okY lw_tbl mm_51 := ⟨List.mem_of_getElem? (i := 1731) rfl, List.mem_of_getElem? (i := 151) (by decide +kernel), by decide, plainFor_of_name (by decide +kernel), by decide +kernel, by decide +kernel⟩
set_option maxRecDepth 100000 in
theorem my_52 : mj_okY lw_tbl mm_52 := ⟨List.mem_of_getElem? (i := 1735) rfl, List.mem_of_getElem? (i := 151) (by decide +kernel), by decide, plainFor_of_name (by decide +kernel), by decide +kernel, by decide +kernel⟩
set_option maxRecDepth 100000 in
theorem my_53 : mj_okY lw_tbl mm_53 := ⟨List.mem_of_getElem? (i := 1739) rfl, List.mem_of_getElem? (i := 151) (by decide +kernel), by decide, plainFor_of_name (by decide +kernel), by decide +kernel, by decide +kernel⟩
set_option maxRecDepth 100000 in
theorem my_54 : mj_okY lw_tbl mm_54 := ⟨List.mem_of_getElem? (i := 1743) rfl, List.mem_of_getElem? (i := 151) (by decide +kernel), by decide, plainFor_of_name (by decide +kernel), by decide +kernel, by decide +kernel⟩
set_option maxRecDepth 100000 in
theorem my_55 : mj_okY lw_tbl mm_55 := ⟨List.mem_of_getElem? (i := 1747) rfl, List.mem_of_getElem? (i := 151) (by decide +kernel), by decide, plainFor_of_name (by decide +kernel), by decide +kernel, by decide +kernel⟩
set_option maxRecDepth 100000 in
theorem my_56 : mj_okY lw_tbl mm_56 := ⟨List.mem_of_getElem? (i := 1751) rfl, List.mem_of_getElem? (i := 151) (by decide +kernel), by decide, plainFor_of_name (by decide +kernel), by decide +kernel, by decide +kernel⟩
set_option maxRecDepth 100000 in
theorem my_57 : mj_okY lw_tbl mm_57 := ⟨List.mem_of_getElem? (i := 1755) rfl, List.mem_of_getElem? (i := 151) (by decide +kernel), by decide, plainFor_of_name (by decide +kernel), by decide +kernel, by decide +kernel⟩
set_option maxRecDepth 100000 in
theorem my_58 : mj_okY lw_tbl mm_58 := ⟨List.mem_of_getElem? (i := 1759) rfl, List.mem_of_getElem? (i := 151) (by decide +kernel), by decide, plainFor_of_name (by decide +kernel), by decide +kernel, by decide +kernel⟩
set_option maxRecDepth 100000 in
theorem my_59 : mj_okY lw_tbl mm_59 := ⟨List.mem_of_getElem? (i := 1763) rfl, List.mem_of_getElem? (i := 151) (by decide +kernel), by decide, plainFor_of_name (by decide +kernel), by decide +kernel, by decide +kernel⟩
set_option maxRecDepth 100000 in
theorem my_60 : mj_okY lw_tbl mm_60 := ⟨List.mem_of_getElem? (i := 1767) rfl, List.mem_of_getElem? (i := 151) (by decide +kernel), by decide, plainFor_of_name (by decide +kernel), by decide +kernel, by decide +kernel⟩
set_option maxRecDepth 100000 in
theorem my_61 : mj_okY lw_tbl mm_61 := ⟨List.mem_of_getElem? (i := 1771) rfl, List.mem_of_getElem? (i := 151) (by decide +kernel), by decide, plainFor_of_name (by decide +kernel), by decide +kernel, by decide +kernel⟩
set_option maxRecDepth 100000 in
theorem my_62 : mj_okY lw_tbl mm_62 := ⟨List.mem_of_getElem? (i := 1775) rfl, List.mem_of_getElem? (i := 151) (by decide +kernel), by decide, plainFor_of_name (by decide +kernel), by decide +kernel, by decide +kernel⟩
set_option maxRecDepth 100000 in
theorem my_63 : mj_okY lw_tbl mm_63 := ⟨List.mem_of_getElem? (i := 1779) rfl, List.mem_of_getElem? (i := 151) (by decide +kernel), by decide, plainFor_of_name (by decide +kernel), by decide +kernel, by decide +kernel⟩
set_option maxRecDepth 100000 in
theorem my_64 : mj_okY lw_tbl mm_64 := ⟨List.mem_of_getElem? (i := 1783) rfl, List.mem_of_getElem? (i := 151) (by decide +kernel), by decide, plainFor_of_name (by decide +kernel), by decide +kernel, by decide +kernel⟩
set_option maxRecDepth 100000 in
theorem my_65 : mj_okY lw_tbl mm_65 := ⟨List.mem_of_getElem? (i := 1787) rfl, List.mem_of_getElem? (i := 151) (by decide +kernel), by decide, plainFor_of_name (by decide +kernel), by decide +kernel, by decide +kernel⟩
set_option maxRecDepth 100000 in
theorem my_66 : mj_okY lw_tbl mm_66 := ⟨List.mem_of_getElem? (i := 1791) rfl, List.mem_of_getElem? (i := 151) (by decide +kernel), by decide, plainFor_of_name (by decide +kernel), by decide +kernel, by decide +kernel⟩
set_option maxRecDepth 100000 in
theorem my_67 : mj_okY lw_tbl mm_67 := ⟨List.mem_of_getElem? (i := 1795) rfl, List.mem_of_getElem? (i := 151) (by decide +kernel), by decide, plainFor_of_name (by decide +kernel), by decide +kernel, by decide +kernel⟩
set_option maxRecDepth 100000 in
theorem my_68 : mj_okY lw_tbl mm_68 := ⟨List.mem_of_getElem? (i := 1799) rfl, List.mem_of_getElem? (i := 151) (by decide +kernel), by decide, plainFor_of_name (by decide +kernel), by decide +kernel, by decide +kernel⟩
set_option maxRecDepth 100000 in
theorem my_69 : mj_okY lw_tbl mm_69 := ⟨List.mem_of_getElem? (i := 1803) rfl, List.mem_of_getElem? (i := 151) (by decide +kernel), by decide, plainFor_of_name (by decide +kernel), by decide +kernel, by decide +kernel⟩
set_option maxRecDepth 100000 in
theorem my_70 : mj_okY lw_tbl mm_70 := ⟨List.mem_of_getElem? (i := 1807) rfl, List.mem_of_getElem? (i := 151) (by decide +kernel), by decide, plainFor_of_name (by decide +kernel), by decide +kernel, by decide +kernel⟩
set_option maxRecDepth 100000 in
theorem my_71 : mj_okY lw_tbl mm_71 := ⟨List.mem_of_getElem? (i := 1811) rfl, List.mem_of_getElem? (i := 151) (by decide +kernel), by decide, plainFor_of_name (by decide +kernel), by decide +kernel, by decide +kernel⟩
set_option maxRecDepth 100000 in
theorem my_72 : mj_okY lw_tbl mm_72 := ⟨List.mem_of_getElem? (i := 1815) rfl, List.mem_of_getElem? (i := 151) (by decide +kernel), by decide, plainFor_of_name (by decide +kernel), by decide +kernel, by decide +kernel⟩
set_option maxRecDepth 100000 in
theorem my_73 : mj_okY lw_tbl mm_73 := ⟨List.mem_of_getElem? (i := 1819) rfl, List.mem_of_getElem? (i := 151) (by decide +kernel), by decide, plainFor_of_name (by decide +kernel), by decide +kernel, by decide +kernel⟩
set_option maxRecDepth 100000 in
theorem my_74 : mj_okY lw_tbl mm_74 := ⟨List.mem_of_getElem? (i := 1823) rfl, List.mem_of_getElem? (i := 151) (by decide +kernel), by decide, plainFor_of_name (by decide +kernel), by decide +kernel, by decide +kernel⟩
set_option maxRecDepth 100000 in
theorem my_75 : mj_okY lw_tbl mm_75 := ⟨List.mem_of_getElem? (i := 1827) rfl, List.mem_of_getElem? (i := 151) (by decide +kernel), by decide, plainFor_of_name (by decide +kernel), by decide +kernel, by decide +kernel⟩
set_option maxRecDepth 100000 in
theorem my_76 : mj_okY lw_tbl mm_76 := ⟨List.mem_of_getElem? (i := 1831) rfl, List.mem_of_getElem? (i := 151) (by decide +kernel), by decide, plainFor_of_name (by decide +kernel), by decide +kernel, by decide +kernel⟩
set_option maxRecDepth 100000 in
theorem my_77 : mj_okY lw_tbl mm_77 := ⟨List.mem_of_getElem? (i := 1835) rfl, List.mem_of_getElem? (i := 151) (by decide +kernel), by decide, plainFor_of_name (by decide +kernel), by decide +kernel, by decide +kernel⟩
set_option maxRecDepth 100000 in
theorem my_78 : mj_okY lw_tbl mm_78 := ⟨List.mem_of_getElem? (i := 1839) rfl, List.mem_of_getElem? (i := 151) (by decide +kernel), by decide, plainFor_of_name (by decide +kernel), by decide +kernel, by decide +kernel⟩
set_option maxRecDepth 100000 in
theorem my_79 : mj_okY lw_tbl mm_79 := ⟨List.mem_of_getElem? (i := 1843) rfl, List.mem_of_getElem? (i := 151) (by decide +kernel), by decide, plainFor_of_name (by decide +kernel), by decide +kernel, by decide +kernel⟩
set_option maxRecDepth 100000 in
theorem my_80 : mj_okY lw_tbl mm_80 := ⟨List.mem_of_getElem? (i := 1846) rfl, List.mem_of_getElem? (i := 151) (by decide +kernel), by decide, plainFor_of_name (by decide +kernel), by decide +kernel, by decide +kernel⟩
set_option maxRecDepth 100000 in
theorem my_81 : mj_okY lw_tbl mm_81 := ⟨List.mem_of_getElem? (i := 1849) rfl, List.mem_of_getElem? (i := 151) (by decide +kernel), by decide, plainFor_of_name (by decide +kernel), by decide +kernel, by decide +kernel⟩
set_option maxRecDepth 100000 in
theorem my_82 : mj_okY lw_tbl mm_82 := ⟨List.mem_of_getElem? (i := 1854) rfl, List.mem_of_getElem? (i := 151) (by decide +kernel), by decide, plainFor_of_name (by decide +kernel), by decide +kernel, by decide +kernel⟩
set_option maxRecDepth 100000 in
theorem my_83 : mj_okY lw_tbl mm_83 := ⟨List.mem_of_getElem? (i := 1858) rfl, List.mem_of_getElem? (i := 151) (by decide +kernel), by decide, plainFor_of_name (by decide +kernel), by decide +kernel, by decide +kernel⟩
set_option maxRecDepth 100000 in
theorem my_84 : mj_okY lw_tbl mm_84 := ⟨List.mem_of_getElem? (i := 1862) rfl, List.mem_of_getElem? (i := 151) (by decide +kernel), by decide, plainFor_of_name (by decide +kernel), by decide +kernel, by decide +kernel⟩
set_option maxRecDepth 100000 in
theorem my_85 : mj_okY lw_tbl mm_85 := ⟨List.mem_of_getElem? (i := 1866) rfl, List.mem_of_getElem? (i := 151) (by decide +kernel), by decide, plainFor_of_name (by decide +kernel), by decide +kernel, by decide +kernel⟩
set_option maxRecDepth 100000 in
theorem my_86 : mj_okY lw_tbl mm_86 := ⟨List.mem_of_getElem? (i := 1871) rfl, List.mem_of_getElem? (i := 151) (by decide +kernel), by decide, plainFor_of_name (by decide +kernel), by decide +kernel, by decide +kernel⟩
set_option maxRecDepth 100000 in
theorem my_87 : mj_okY lw_tbl mm_87 := ⟨List.mem_of_getElem? (i := 1875) rfl, List.mem_of_getElem? (i := 151) (by decide +kernel), by decide, plainFor_of_name (by decide +kernel), by decide +kernel, by decide +kernel⟩
set_option maxRecDepth 100000 in
theorem my_88 : mj_okY lw_tbl mm_88 := ⟨List.mem_of_getElem? (i := 1879) rfl, List.mem_of_getElem? (i := 151) (by decide +kernel), by decide, plainFor_of_name (by decide +kernel), by decide +kernel, by decide +kernel⟩
set_option maxRecDepth 100000 in
theorem my_89 : mj_okY lw_tbl mm_89 := ⟨List.mem_of_getElem? (i := 1883) rfl, List.mem_of_getElem? (i := 151) (by decide +kernel), by decide, plainFor_of_name (by decide +kernel), by decide +kernel, by decide +kernel⟩
set_option maxRecDepth 100000 in
theorem my_90 : mj_okY lw_tbl mm_90 := ⟨List.mem_of_getElem? (i := 1887) rfl, List.mem_of_getElem? (i := 151) (by decide +kernel), by decide, plainFor_of_name (by decide +kernel), by decide +kernel, by decide +kernel⟩
set_option maxRecDepth 100000 in
theorem my_91 : mj_okY lw_tbl mm_91 := ⟨List.mem_of_getElem? (i := 1891) rfl, List.mem_of_getElem? (i := 151) (by decide +kernel), by decide, plainFor_of_name (by decide +kernel), by decide +kernel, by decide +kernel⟩
set_option maxRecDepth 100000 in
theorem my_92 : mj_okY lw_tbl mm_92 := ⟨List.mem_of_getElem? (i := 1895) rfl, List.mem_of_getElem? (i := 151) (by decide +kernel), by decide, plainFor_of_name (by decide +kernel), by decide +kernel, by decide +kernel⟩
set_option maxRecDepth 100000 in
theorem my_93 : mj_okY lw_tbl mm_93 := ⟨List.mem_of_getElem? (i := 1899) rfl, List.mem_of_getElem? (i := 151) (by decide +kernel), by decide, plainFor_of_name (by decide +kernel), by decide +kernel, by decide +kernel⟩
set_option maxRecDepth 100000 in
theorem my_94 : mj_okY lw_tbl mm_94 := ⟨List.mem_of_getElem? (i := 1903) rfl, List.mem_of_getElem? (i := 151) (by decide +kernel), by decide, plainFor_of_name (by decide +kernel), by decide +kernel, by decide +kernel⟩
set_option maxRecDepth 100000 in
theorem my_95 : mj_okY lw_tbl mm_95 := ⟨List.mem_of_getElem? (i := 1907) rfl, List.mem_of_getElem? (i := 151) (by decide +kernel), by decide, plainFor_of_name (by decide +kernel), by decide +kernel, by decide +kernel⟩
set_option maxRecDepth 100000 in
theorem my_96 : mj_okY lw_tbl mm_96 := ⟨List.mem_of_getElem? (i := 1911) rfl, List.mem_of_getElem? (i := 151) (by decide +kernel), by decide, plainFor_of_name (by decide +kernel), by decide +kernel, by decide +kernel⟩
set_option maxRecDepth 100000 in
theorem my_97 : mj_okY lw_tbl mm_97 := ⟨List.mem_of_getElem? (i := 1915) rfl, List.mem_of_getElem? (i := 151) (by decide +kernel), by decide, plainFor_of_name (by decide +kernel), by decide +kernel, by decide +kernel⟩
set_option maxRecDepth 100000 in
theorem my_98 : mj_okY lw_tbl mm_98 := ⟨List.mem_of_getElem? (i := 1919) rfl, List.mem_of_getElem? (i := 151) (by decide +kernel), by decide, plainFor_of_name (by decide +kernel), by decide +kernel, by decide +kernel⟩
set_option maxRecDepth 100000 in
theorem my_99 : mj_okY lw_tbl mm_99 := ⟨List.mem_of_getElem? (i := 1923) rfl, List.mem_of_getElem? (i := 151) (by decide +kernel), by decide, plainFor_of_name (by decide +kernel), by decide +kernel, by decide +kernel⟩
set_option maxRecDepth 100000 in
theorem my_100 : mj_okY lw_tbl mm_100 := ⟨List.mem_of_getElem? (i := 1927) rfl, List.mem_of_getElem? (i := 151) (by decide +kernel), by decide, plainFor_of_name (by decide +kernel), by decide +kernel, by decide +kernel⟩
set_option maxRecDepth 100000 in
theorem my_101 : mj_okY lw_tbl mm_101 := ⟨List.mem_of_getElem? (i := 1931) rfl, List.mem_of_getElem? (i := 151) (by decide +kernel), by decide, plainFor_of_name (by decide +kernel), by decide +kernel, by decide +kernel⟩
set_option maxRecDepth 100000 in
theorem my_102 : mj_okY lw_tbl mm_102 := ⟨List.mem_of_getElem? (i := 1935) rfl, List.mem_of_getElem? (i := 151) (by decide +kernel), by decide, plainFor_of_name (by decide +kernel), by decide +kernel, by decide +kernel⟩
set_option maxRecDepth 100000 in
theorem my_103 : mj_okY lw_tbl mm_103 := ⟨List.mem_of_getElem? (i := 1938) rfl, List.mem_of_getElem? (i := 151) (by decide +kernel), by decide, plainFor_of_name (by decide +kernel), by decide +kernel, by decide +kernel⟩
set_option maxRecDepth 100000 in
theorem my_104 : mj_okY lw_tbl mm_104 := ⟨List.mem_of_getElem? (i := 1942) rfl, List.mem_of_getElem? (i := 151) (by decide +kernel), by decide, plainFor_of_name (by decide +kernel), by decide +kernel, by decide +kernel⟩
set_option maxRecDepth 100000 in
theorem my_105 : mj_okY lw_tbl mm_105 := ⟨List.mem_of_getElem? (i := 1946) rfl, List.mem_of_getElem? (i := 151) (by decide +kernel), by decide, plainFor_of_name (by decide +kernel), by decide +kernel, by decide +kernel⟩
set_option maxRecDepth 100000 in
theorem my_106 : mj_okY lw_tbl mm_106 := ⟨List.mem_of_getElem? (i := 1950) rfl, List.mem_of_getElem? (i := 151) (by decide +kernel), by decide, plainFor_of_name (by decide +kernel), by decide +kernel, by decide +kernel⟩
set_option maxRecDepth 100000 in
theorem my_107 : mj_okY lw_tbl mm_107 := ⟨List.mem_of_getElem? (i := 1954) rfl, List.mem_of_getElem? (i := 151) (by decide +kernel), by decide, plainFor_of_name (by decide +kernel), by decide +kernel, by decide +kernel⟩
set_option maxRecDepth 100000 in
theorem my_108 : mj_okY lw_tbl mm_108 := ⟨List.mem_of_getElem? (i := 1958) rfl, List.mem_of_getElem? (i := 151) (by decide +kernel), by decide, plainFor_of_name (by decide +kernel), by decide +kernel, by decide +kernel⟩
set_option maxRecDepth 100000 in
theorem my_109 : mj_okY lw_tbl mm_109 := ⟨List.mem_of_getElem? (i := 1962) rfl, List.mem_of_getElem? (i := 151) (by decide +kernel), by decide, plainFor_of_name (by decide +kernel), by decide +kernel, by decide +kernel⟩
set_option maxRecDepth 100000 in
theorem my_110 : mj_okY lw_tbl mm_110 := ⟨List.mem_of_getElem? (i := 1966) rfl, List.mem_of_getElem? (i := 151) (by decide +kernel), by decide, plainFor_of_name (by decide +kernel), by decide +kernel, by decide +kernel⟩
set_option maxRecDepth 100000 in
theorem my_111 : mj_okY lw_tbl mm_111 := ⟨List.mem_of_getElem? (i := 1970) rfl, List.mem_of_getElem? (i := 151) (by decide +kernel), by decide, plainFor_of_name (by decide +kernel), by decide +kernel, by decide +kernel⟩
set_option maxRecDepth 100000 in
theorem my_112 : mj_okY lw_tbl mm_112 := ⟨List.mem_of_getElem? (i := 1974) rfl, List.mem_of_getElem? (i := 151) (by decide +kernel), by decide, plainFor_of_name (by decide +kernel), by decide +kernel, by decide +kernel⟩
set_option maxRecDepth 100000 in
theorem my_113 : mj_okY lw_tbl mm_113 := ⟨List.mem_of_getElem? (i := 1978) rfl, List.mem_of_getElem? (i := 151) (by decide +kernel), by decide, plainFor_of_name (by decide +kernel), by decide +kernel, by decide +kernel⟩
set_option maxRecDepth 100000 in
theorem my_114 : mj_okY lw_tbl mm_114 := ⟨List.mem_of_getElem? (i := 1982) rfl, List.mem_of_getElem? (i := 151) (by decide +kernel), by decide, plainFor_of_name (by decide +kernel), by decide +kernel, by decide +kernel⟩
set_option maxRecDepth 100000 in
theorem my_115 : mj_okY lw_tbl mm_115 := ⟨List.mem_of_getElem? (i := 1986) rfl, List.mem_of_getElem? (i := 151) (by decide +kernel), by decide, plainFor_of_name (by decide +kernel), by decide +kernel, by decide +kernel⟩
set_option maxRecDepth 100000 in
theorem my_116 : mj_okY lw_tbl mm_116 := ⟨List.mem_of_getElem? (i := 1990) rfl, List.mem_of_getElem? (i := 151) (by decide +kernel), by decide, plainFor_of_name (by decide +kernel), by decide +kernel, by decide +kernel⟩
set_option maxRecDepth 100000 in
theorem my_117 : mj_okY lw_tbl mm_117 := ⟨List.mem_of_getElem? (i := 1994) rfl, List.mem_of_getElem? (i := 151) (by decide +kernel), by decide, plainFor_of_name (by decide +kernel), by decide +kernel, by decide +kernel⟩
set_option maxRecDepth 100000 in
theorem my_118 : mj_okY lw_tbl mm_118 := ⟨List.mem_of_getElem? (i := 1998) rfl, List.mem_of_getElem? (i := 151) (by decide +kernel), by decide, plainFor_of_name (by decide +kernel), by decide +kernel, by decide +kernel⟩
set_option maxRecDepth 100000 in
theorem my_119 : mj_okY lw_tbl mm_119 := ⟨List.mem_of_getElem? (i := 2001) rfl, List.mem_of_getElem? (i := 151) (by decide +kernel), by decide, plainFor_of_name (by decide +kernel), by decide +kernel, by decide +kernel⟩
set_option maxRecDepth 100000 in
theorem my_120 : mj_okY lw_tbl mm_120 := ⟨List.mem_of_getElem? (i := 2005) rfl, List.mem_of_getElem? (i := 151) (by decide +kernel), by decide, plainFor_of_name (by decide +kernel), by decide +kernel, by decide +kernel⟩
set_option maxRecDepth 100000 in
theorem my_121 : mj_okY lw_tbl mm_121 := ⟨List.mem_of_getElem? (i := 2009) rfl, List.mem_of_getElem? (i := 151) (by decide +kernel), by decide, plainFor_of_name (by decide +kernel), by decide +kernel, by decide +kernel⟩
set_option maxRecDepth 100000 in
theorem my_122 : mj_okY lw_tbl mm_122 := ⟨List.mem_of_getElem? (i := 2013) rfl, List.mem_of_getElem? (i := 151) (by decide +kernel), by decide, plainFor_of_name (by decide +kernel), by decide +kernel, by decide +kernel⟩
set_option maxRecDepth 100000 in
theorem my_123 : mj_okY lw_tbl mm_123 := ⟨List.mem_of_getElem? (i := 2017) rfl, List.mem_of_getElem? (i := 151) (by decide +kernel), by decide, plainFor_of_name (by decide +kernel), by decide +kernel, by decide +kernel⟩
set_option maxRecDepth 100000 in
theorem my_124 : mj_okY lw_tbl mm_124 := ⟨List.mem_of_getElem? (i := 2021) rfl, List.mem_of_getElem? (i := 151) (by decide +kernel), by decide, plainFor_of_name (by decide +kernel), by decide +kernel, by decide +kernel⟩
set_option maxRecDepth 100000 in
theorem my_125 : mj_okY lw_tbl mm_125 := ⟨List.mem_of_getElem? (i := 2025) rfl, List.mem_of_getElem? (i := 151) (by decide +kernel), by decide, plainFor_of_name (by decide +kernel), by decide +kernel, by decide +kernel⟩
set_option maxRecDepth 100000 in
theorem my_126 : mj_okY lw_tbl mm_126 := ⟨List.mem_of_getElem? (i := 2029) rfl, List.mem_of_getElem? (i := 151) (by decide +kernel), by decide, plainFor_of_name (by decide +kernel), by decide +kernel, by decide +kernel⟩
set_option maxRecDepth 100000 in
theorem my_127 : mj_okY lw_tbl mm_127 := ⟨List.mem_of_getElem? (i := 2033) rfl, List.mem_of_getElem? (i := 151) (by decide +kernel), by decide, plainFor_of_name (by decide +kernel), by decide +kernel, by decide +kernel⟩
set_option maxRecDepth 100000 in
theorem my_128 : mj_okY lw_tbl mm_128 := ⟨List.mem_of_getElem? (i := 2037) rfl, List.mem_of_getElem? (i := 151) (by decide +kernel), by decide, plainFor_of_name (by decide +kernel), by decide +kernel, by decide +kernel⟩
set_option maxRecDepth 100000 in
theorem my_129 : mj_okY lw_tbl mm_129 := ⟨List.mem_of_getElem? (i := 2041) rfl, List.mem_of_getElem? (i := 151) (by decide +kernel), by decide, plainFor_of_name (by decide +kernel), by decide +kernel, by decide +kernel⟩
set_option maxRecDepth 100000 in
theorem my_130 : mj_okY lw_tbl mm_130 := ⟨List.mem_of_getElem? (i := 2045) rfl, List.mem_of_getElem? (i := 151) (by decide +kernel), by decide, plainFor_of_name (by decide +kernel), by decide +kernel, by decide +kernel⟩
set_option maxRecDepth 100000 in
theorem my_131 : mj_okY lw_tbl mm_131 := ⟨List.mem_of_getElem? (i := 2049) rfl, List.mem_of_getElem? (i := 151) (by decide +kernel), by decide, plainFor_of_name (by decide +kernel), by decide +kernel, by decide +kernel⟩
set_option maxRecDepth 100000 in
theorem my_132 : mj_okY lw_tbl mm_132 := ⟨List.mem_of_getElem? (i := 2054) rfl, List.mem_of_getElem? (i := 151) (by decide +kernel), by decide, plainFor_of_name (by decide +kernel), by decide +kernel, by decide +kernel⟩
set_option maxRecDepth 100000 in
theorem my_133 : mj_okY lw_tbl mm_133 := ⟨List.mem_of_getElem? (i := 604) rfl, List.mem_of_getElem? (i := 135) (by decide +kernel), by decide, plainFor_of_name (by decide +kernel), by decide +kernel, by decide +kernel⟩
set_option maxRecDepth 100000 in
theorem my_134 : mj_okY lw_tbl mm_134 := ⟨List.mem_of_getElem? (i := 608) rfl, List.mem_of_getElem? (i := 135) (by decide +kernel), by decide, plainFor_of_name (by decide +kernel), by decide +kernel, by decide +kernel⟩
set_option maxRecDepth 100000 in
theorem my_135 : mj_okY lw_tbl mm_135 := ⟨List.mem_of_getElem? (i := 612) rfl, List.mem_of_getElem? (i := 135) (by decide +kernel), by decide, plainFor_of_name (by decide +kernel), by decide +kernel, by decide +kernel⟩
set_option maxRecDepth 100000 in
theorem my_136 : mj_okY lw_tbl mm_136 := ⟨List.mem_of_getElem? (i := 616) rfl, List.mem_of_getElem? (i := 135) (by decide +kernel), by decide, plainFor_of_name (by decide +kernel), by decide +kernel, by decide +kernel⟩
set_option maxRecDepth 100000 in
theorem my_137 : mj_okY lw_tbl mm_137 := ⟨List.mem_of_getElem? (i := 620) rfl, List.mem_of_getElem? (i := 137) (by decide +kernel), by decide, plainFor_of_name (by decide +kernel), by decide +kernel, by decide +kernel⟩
set_option maxRecDepth 100000 in
theorem my_138 : mj_okY lw_tbl mm_138 := ⟨List.mem_of_getElem? (i := 624) rfl, List.mem_of_getElem? (i := 136) (by decide +kernel), by decide, plainFor_of_name (by decide +kernel), by decide +kernel, by decide +kernel⟩
set_option maxRecDepth 100000 in
theorem my_139 : mj_okY lw_tbl mm_139 := ⟨List.mem_of_getElem? (i := 628) rfl, List.mem_of_getElem? (i := 137) (by decide +kernel), by decide, plainFor_of_name (by decide +kernel), by decide +kernel, by decide +kernel⟩
set_option maxRecDepth 100000 in
theorem my_140 : mj_okY lw_tbl mm_140 := ⟨List.mem_of_getElem? (i := 631) rfl, List.mem_of_getElem? (i := 137) (by decide +kernel), by decide, plainFor_of_name (by decide +kernel), by decide +kernel, by decide +kernel⟩
set_option maxRecDepth 100000 in
theorem my_141 : mj_okY lw_tbl mm_141 := ⟨List.mem_of_getElem? (i := 638) rfl, List.mem_of_getElem? (i := 137) (by decide +kernel), by decide, plainFor_of_name (by decide +kernel), by decide +kernel, by decide +kernel⟩
set_option maxRecDepth 100000 in
theorem my_142 : mj_okY lw_tbl mm_142 := ⟨List.mem_of_getElem? (i := 642) rfl, List.mem_of_getElem? (i := 137) (by decide +kernel), by decide, plainFor_of_name (by decide +kernel), by decide +kernel, by decide +kernel⟩
set_option maxRecDepth 100000 in
theorem my_143 : mj_okY lw_tbl mm_143 := ⟨List.mem_of_getElem? (i := 646) rfl, List.mem_of_getElem? (i := 137) (by decide +kernel), by decide, plainFor_of_name (by decide +kernel), by decide +kernel, by decide +kernel⟩
set_option maxRecDepth 100000 in
theorem my_144 : mj_okY lw_tbl mm_144 := ⟨List.mem_of_getElem? (i := 652) rfl, List.mem_of_getElem? (i := 137) (by decide +kernel), by decide, plainFor_of_name (by decide +kernel), by decide +kernel, by decide +kernel⟩
set_option maxRecDepth 100000 in
theorem my_145 : mj_okY lw_tbl mm_145 := ⟨List.mem_of_getElem? (i := 656) rfl, List.mem_of_getElem? (i := 137) (by decide +kernel), by decide, plainFor_of_name (by decide +kernel), by decide +kernel, by decide +kernel⟩
set_option maxRecDepth 100000 in
theorem my_146 : mj_okY lw_tbl mm_146 := ⟨List.mem_of_getElem? (i := 660) rfl, List.mem_of_getElem? (i := 137) (by decide +kernel), by decide, plainFor_of_name (by decide +kernel), by decide +kernel, by decide +kernel⟩
set_option maxRecDepth 100000 in
theorem my_147 : mj_okY lw_tbl mm_147 := ⟨List.mem_of_getElem? (i := 664) rfl, List.mem_of_getElem? (i := 137) (by decide +kernel), by decide, plainFor_of_name (by decide +kernel), by decide +kernel, by decide +kernel⟩
set_option maxRecDepth 100000 in
theorem my_148 : mj_okY lw_tbl mm_148 := ⟨List.mem_of_getElem? (i := 668) rfl, List.mem_of_getElem? (i := 136) (by decide +kernel), by decide, plainFor_of_name (by decide +kernel), by decide +kernel, by decide +kernel⟩
set_option maxRecDepth 100000 in
theorem my_149 : mj_okY lw_tbl mm_149 := ⟨List.mem_of_getElem? (i := 672) rfl, List.mem_of_getElem? (i := 136) (by decide +kernel), by decide, plainFor_of_name (by decide +kernel), by decide +kernel, by decide +kernel⟩
set_option maxRecDepth 100000 in
theorem my_150 : mj_okY lw_tbl mm_150 := ⟨List.mem_of_getElem? (i := 676) rfl, List.mem_of_getElem? (i := 136) (by decide +kernel), by decide, plainFor_of_name (by decide +kernel), by decide +kernel, by decide +kernel⟩
set_option maxRecDepth 100000 in
theorem my_151 : mj_okY lw_tbl mm_151 := ⟨List.mem_of_getElem? (i := 680) rfl, List.mem_of_getElem? (i := 137) (by decide +kernel), by decide, plainFor_of_name (by decide +kernel), by decide +kernel, by decide +kernel⟩
set_option maxRecDepth 100000 in
theorem my_152 : mj_okY lw_tbl mm_152 := ⟨List.mem_of_getElem? (i := 684) rfl, List.mem_of_getElem? (i := 137) (by decide +kernel), by decide, plainFor_of_name (by decide +kernel), by decide +kernel, by decide +kernel⟩
set_option maxRecDepth 100000 in
theorem my_153 : mj_okY lw_tbl mm_153 := ⟨List.mem_of_getElem? (i := 689) rfl, List.mem_of_getElem? (i := 137) (by decide +kernel), by decide, plainFor_of_name (by decide +kernel), by decide +kernel, by decide +kernel⟩
set_option maxRecDepth 100000 in
theorem my_154 : mj_okY lw_tbl mm_154 := ⟨List.mem_of_getElem? (i := 692) rfl, List.mem_of_getElem? (i := 136) (by decide +kernel), by decide, plainFor_of_name (by decide +kernel), by decide +kernel, by decide +kernel⟩
set_option maxRecDepth 100000 in
theorem my_155 : mj_okY lw_tbl mm_155 := ⟨List.mem_of_getElem? (i := 696) rfl, List.mem_of_getElem? (i := 137) (by decide +kernel), by decide, plainFor_of_name (by decide +kernel), by decide +kernel, by decide +kernel⟩
set_option maxRecDepth 100000 in
theorem my_156 : mj_okY lw_tbl mm_156 := ⟨List.mem_of_getElem? (i := 700) rfl, List.mem_of_getElem? (i := 137) (by decide +kernel), by decide, plainFor_of_name (by decide +kernel), by decide +kernel, by decide +kernel⟩
set_option maxRecDepth 100000 in
theorem my_157 : mj_okY lw_tbl mm_157 := ⟨List.mem_of_getElem? (i := 704) rfl, List.mem_of_getElem? (i := 137) (by decide +kernel), by decide, plainFor_of_name (by decide +kernel), by decide +kernel, by decide +kernel⟩
set_option maxRecDepth 100000 in
theorem my_158 : mj_okY lw_tbl mm_158 := ⟨List.mem_of_getElem? (i := 708) rfl, List.mem_of_getElem? (i := 137) (by decide +kernel), by decide, plainFor_of_name (by decide +kernel), by decide +kernel, by decide +kernel⟩
set_option maxRecDepth 100000 in
theorem my_159 : mj_okY lw_tbl mm_159 := ⟨List.mem_of_getElem? (i := 712) rfl, List.mem_of_getElem? (i := 137) (by decide +kernel), by decide, plainFor_of_name (by decide +kernel), by decide +kernel, by decide +kernel⟩
set_option maxRecDepth 100000 in
theorem my_160 : mj_okY lw_tbl mm_160 := ⟨List.mem_of_getElem? (i := 716) rfl, List.mem_of_getElem? (i := 137) (by decide +kernel), by decide, plainFor_of_name (by decide +kernel), by decide +kernel, by decide +kernel⟩
set_option maxRecDepth 100000 in
theorem my_161 : mj_okY lw_tbl mm_161 := ⟨List.mem_of_getElem? (i := 720) rfl, List.mem_of_getElem? (i := 137) (by decide +kernel), by decide, plainFor_of_name (by decide +kernel), by decide +kernel, by decide +kernel⟩
set_option maxRecDepth 100000 in
theorem my_162 : mj_okY lw_tbl mm_162 := ⟨List.mem_of_getElem? (i := 724) rfl, List.mem_of_getElem? (i := 137) (by decide +kernel), by decide, plainFor_of_name (by decide +kernel), by decide +kernel, by decide +kernel⟩
set_option maxRecDepth 100000 in
theorem my_163 : mj_okY lw_tbl mm_163 := ⟨List.mem_of_getElem? (i := 728) rfl, List.mem_of_getElem? (i := 137) (by decide +kernel), by decide, plainFor_of_name (by decide +kernel), by decide +kernel, by decide +kernel⟩
set_option maxRecDepth 100000 in
theorem my_164 : mj_okY lw_tbl mm_164 := ⟨List.mem_of_getElem? (i := 732) rfl, List.mem_of_getElem? (i := 136) (by decide +kernel), by decide, plainFor_of_name (by decide +kernel), by decide +kernel, by decide +kernel⟩
set_option maxRecDepth 100000 in
theorem my_165 : mj_okY lw_tbl mm_165 := ⟨List.mem_of_getElem? (i := 739) rfl, List.mem_of_getElem? (i := 137) (by decide +kernel), by decide, plainFor_of_name (by decide +kernel), by decide +kernel, by decide +kernel⟩
set_option maxRecDepth 100000 in
theorem my_166 : mj_okY lw_tbl mm_166 := ⟨List.mem_of_getElem? (i := 743) rfl, List.mem_of_getElem? (i := 137) (by decide +kernel), by decide, plainFor_of_name (by decide +kernel), by decide +kernel, by decide +kernel⟩
set_option maxRecDepth 100000 in
theorem my_167 : mj_okY lw_tbl mm_167 := ⟨List.mem_of_getElem? (i := 747) rfl, List.mem_of_getElem? (i := 137) (by decide +kernel), by decide, plainFor_of_name (by decide +kernel), by decide +kernel, by decide +kernel⟩
set_option maxRecDepth 100000 in
theorem my_168 : mj_okY lw_tbl mm_168 := ⟨List.mem_of_getElem? (i := 751) rfl, List.mem_of_getElem? (i := 137) (by decide +kernel), by decide, plainFor_of_name (by decide +kernel), by decide +kernel, by decide +kernel⟩
set_option maxRecDepth 100000 in
theorem my_169 : mj_okY lw_tbl mm_169 := ⟨List.mem_of_getElem? (i := 755) rfl, List.mem_of_getElem? (i := 137) (by decide +kernel), by decide, plainFor_of_name (by decide +kernel), by decide +kernel, by decide +kernel⟩
set_option maxRecDepth 100000 in
theorem my_170 : mj_okY lw_tbl mm_170 := ⟨List.mem_of_getElem? (i := 759) rfl, List.mem_of_getElem? (i := 137) (by decide +kernel), by decide, plainFor_of_name (by decide +kernel), by decide +kernel, by decide +kernel⟩
set_option maxRecDepth 100000 in
theorem my_171 : mj_okY lw_tbl mm_171 := ⟨List.mem_of_getElem? (i := 763) rfl, List.mem_of_getElem? (i := 137) (by decide +kernel), by decide, plainFor_of_name (by decide +kernel), by decide +kernel, by decide +kernel⟩
set_option maxRecDepth 100000 in
theorem my_172 : mj_okY lw_tbl mm_172 := ⟨List.mem_of_getElem? (i := 767) rfl, List.mem_of_getElem? (i := 137) (by decide +kernel), by decide, plainFor_of_name (by decide +kernel), by decide +kernel, by decide +kernel⟩
set_option maxRecDepth 100000 in
theorem my_173 : mj_okY lw_tbl mm_173 := ⟨List.mem_of_getElem? (i := 771) rfl, List.mem_of_getElem? (i := 142) (by decide +kernel), by decide, plainFor_of_name (by decide +kernel), by decide +kernel, by decide +kernel⟩
set_option maxRecDepth 100000 in
theorem my_174 : mj_okY lw_tbl mm_174 := ⟨List.mem_of_getElem? (i := 775) rfl, List.mem_of_getElem? (i := 142) (by decide +kernel), by decide, plainFor_of_name (by decide +kernel), by decide +kernel, by decide +kernel⟩
set_option maxRecDepth 100000 in
theorem my_175 : mj_okY lw_tbl mm_175 := ⟨List.mem_of_getElem? (i := 780) rfl, List.mem_of_getElem? (i := 136) (by decide +kernel), by decide, plainFor_of_name (by decide +kernel), by decide +kernel, by decide +kernel⟩
set_option maxRecDepth 100000 in
theorem my_176 : mj_okY lw_tbl mm_176 := ⟨List.mem_of_getElem? (i := 784) rfl, List.mem_of_getElem? (i := 142) (by decide +kernel), by decide, plainFor_of_name (by decide +kernel), by decide +kernel, by decide +kernel⟩
set_option maxRecDepth 100000 in
theorem my_177 : mj_okY lw_tbl mm_177 := ⟨List.mem_of_getElem? (i := 788) rfl, List.mem_of_getElem? (i := 142) (by decide +kernel), by decide, plainFor_of_name (by decide +kernel), by decide +kernel, by decide +kernel⟩
set_option maxRecDepth 100000 in
theorem my_178 : mj_okY lw_tbl mm_178 := ⟨List.mem_of_getElem? (i := 791) rfl, List.mem_of_getElem? (i := 135) (by decide +kernel), by decide, plainFor_of_name (by decide +kernel), by decide +kernel, by decide +kernel⟩
set_option maxRecDepth 100000 in
theorem my_179 : mj_okY lw_tbl mm_179 := ⟨List.mem_of_getElem? (i := 795) rfl, List.mem_of_getElem? (i := 142) (by decide +kernel), by decide, plainFor_of_name (by decide +kernel), by decide +kernel, by decide +kernel⟩
set_option maxRecDepth 100000 in
theorem my_180 : mj_okY lw_tbl mm_180 := ⟨List.mem_of_getElem? (i := 798) rfl, List.mem_of_getElem? (i := 135) (by decide +kernel), by decide, plainFor_of_name (by decide +kernel), by decide +kernel, by decide +kernel⟩
set_option maxRecDepth 100000 in
theorem my_181 : mj_okY lw_tbl mm_181 := ⟨List.mem_of_getElem? (i := 802) rfl, List.mem_of_getElem? (i := 146) (by decide +kernel), by decide, plainFor_of_name (by decide +kernel), by decide +kernel, by decide +kernel⟩
set_option maxRecDepth 100000 in
theorem my_182 : mj_okY lw_tbl mm_182 := ⟨List.mem_of_getElem? (i := 806) rfl, List.mem_of_getElem? (i := 146) (by decide +kernel), by decide, plainFor_of_name (by decide +kernel), by decide +kernel, by decide +kernel⟩
set_option maxRecDepth 100000 in
theorem my_183 : mj_okY lw_tbl mm_183 := ⟨List.mem_of_getElem? (i := 810) rfl, List.mem_of_getElem? (i := 147) (by decide +kernel), by decide, plainFor_of_name (by decide +kernel), by decide +kernel, by decide +kernel⟩
set_option maxRecDepth 100000 in
theorem my_184 : mj_okY lw_tbl mm_184 := ⟨List.mem_of_getElem? (i := 814) rfl, List.mem_of_getElem? (i := 149) (by decide +kernel), by decide, plainFor_of_name (by decide +kernel), by decide +kernel, by decide +kernel⟩
set_option maxRecDepth 100000 in
theorem my_185 : mj_okY lw_tbl mm_185 := ⟨List.mem_of_getElem? (i := 818) rfl, List.mem_of_getElem? (i := 150) (by decide +kernel), by decide, plainFor_of_name (by decide +kernel), by decide +kernel, by decide +kernel⟩
set_option maxRecDepth 100000 in
theorem my_186 : mj_okY lw_tbl mm_186 := ⟨List.mem_of_getElem? (i := 822) rfl, List.mem_of_getElem? (i := 148) (by decide +kernel), by decide, plainFor_of_name (by decide +kernel), by decide +kernel, by decide +kernel⟩
set_option maxRecDepth 100000 in
theorem my_187 : mj_okY lw_tbl mm_187 := ⟨List.mem_of_getElem? (i := 826) rfl, List.mem_of_getElem? (i := 148) (by decide +kernel), by decide, plainFor_of_name (by decide +kernel), by decide +kernel, by decide +kernel⟩
set_option maxRecDepth 100000 in
theorem my_188 : mj_okY lw_tbl mm_188 := ⟨List.mem_of_getElem? (i := 830) rfl, List.mem_of_getElem? (i := 148) (by decide +kernel), by decide, plainFor_of_name (by decide +kernel), by decide +kernel, by decide +kernel⟩
set_option maxRecDepth 100000 in
theorem my_189 : mj_okY lw_tbl mm_189 := ⟨List.mem_of_getElem? (i := 834) rfl, List.mem_of_getElem? (i := 135) (by decide +kernel), by decide, plainFor_of_name (by decide +kernel), by decide +kernel, by decide +kernel⟩
set_option maxRecDepth 100000 in
theorem my_190 : mj_okY lw_tbl mm_190 := ⟨List.mem_of_getElem? (i := 838) rfl, List.mem_of_getElem? (i := 135) (by decide +kernel), by decide, plainFor_of_name (by decide +kernel), by decide +kernel, by decide +kernel⟩
set_option maxRecDepth 100000 in
theorem my_191 : mj_okY lw_tbl mm_191 := ⟨List.mem_of_getElem? (i := 842) rfl, List.mem_of_getElem? (i := 135) (by decide +kernel), by decide, plainFor_of_name (by decide +kernel), by decide +kernel, by decide +kernel⟩
set_option maxRecDepth 100000 in
theorem my_192 : mj_okY lw_tbl mm_192 := ⟨List.mem_of_getElem? (i := 846) rfl, List.mem_of_getElem? (i := 136) (by decide +kernel), by decide, plainFor_of_name (by decide +kernel), by decide +kernel, by decide +kernel⟩
set_option maxRecDepth 100000 in
theorem my_193 : mj_okY lw_tbl mm_193 := ⟨List.mem_of_getElem? (i := 849) rfl, List.mem_of_getElem? (i := 135) (by decide +kernel), by decide, plainFor_of_name (by decide +kernel), by decide +kernel, by decide +kernel⟩
set_option maxRecDepth 100000 in
theorem my_194 : mj_okY lw_tbl mm_194 := ⟨List.mem_of_getElem? (i := 853) rfl, List.mem_of_getElem? (i := 135) (by decide +kernel), by decide, plainFor_of_name (by decide +kernel), by decide +kernel, by decide +kernel⟩
set_option maxRecDepth 100000 in
theorem my_195 : mj_okY lw_tbl mm_195 := ⟨List.mem_of_getElem? (i := 858) rfl, List.mem_of_getElem? (i := 135) (by decide +kernel), by decide, plainFor_of_name (by decide +kernel), by decide +kernel, by decide +kernel⟩
set_option maxRecDepth 100000 in
theorem my_196 : mj_okY lw_tbl mm_196 := ⟨List.mem_of_getElem? (i := 862) rfl, List.mem_of_getElem? (i := 142) (by decide +kernel), by decide, plainFor_of_name (by decide +kernel), by decide +kernel, by decide +kernel⟩
set_option maxRecDepth 100000 in
theorem my_197 : mj_okY lw_tbl mm_197 := ⟨List.mem_of_getElem? (i := 866) rfl, List.mem_of_getElem? (i := 135) (by decide +kernel), by decide, plainFor_of_name (by decide +kernel), by decide +kernel, by decide +kernel⟩
set_option maxRecDepth 100000 in
theorem my_198 : mj_okY lw_tbl mm_198 := ⟨List.mem_of_getElem? (i := 871) rfl, List.mem_of_getElem? (i := 135) (by decide +kernel), by decide, plainFor_of_name (by decide +kernel), by decide +kernel, by decide +kernel⟩
set_option maxRecDepth 100000 in
theorem my_199 : mj_okY lw_tbl mm_199 := ⟨List.mem_of_getElem? (i := 882) rfl, List.mem_of_getElem? (i := 135) (by decide +kernel), by decide, plainFor_of_name (by decide +kernel), by decide +kernel, by decide +kernel⟩
set_option maxRecDepth 100000 in
theorem my_200 : mj_okY lw_tbl mm_200 := ⟨List.mem_of_getElem? (i := 886) rfl, List.mem_of_getElem? (i := 135) (by decide +kernel), by decide, plainFor_of_name (by decide +kernel), by decide +kernel, by decide +kernel⟩
set_option maxRecDepth 100000 in
theorem my_201 : mj_okY lw_tbl mm_201 := ⟨List.mem_of_getElem? (i := 890) rfl, List.mem_of_getElem? (i := 135) (by decide +kernel), by decide, plainFor_of_name (by decide +kernel), by decide +kernel, by decide +kernel⟩
set_option maxRecDepth 100000 in
theorem my_202 : mj_okY lw_tbl mm_202 := ⟨List.mem_of_getElem? (i := 895) rfl, List.mem_of_getElem? (i := 135) (by decide +kernel), by decide, plainFor_of_name (by decide +kernel), by decide +kernel, by decide +kernel⟩
set_option maxRecDepth 100000 in
theorem my_203 : mj_okY lw_tbl mm_203 := ⟨List.mem_of_getElem? (i := 901) rfl, List.mem_of_getElem? (i := 135) (by decide +kernel), by decide, plainFor_of_name (by decide +kernel), by decide +kernel, by decide +kernel⟩
set_option maxRecDepth 100000 in
theorem my_204 : mj_okY lw_tbl mm_204 := ⟨List.mem_of_getElem? (i := 905) rfl, List.mem_of_getElem? (i := 142) (by decide +kernel), by decide, plainFor_of_name (by decide +kernel), by decide +kernel, by decide +kernel⟩
set_option maxRecDepth 100000 in
theorem my_205 : mj_okY lw_tbl mm_205 := ⟨List.mem_of_getElem? (i := 910) rfl, List.mem_of_getElem? (i := 146) (by decide +kernel), by decide, plainFor_of_name (by decide +kernel), by decide +kernel, by decide +kernel⟩
set_option maxRecDepth 100000 in
theorem my_206 : mj_okY lw_tbl mm_206 := ⟨List.mem_of_getElem? (i := 917) rfl, List.mem_of_getElem? (i := 135) (by decide +kernel), by decide, plainFor_of_name (by decide +kernel), by decide +kernel, by decide +kernel⟩
set_option maxRecDepth 100000 in
theorem my_207 : mj_okY lw_tbl mm_207 := ⟨List.mem_of_getElem? (i := 921) rfl, List.mem_of_getElem? (i := 144) (by decide +kernel), by decide, plainFor_of_name (by decide +kernel), by decide +kernel, by decide +kernel⟩
set_option maxRecDepth 100000 in
theorem my_208 : mj_okY lw_tbl mm_208 := ⟨List.mem_of_getElem? (i := 925) rfl, List.mem_of_getElem? (i := 143) (by decide +kernel), by decide, plainFor_of_name (by decide +kernel), by decide +kernel, by decide +kernel⟩
set_option maxRecDepth 100000 in
theorem my_209 : mj_okY lw_tbl mm_209 := ⟨List.mem_of_getElem? (i := 929) rfl, List.mem_of_getElem? (i := 144) (by decide +kernel), by decide, plainFor_of_name (by decide +kernel), by decide +kernel, by decide +kernel⟩
set_option maxRecDepth 100000 in
theorem my_210 : mj_okY lw_tbl mm_210 := ⟨List.mem_of_getElem? (i := 933) rfl, List.mem_of_getElem? (i := 144) (by decide +kernel), by decide, plainFor_of_name (by decide +kernel), by decide +kernel, by decide +kernel⟩
set_option maxRecDepth 100000 in
theorem my_211 : mj_okY lw_tbl mm_211 := ⟨List.mem_of_getElem? (i := 938) rfl, List.mem_of_getElem? (i := 143) (by decide +kernel), by decide, plainFor_of_name (by decide +kernel), by decide +kernel, by decide +kernel⟩
set_option maxRecDepth 100000 in
theorem my_212 : mj_okY lw_tbl mm_212 := ⟨List.mem_of_getElem? (i := 943) rfl, List.mem_of_getElem? (i := 144) (by decide +kernel), by decide, plainFor_of_name (by decide +kernel), by decide +kernel, by decide +kernel⟩
set_option maxRecDepth 100000 in
theorem my_213 : mj_okY lw_tbl mm_213 := ⟨List.mem_of_getElem? (i := 948) rfl, List.mem_of_getElem? (i := 143) (by decide +kernel), by decide, plainFor_of_name (by decide +kernel), by decide +kernel, by decide +kernel⟩
set_option maxRecDepth 100000 in
theorem my_214 : mj_okY lw_tbl mm_214 := ⟨List.mem_of_getElem? (i := 952) rfl, List.mem_of_getElem? (i := 143) (by decide +kernel), by decide, plainFor_of_name (by decide +kernel), by decide +kernel, by decide +kernel⟩
set_option maxRecDepth 100000 in
theorem my_215 : mj_okY lw_tbl mm_215 := ⟨List.mem_of_getElem? (i := 956) rfl, List.mem_of_getElem? (i := 143) (by decide +kernel), by decide, plainFor_of_name (by decide +kernel), by decide +kernel, by decide +kernel⟩
set_option maxRecDepth 100000 in
theorem my_216 : mj_okY lw_tbl mm_216 := ⟨List.mem_of_getElem? (i := 960) rfl, List.mem_of_getElem? (i := 143) (by decide +kernel), by decide, plainFor_of_name (by decide +kernel), by decide +kernel, by decide +kernel⟩
set_option maxRecDepth 100000 in
theorem my_217 : mj_okY lw_tbl mm_217 := ⟨List.mem_of_getElem? (i := 964) rfl, List.mem_of_getElem? (i := 143) (by decide +kernel), by decide, plainFor_of_name (by decide +kernel), by decide +kernel, by decide +kernel⟩
set_option maxRecDepth 100000 in
theorem my_218 : mj_okY lw_tbl mm_218 := ⟨List.mem_of_getElem? (i := 969) rfl, List.mem_of_getElem? (i := 146) (by decide +kernel), by decide, plainFor_of_name (by decide +kernel), by decide +kernel, by decide +kernel⟩
set_option maxRecDepth 100000 in
theorem my_219 : mj_okY lw_tbl mm_219 := ⟨List.mem_of_getElem? (i := 975) rfl, List.mem_of_getElem? (i := 146) (by decide +kernel), by decide, plainFor_of_name (by decide +kernel), by decide +kernel, by decide +kernel⟩
set_option maxRecDepth 100000 in
theorem my_220 : mj_okY lw_tbl mm_220 := ⟨List.mem_of_getElem? (i := 980) rfl, List.mem_of_getElem? (i := 135) (by decide +kernel), by decide, plainFor_of_name (by decide +kernel), by decide +kernel, by decide +kernel⟩
set_option maxRecDepth 100000 in
theorem my_221 : mj_okY lw_tbl mm_221 := ⟨List.mem_of_getElem? (i := 984) rfl, List.mem_of_getElem? (i := 144) (by decide +kernel), by decide, plainFor_of_name (by decide +kernel), by decide +kernel, by decide +kernel⟩
set_option maxRecDepth 100000 in
theorem my_222 : mj_okY lw_tbl mm_222 := ⟨List.mem_of_getElem? (i := 988) rfl, List.mem_of_getElem? (i := 144) (by decide +kernel), by decide, plainFor_of_name (by decide +kernel), by decide +kernel, by decide +kernel⟩
set_option maxRecDepth 100000 in
theorem my_223 : mj_okY lw_tbl mm_223 := ⟨List.mem_of_getElem? (i := 992) rfl, List.mem_of_getElem? (i := 145) (by decide +kernel), by decide, plainFor_of_name (by decide +kernel), by decide +kernel, by decide +kernel⟩
set_option maxRecDepth 100000 in
theorem my_224 : mj_okY lw_tbl mm_224 := ⟨List.mem_of_getElem? (i := 996) rfl, List.mem_of_getElem? (i := 145) (by decide +kernel), by decide, plainFor_of_name (by decide +kernel), by decide +kernel, by decide +kernel⟩
set_option maxRecDepth 100000 in
theorem my_225 : mj_okY lw_tbl mm_225 := ⟨List.mem_of_getElem? (i := 1000) rfl, List.mem_of_getElem? (i := 145) (by decide +kernel), by decide, plainFor_of_name (by decide +kernel), by decide +kernel, by decide +kernel⟩
set_option maxRecDepth 100000 in
theorem my_226 : mj_okY lw_tbl mm_226 := ⟨List.mem_of_getElem? (i := 1010) rfl, List.mem_of_getElem? (i := 145) (by decide +kernel), by decide, plainFor_of_name (by decide +kernel), by decide +kernel, by decide +kernel⟩
set_option maxRecDepth 100000 in
theorem my_227 : mj_okY lw_tbl mm_227 := ⟨List.mem_of_getElem? (i := 1013) rfl, List.mem_of_getElem? (i := 145) (by decide +kernel), by decide, plainFor_of_name (by decide +kernel), by decide +kernel, by decide +kernel⟩
set_option maxRecDepth 100000 in
theorem my_228 : mj_okY lw_tbl mm_228 := ⟨List.mem_of_getElem? (i := 1016) rfl, List.mem_of_getElem? (i := 145) (by decide +kernel), by decide, plainFor_of_name (by decide +kernel), by decide +kernel, by decide +kernel⟩
set_option maxRecDepth 100000 in
theorem my_229 : mj_okY lw_tbl mm_229 := ⟨List.mem_of_getElem? (i := 1032) rfl, List.mem_of_getElem? (i := 145) (by decide +kernel), by decide, plainFor_of_name (by decide +kernel), by decide +kernel, by decide +kernel⟩
set_option maxRecDepth 100000 in
theorem my_230 : mj_okY lw_tbl mm_230 := ⟨List.mem_of_getElem? (i := 1036) rfl, List.mem_of_getElem? (i := 135) (by decide +kernel), by decide, plainFor_of_name (by decide +kernel), by decide +kernel, by decide +kernel⟩
set_option maxRecDepth 100000 in
theorem my_231 : mj_okY lw_tbl mm_231 := ⟨List.mem_of_getElem? (i := 1040) rfl, List.mem_of_getElem? (i := 146) (by decide +kernel), by decide, plainFor_of_name (by decide +kernel), by decide +kernel, by decide +kernel⟩
set_option maxRecDepth 100000 in
theorem my_232 : mj_okY lw_tbl mm_232 := ⟨List.mem_of_getElem? (i := 1045) rfl, List.mem_of_getElem? (i := 135) (by decide +kernel), by decide, plainFor_of_name (by decide +kernel), by decide +kernel, by decide +kernel⟩
set_option maxRecDepth 100000 in
theorem my_233 : mj_okY lw_tbl mm_233 := ⟨List.mem_of_getElem? (i := 1048) rfl, List.mem_of_getElem? (i := 146) (by decide +kernel), by decide, plainFor_of_name (by decide +kernel), by decide +kernel, by decide +kernel⟩
set_option maxRecDepth 100000 in
theorem my_234 : mj_okY lw_tbl mm_234 := ⟨List.mem_of_getElem? (i := 1053) rfl, List.mem_of_getElem? (i := 135) (by decide +kernel), by decide, plainFor_of_name (by decide +kernel), by decide +kernel, by decide +kernel⟩
set_option maxRecDepth 100000 in
theorem my_235 : mj_okY lw_tbl mm_235 := ⟨List.mem_of_getElem? (i := 1056) rfl, List.mem_of_getElem? (i := 146) (by decide +kernel), by decide, plainFor_of_name (by decide +kernel), by decide +kernel, by decide +kernel⟩
set_option maxRecDepth 100000 in
theorem my_236 : mj_okY lw_tbl mm_236 := ⟨List.mem_of_getElem? (i := 1060) rfl, List.mem_of_getElem? (i := 135) (by decide +kernel), by decide, plainFor_of_name (by decide +kernel), by decide +kernel, by decide +kernel⟩
set_option maxRecDepth 100000 in
theorem my_237 : mj_okY lw_tbl mm_237 := ⟨List.mem_of_getElem? (i := 1064) rfl, List.mem_of_getElem? (i := 135) (by decide +kernel), by decide, plainFor_of_name (by decide +kernel), by decide +kernel, by decide +kernel⟩
set_option maxRecDepth 100000 in
theorem my_238 : mj_okY lw_tbl mm_238 := ⟨List.mem_of_getElem? (i := 1068) rfl, List.mem_of_getElem? (i := 148) (by decide +kernel), by decide, plainFor_of_name (by decide +kernel), by decide +kernel, by decide +kernel⟩
set_option maxRecDepth 100000 in
theorem my_239 : mj_okY lw_tbl mm_239 := ⟨List.mem_of_getElem? (i := 1072) rfl, List.mem_of_getElem? (i := 148) (by decide +kernel), by decide, plainFor_of_name (by decide +kernel), by decide +kernel, by decide +kernel⟩
set_option maxRecDepth 100000 in
theorem my_240 : mj_okY lw_tbl mm_240 := ⟨List.mem_of_getElem? (i := 1076) rfl, List.mem_of_getElem? (i := 135) (by decide +kernel), by decide, plainFor_of_name (by decide +kernel), by decide +kernel, by decide +kernel⟩
set_option maxRecDepth 100000 in
theorem my_241 : mj_okY lw_tbl mm_241 := ⟨List.mem_of_getElem? (i := 1080) rfl, List.mem_of_getElem? (i := 135) (by decide +kernel), by decide, plainFor_of_name (by decide +kernel), by decide +kernel, by decide +kernel⟩
set_option maxRecDepth 100000 in
theorem my_242 : mj_okY lw_tbl mm_242 := ⟨List.mem_of_getElem? (i := 1084) rfl, List.mem_of_getElem? (i := 146) (by decide +kernel), by decide, plainFor_of_name (by decide +kernel), by decide +kernel, by decide +kernel⟩
set_option maxRecDepth 100000 in
theorem my_243 : mj_okY lw_tbl mm_243 := ⟨List.mem_of_getElem? (i := 1088) rfl, List.mem_of_getElem? (i := 147) (by decide +kernel), by decide, plainFor_of_name (by decide +kernel), by decide +kernel, by decide +kernel⟩
set_option maxRecDepth 100000 in
theorem my_244 : mj_okY lw_tbl mm_244 := ⟨List.mem_of_getElem? (i := 1092) rfl, List.mem_of_getElem? (i := 147) (by decide +kernel), by decide, plainFor_of_name (by decide +kernel), by decide +kernel, by decide +kernel⟩
set_option maxRecDepth 100000 in
theorem my_245 : mj_okY lw_tbl mm_245 := ⟨List.mem_of_getElem? (i := 1097) rfl, List.mem_of_getElem? (i := 146) (by decide +kernel), by decide, plainFor_of_name (by decide +kernel), by decide +kernel, by decide +kernel⟩
set_option maxRecDepth 100000 in
theorem my_246 : mj_okY lw_tbl mm_246 := ⟨List.mem_of_getElem? (i := 1102) rfl, List.mem_of_getElem? (i := 147) (by decide +kernel), by decide, plainFor_of_name (by decide +kernel), by decide +kernel, by decide +kernel⟩
set_option maxRecDepth 100000 in
theorem my_247 : mj_okY lw_tbl mm_247 := ⟨List.mem_of_getElem? (i := 1106) rfl, List.mem_of_getElem? (i := 147) (by decide +kernel), by decide, plainFor_of_name (by decide +kernel), by decide +kernel, by decide +kernel⟩
set_option maxRecDepth 100000 in
theorem my_248 : mj_okY lw_tbl mm_248 := ⟨List.mem_of_getElem? (i := 1112) rfl, List.mem_of_getElem? (i := 147) (by decide +kernel), by decide, plainFor_of_name (by decide +kernel), by decide +kernel, by decide +kernel⟩
set_option maxRecDepth 100000 in
theorem my_249 : mj_okY lw_tbl mm_249 := ⟨List.mem_of_getElem? (i := 1116) rfl, List.mem_of_getElem? (i := 135) (by decide +kernel), by decide, plainFor_of_name (by decide +kernel), by decide +kernel, by decide +kernel⟩
set_option maxRecDepth 100000 in
theorem my_250 : mj_okY lw_tbl mm_250 := ⟨List.mem_of_getElem? (i := 1120) rfl, List.mem_of_getElem? (i := 147) (by decide +kernel), by decide, plainFor_of_name (by decide +kernel), by decide +kernel, by decide +kernel⟩
set_option maxRecDepth 100000 in
theorem my_251 : mj_okY lw_tbl mm_251 := ⟨List.mem_of_getElem? (i := 1124) rfl, List.mem_of_getElem? (i := 135) (by decide +kernel), by decide, plainFor_of_name (by decide +kernel), by decide +kernel, by decide +kernel⟩
set_option maxRecDepth 100000 in
theorem my_252 : mj_okY lw_tbl mm_252 := ⟨List.mem_of_getElem? (i := 1128) rfl, List.mem_of_getElem? (i := 135) (by decide +kernel), by decide, plainFor_of_name (by decide +kernel), by decide +kernel, by decide +kernel⟩
set_option maxRecDepth 100000 in
theorem my_253 : mj_okY lw_tbl mm_253 := ⟨List.mem_of_getElem? (i := 1132) rfl, List.mem_of_getElem? (i := 135) (by decide +kernel), by decide, plainFor_of_name (by decide +kernel), by decide +kernel, by decide +kernel⟩
set_option maxRecDepth 100000 in
theorem my_254 : mj_okY lw_tbl mm_254 := ⟨List.mem_of_getElem? (i := 1137) rfl, List.mem_of_getElem? (i := 135) (by decide +kernel), by decide, plainFor_of_name (by decide +kernel), by decide +kernel, by decide +kernel⟩
set_option maxRecDepth 100000 in
theorem my_255 : mj_okY lw_tbl mm_255 := ⟨List.mem_of_getElem? (i := 1141) rfl, List.mem_of_getElem? (i := 146) (by decide +kernel), by decide, plainFor_of_name (by decide +kernel), by decide +kernel, by decide +kernel⟩
set_option maxRecDepth 100000 in
theorem my_256 : mj_okY lw_tbl mm_256 := ⟨List.mem_of_getElem? (i := 1147) rfl, List.mem_of_getElem? (i := 135) (by decide +kernel), by decide, plainFor_of_name (by decide +kernel), by decide +kernel, by decide +kernel⟩
set_option maxRecDepth 100000 in
theorem my_257 : mj_okY lw_tbl mm_257 := ⟨List.mem_of_getElem? (i := 1151) rfl, List.mem_of_getElem? (i := 149) (by decide +kernel), by decide, plainFor_of_name (by decide +kernel), by decide +kernel, by decide +kernel⟩
set_option maxRecDepth 100000 in
theorem my_258 : mj_okY lw_tbl mm_258 := ⟨List.mem_of_getElem? (i := 1155) rfl, List.mem_of_getElem? (i := 135) (by decide +kernel), by decide, plainFor_of_name (by decide +kernel), by decide +kernel, by decide +kernel⟩
set_option maxRecDepth 100000 in
theorem my_259 : mj_okY lw_tbl mm_259 := ⟨List.mem_of_getElem? (i := 1159) rfl, List.mem_of_getElem? (i := 135) (by decide +kernel), by decide, plainFor_of_name (by decide +kernel), by decide +kernel, by decide +kernel⟩
set_option maxRecDepth 100000 in
theorem my_260 : mj_okY lw_tbl mm_260 := ⟨List.mem_of_getElem? (i := 1163) rfl, List.mem_of_getElem? (i := 149) (by decide +kernel), by decide, plainFor_of_name (by decide +kernel), by decide +kernel, by decide +kernel⟩
set_option maxRecDepth 100000 in
theorem my_261 : mj_okY lw_tbl mm_261 := ⟨List.mem_of_getElem? (i := 1167) rfl, List.mem_of_getElem? (i := 149) (by decide +kernel), by decide, plainFor_of_name (by decide +kernel), by decide +kernel, by decide +kernel⟩
set_option maxRecDepth 100000 in
theorem my_262 : mj_okY lw_tbl mm_262 := ⟨List.mem_of_getElem? (i := 1173) rfl, List.mem_of_getElem? (i := 135) (by decide +kernel), by decide, plainFor_of_name (by decide +kernel), by decide +kernel, by decide +kernel⟩
set_option maxRecDepth 100000 in
theorem my_263 : mj_okY lw_tbl mm_263 := ⟨List.mem_of_getElem? (i := 1177) rfl, List.mem_of_getElem? (i := 142) (by decide +kernel), by decide, plainFor_of_name (by decide +kernel), by decide +kernel, by decide +kernel⟩
set_option maxRecDepth 100000 in
theorem my_264 : mj_okY lw_tbl mm_264 := ⟨List.mem_of_getElem? (i := 1184) rfl, List.mem_of_getElem? (i := 135) (by decide +kernel), by decide, plainFor_of_name (by decide +kernel), by decide +kernel, by decide +kernel⟩
set_option maxRecDepth 100000 in
theorem my_265 : mj_okY lw_tbl mm_265 := ⟨List.mem_of_getElem? (i := 1188) rfl, List.mem_of_getElem? (i := 149) (by decide +kernel), by decide, plainFor_of_name (by decide +kernel), by decide +kernel, by decide +kernel⟩
set_option maxRecDepth 100000 in
theorem my_266 : mj_okY lw_tbl mm_266 := ⟨List.mem_of_getElem? (i := 1194) rfl, List.mem_of_getElem? (i := 149) (by decide +kernel), by decide, plainFor_of_name (by decide +kernel), by decide +kernel, by decide +kernel⟩
set_option maxRecDepth 100000 in
theorem my_267 : mj_okY lw_tbl mm_267 := ⟨List.mem_of_getElem? (i := 1199) rfl, List.mem_of_getElem? (i := 149) (by decide +kernel), by decide, plainFor_of_name (by decide +kernel), by decide +kernel, by decide +kernel⟩
set_option maxRecDepth 100000 in
theorem my_268 : mj_okY lw_tbl mm_268 := ⟨List.mem_of_getElem? (i := 1205) rfl, List.mem_of_getElem? (i := 135) (by decide +kernel), by decide, plainFor_of_name (by decide +kernel), by decide +kernel, by decide +kernel⟩
set_option maxRecDepth 100000 in
theorem my_269 : mj_okY lw_tbl mm_269 := ⟨List.mem_of_getElem? (i := 1209) rfl, List.mem_of_getElem? (i := 149) (by decide +kernel), by decide, plainFor_of_name (by decide +kernel), by decide +kernel, by decide +kernel⟩
set_option maxRecDepth 100000 in
theorem my_270 : mj_okY lw_tbl mm_270 := ⟨List.mem_of_getElem? (i := 1213) rfl, List.mem_of_getElem? (i := 149) (by decide +kernel), by decide, plainFor_of_name (by decide +kernel), by decide +kernel, by decide +kernel⟩
set_option maxRecDepth 100000 in
theorem my_271 : mj_okY lw_tbl mm_271 := ⟨List.mem_of_getElem? (i := 1217) rfl, List.mem_of_getElem? (i := 149) (by decide +kernel), by decide, plainFor_of_name (by decide +kernel), by decide +kernel, by decide +kernel⟩
set_option maxRecDepth 100000 in
theorem my_272 : mj_okY lw_tbl mm_272 := ⟨List.mem_of_getElem? (i := 1220) rfl, List.mem_of_getElem? (i := 149) (by decide +kernel), by decide, plainFor_of_name (by decide +kernel), by decide +kernel, by decide +kernel⟩
set_option maxRecDepth 100000 in
theorem my_273 : mj_okY lw_tbl mm_273 := ⟨List.mem_of_getElem? (i := 1225) rfl, List.mem_of_getElem? (i := 135) (by decide +kernel), by decide, plainFor_of_name (by decide +kernel), by decide +kernel, by decide +kernel⟩
set_option maxRecDepth 100000 in
theorem my_274 : mj_okY lw_tbl mm_274 := ⟨List.mem_of_getElem? (i := 1236) rfl, List.mem_of_getElem? (i := 135) (by decide +kernel), by decide, plainFor_of_name (by decide +kernel), by decide +kernel, by decide +kernel⟩
set_option maxRecDepth 100000 in
theorem my_275 : mj_okY lw_tbl mm_275 := ⟨List.mem_of_getElem? (i := 1239) rfl, List.mem_of_getElem? (i := 150) (by decide +kernel), by decide, plainFor_of_name (by decide +kernel), by decide +kernel, by decide +kernel⟩
set_option maxRecDepth 100000 in
theorem my_276 : mj_okY lw_tbl mm_276 := ⟨List.mem_of_getElem? (i := 1242) rfl, List.mem_of_getElem? (i := 135) (by decide +kernel), by decide, plainFor_of_name (by decide +kernel), by decide +kernel, by decide +kernel⟩
set_option maxRecDepth 100000 in
theorem my_277 : mj_okY lw_tbl mm_277 := ⟨List.mem_of_getElem? (i := 1246) rfl, List.mem_of_getElem? (i := 135) (by decide +kernel), by decide, plainFor_of_name (by decide +kernel), by decide +kernel, by decide +kernel⟩
set_option maxRecDepth 100000 in
theorem my_278 : mj_okY lw_tbl mm_278 := ⟨List.mem_of_getElem? (i := 1250) rfl, List.mem_of_getElem? (i := 135) (by decide +kernel), by decide, plainFor_of_name (by decide +kernel), by decide +kernel, by decide +kernel⟩
set_option maxRecDepth 100000 in
theorem my_279 : mj_okY lw_tbl mm_279 := ⟨List.mem_of_getElem? (i := 1254) rfl, List.mem_of_getElem? (i := 150) (by decide +kernel), by decide, plainFor_of_name (by decide +kernel), by decide +kernel, by decide +kernel⟩
set_option maxRecDepth 100000 in
theorem my_280 : mj_okY lw_tbl mm_280 := ⟨List.mem_of_getElem? (i := 1259) rfl, List.mem_of_getElem? (i := 150) (by decide +kernel), by decide, plainFor_of_name (by decide +kernel), by decide +kernel, by decide +kernel⟩
set_option maxRecDepth 100000 in
theorem my_281 : mj_okY lw_tbl mm_281 := ⟨List.mem_of_getElem? (i := 1263) rfl, List.mem_of_getElem? (i := 150) (by decide +kernel), by decide, plainFor_of_name (by decide +kernel), by decide +kernel, by decide +kernel⟩
set_option maxRecDepth 100000 in
theorem my_282 : mj_okY lw_tbl mm_282 := ⟨List.mem_of_getElem? (i := 1267) rfl, List.mem_of_getElem? (i := 150) (by decide +kernel), by decide, plainFor_of_name (by decide +kernel), by decide +kernel, by decide +kernel⟩
set_option maxRecDepth 100000 in
theorem my_283 : mj_okY lw_tbl mm_283 := ⟨List.mem_of_getElem? (i := 1272) rfl, List.mem_of_getElem? (i := 150) (by decide +kernel), by decide, plainFor_of_name (by decide +kernel), by decide +kernel, by decide +kernel⟩
set_option maxRecDepth 100000 in
theorem my_284 : mj_okY lw_tbl mm_284 := ⟨List.mem_of_getElem? (i := 1276) rfl, List.mem_of_getElem? (i := 150) (by decide +kernel), by decide, plainFor_of_name (by decide +kernel), by decide +kernel, by decide +kernel⟩
set_option maxRecDepth 100000 in
theorem my_285 : mj_okY lw_tbl mm_285 := ⟨List.mem_of_getElem? (i := 1280) rfl, List.mem_of_getElem? (i := 150) (by decide +kernel), by decide, plainFor_of_name (by decide +kernel), by decide +kernel, by decide +kernel⟩
set_option maxRecDepth 100000 in
theorem my_286 : mj_okY lw_tbl mm_286 := ⟨List.mem_of_getElem? (i := 1284) rfl, List.mem_of_getElem? (i := 150) (by decide +kernel), by decide, plainFor_of_name (by decide +kernel), by decide +kernel, by decide +kernel⟩
set_option maxRecDepth 100000 in
theorem my_287 : mj_okY lw_tbl mm_287 := ⟨List.mem_of_getElem? (i := 1289) rfl, List.mem_of_getElem? (i := 135) (by decide +kernel), by decide, plainFor_of_name (by decide +kernel), by decide +kernel, by decide +kernel⟩
set_option maxRecDepth 100000 in
theorem my_288 : mj_okY lw_tbl mm_288 := ⟨List.mem_of_getElem? (i := 1293) rfl, List.mem_of_getElem? (i := 150) (by decide +kernel), by decide, plainFor_of_name (by decide +kernel), by decide +kernel, by decide +kernel⟩
set_option maxRecDepth 100000 in
theorem my_289 : mj_okY lw_tbl mm_289 := ⟨List.mem_of_getElem? (i := 1298) rfl, List.mem_of_getElem? (i := 150) (by decide +kernel), by decide, plainFor_of_name (by decide +kernel), by decide +kernel, by decide +kernel⟩
set_option maxRecDepth 100000 in
theorem my_290 : mj_okY lw_tbl mm_290 := ⟨List.mem_of_getElem? (i := 1302) rfl, List.mem_of_getElem? (i := 150) (by decide +kernel), by decide, plainFor_of_name (by decide +kernel), by decide +kernel, by decide +kernel⟩
set_option maxRecDepth 100000 in
theorem my_291 : mj_okY lw_tbl mm_291 := ⟨List.mem_of_getElem? (i := 1306) rfl, List.mem_of_getElem? (i := 135) (by decide +kernel), by decide, plainFor_of_name (by decide +kernel), by decide +kernel, by decide +kernel⟩
end
section
/-! the pools, by program -/
def mp_0 : mj_Q := ([(7, 0, 0, true), (13, 0, 1, false), (17, 0, 2, false), (20, 0, 3, false), (23, 0, 4, false), (26, 0, 5, false), (29, 0, 6, false), (32, 0, 7, false), (36, 0, 8, false), (39, 0, 9, false), (42, 0, 10, false), (45, 0, 11, false), (48, 0, 12, false), (51, 0, 13, true), (54, 0, 14, true), (57, 0, 15, true), (60, 0, 16, true), (63, 0, 17, true), (66, 0, 18, true), (69, 0, 19, true), (73, 0, 20, true), (77, 0, 21, true), (80, 0, 22, true), (83, 0, 23, true), (86, 0, 24, true), (89, 0, 25, true), (92, 0, 26, true), (95, 0, 27, true), (98, 0, 28, true), (101, 0, 29, true), (104, 0, 30, true), (107, 0, 31, true), (110, 0, 32, true), (113, 0, 33, true), (116, 0, 34, false), (119, 0, 35, false), (122, 0, 36, true), (125, 0, 37, true), (128, 0, 38, true), (131, 0, 39, true), (134, 0, 40, true), (137, 0, 41, false), (140, 0, 42, false), (143, 0, 43, true), (146, 0, 44, false), (149, 0, 45, false), (153, 0, 46, false), (156, 0, 47, false), (159, 0, 48, false), (163, 0, 49, true), (166, 0, 50, true), (170, 0, 51, true), (173, 0, 52, true), (176, 0, 53, true), (179, 0, 54, true), (182, 0, 55, true), (185, 0, 56, false), (188, 0, 57, true), (191, 0, 58, false), (194, 0, 59, false), (197, 0, 60, true), (200, 0, 61, true), (203, 0, 62, true), (206, 0, 63, false), (209, 0, 64, true), (212, 0, 65, false), (215, 0, 66, true), (218, 0, 67, true), (221, 0, 68, false), (224, 0, 69, true), (227, 0, 70, true), (230, 0, 71, false), (233, 0, 72, true), (236, 0, 73, true), (239, 0, 74, true), (242, 0, 75, true), (245, 0, 76, true)], [(248, 10, 2, 1), (266, 13, 1, 1), (259, 16, 3, 1), (388, 17, 1, 1), (333, 18, 2, 1), (370, 19, 1, 1), (355, 20, 3, 1), (359, 21, 1, 1), (313, 22, 2, 1), (317, 23, 2, 1), (303, 24, 3, 1), (307, 25, 3, 1), (310, 26, 3, 1), (373, 27, 1, 1), (263, 28, 2, 1), (363, 29, 1, 1), (376, 30, 1, 1), (367, 31, 2, 1), (379, 32, 1, 1), (382, 33, 1, 1), (327, 34, 2, 1), (348, 35, 1, 1), (336, 37, 2, 1), (339, 38, 2, 1), (324, 39, 3, 1), (342, 40, 2, 1), (352, 41, 1, 1), (345, 42, 2, 1), (385, 44, 2, 1), (393, 48, 2, 1), (400, 51, 2, 1), (407, 53, 3, 1), (420, 55, 3, 1), (414, 56, 2, 1), (417, 57, 3, 1), (411, 58, 3, 1), (424, 60, 1, 1), (439, 66, 3, 1), (433, 67, 3, 1), (436, 68, 3, 1), (480, 71, 3, 1), (451, 72, 2, 1), (442, 73, 2, 1), (445, 74, 2, 1), (448, 75, 3, 1), (483, 76, 1, 1), (454, 77, 3, 1), (473, 78, 3, 1), (458, 79, 2, 1), (486, 83, 3, 1), (489, 85, 2, 1), (496, 90, 1, 1), (499, 91, 2, 1), (502, 92, 2, 1), (493, 93, 2, 1), (508, 96, 2, 1), (505, 97, 3, 1), (511, 98, 2, 1), (514, 99, 2, 1), (526, 108, 1, 1), (523, 109, 1, 1), (520, 110, 2, 1), (529, 112, 1, 1), (532, 114, 3, 1), (535, 116, 3, 1), (550, 122, 1, 1), (541, 123, 2, 1), (563, 124, 1, 1), (566, 125, 3, 1), (560, 126, 4, 1), (553, 127, 4, 1), (547, 128, 4, 1), (544, 129, 3, 1), (557, 130, 3, 1), (569, 121, 2, 1)], [(252, 14, 1), (256, 15, 1), (330, 36, 1), (320, 43, 1), (403, 49, 3), (396, 50, 2), (429, 63, 1), (476, 80, 3), (465, 81, 1), (469, 82, 2), (517, 103, 2), (538, 119, 1)], [(162, 32768), (169, 81920), (492, (-2000000000))], [(269, 2003399528), (271, 1818588019), (273, 1836020325), (275, 7499639), (277, 1802399604), (279, 7629157), (281, 499967946343), (283, 1920298085), (285, 28530), (287, 6385252), (289, 7237492), (291, 6384748), (293, 6840691), (295, 1835101817), (297, 28518), (299, 7170414), (301, 7168376), (391, 255), (427, (-1)), (461, 1000000000), (463, (-1000000000))], [])
theorem mpF_0_0 : mj_okF lw_tbl mj_CL "UnbeatenHouseModel" 7 0 0 ∧ (true = false → ∃ q, mj_CL[0]? = some q ∧ (q.2.1 0).2.2.2 = false) := ⟨⟨_, _, _, rfl, by decide, Or.inl (List.mem_of_getElem? (i := 1316) (by decide +kernel))⟩, fun h => absurd h (by decide)⟩
theorem mpF_0_1 : mj_okF lw_tbl mj_CL "UnbeatenHouseModel" 13 0 1 ∧ (false = false → ∃ q, mj_CL[0]? = some q ∧ (q.2.1 1).2.2.2 = false) := ⟨⟨_, _, _, rfl, by decide, Or.inl (List.mem_of_getElem? (i := 1317) (by decide +kernel))⟩, fun _ => ⟨_, rfl, by decide +kernel⟩⟩
theorem mpF_0_2 : mj_okF lw_tbl mj_CL "UnbeatenHouseModel" 17 0 2 ∧ (false = false → ∃ q, mj_CL[0]? = some q ∧ (q.2.1 2).2.2.2 = false) := ⟨⟨_, _, _, rfl, by decide, Or.inl (List.mem_of_getElem? (i := 1318) (by decide +kernel))⟩, fun _ => ⟨_, rfl, by decide +kernel⟩⟩
theorem mpF_0_3 : mj_okF lw_tbl mj_CL "UnbeatenHouseModel" 20 0 3 ∧ (false = false → ∃ q, mj_CL[0]? = some q ∧ (q.2.1 3).2.2.2 = false) := ⟨⟨_, _, _, rfl, by decide, Or.inl (List.mem_of_getElem? (i := 1319) (by decide +kernel))⟩, fun _ => ⟨_, rfl, by decide +kernel⟩⟩
theorem mpF_0_4 : mj_okF lw_tbl mj_CL "UnbeatenHouseModel" 23 0 4 ∧ (false = false → ∃ q, mj_CL[0]? = some q ∧ (q.2.1 4).2.2.2 = false) := ⟨⟨_, _, _, rfl, by decide, Or.inl (List.mem_of_getElem? (i := 1320) (by decide +kernel))⟩, fun _ => ⟨_, rfl, by decide +kernel⟩⟩
theorem mpF_0_5 : mj_okF lw_tbl mj_CL "UnbeatenHouseModel" 26 0 5 ∧ (false = false → ∃ q, mj_CL[0]? = some q ∧ (q.2.1 5).2.2.2 = false) := ⟨⟨_, _, _, rfl, by decide, Or.inl (List.mem_of_getElem? (i := 1321) (by decide +kernel))⟩, fun _ => ⟨_, rfl, by decide +kernel⟩⟩
theorem mpF_0_6 : mj_okF lw_tbl mj_CL "UnbeatenHouseModel" 29 0 6 ∧ (false = false → ∃ q, mj_CL[0]? = some q ∧ (q.2.1 6).2.2.2 = false) := ⟨⟨_, _, _, rfl, by decide, Or.inl (List.mem_of_getElem? (i := 1322) (by decide +kernel))⟩, fun _ => ⟨_, rfl, by decide +kernel⟩⟩
theorem mpF_0_7 : mj_okF lw_tbl mj_CL "UnbeatenHouseModel" 32 0 7 ∧ (false = false → ∃ q, mj_CL[0]? = some q ∧ (q.2.1 7).2.2.2 = false) := ⟨⟨_, _, _, rfl, by decide, Or.inl (List.mem_of_getElem? (i := 1323) (by decide +kernel))⟩, fun _ => ⟨_, rfl, by decide +kernel⟩⟩
theorem mpF_0_8 : mj_okF lw_tbl mj_CL "UnbeatenHouseModel" 36 0 8 ∧ (false = false → ∃ q, mj_CL[0]? = some q ∧ (q.2.1 8).2.2.2 = false) := ⟨⟨_, _, _, rfl, by decide, Or.inl (List.mem_of_getElem? (i := 1324) (by decide +kernel))⟩, fun _ => ⟨_, rfl, by decide +kernel⟩⟩
theorem mpF_0_9 : mj_okF lw_tbl mj_CL "UnbeatenHouseModel" 39 0 9 ∧ (false = false → ∃ q, mj_CL[0]? = some q ∧ (q.2.1 9).2.2.2 = false) := ⟨⟨_, _, _, rfl, by decide, Or.inl (List.mem_of_getElem? (i := 1325) (by decide +kernel))⟩, fun _ => ⟨_, rfl, by decide +kernel⟩⟩
theorem mpF_0_10 : mj_okF lw_tbl mj_CL "UnbeatenHouseModel" 42 0 10 ∧ (false = false → ∃ q, mj_CL[0]? = some q ∧ (q.2.1 10).2.2.2 = false) := ⟨⟨_, _, _, rfl, by decide, Or.inl (List.mem_of_getElem? (i := 1326) (by decide +kernel))⟩, fun _ => ⟨_, rfl, by decide +kernel⟩⟩
theorem mpF_0_11 : mj_okF lw_tbl mj_CL "UnbeatenHouseModel" 45 0 11 ∧ (false = false → ∃ q, mj_CL[0]? = some q ∧ (q.2.1 11).2.2.2 = false) := ⟨⟨_, _, _, rfl, by decide, Or.inl (List.mem_of_getElem? (i := 1327) (by decide +kernel))⟩, fun _ => ⟨_, rfl, by decide +kernel⟩⟩
theorem mpF_0_12 : mj_okF lw_tbl mj_CL "UnbeatenHouseModel" 48 0 12 ∧ (false = false → ∃ q, mj_CL[0]? = some q ∧ (q.2.1 12).2.2.2 = false) := ⟨⟨_, _, _, rfl, by decide, Or.inl (List.mem_of_getElem? (i := 1328) (by decide +kernel))⟩, fun _ => ⟨_, rfl, by decide +kernel⟩⟩
theorem mpF_0_13 : mj_okF lw_tbl mj_CL "UnbeatenHouseModel" 51 0 13 ∧ (true = false → ∃ q, mj_CL[0]? = some q ∧ (q.2.1 13).2.2.2 = false) := ⟨⟨_, _, _, rfl, by decide, Or.inl (List.mem_of_getElem? (i := 1329) (by decide +kernel))⟩, fun h => absurd h (by decide)⟩
theorem mpF_0_14 : mj_okF lw_tbl mj_CL "UnbeatenHouseModel" 54 0 14 ∧ (true = false → ∃ q, mj_CL[0]? = some q ∧ (q.2.1 14).2.2.2 = false) := ⟨⟨_, _, _, rfl, by decide, Or.inl (List.mem_of_getElem? (i := 1330) (by decide +kernel))⟩, fun h => absurd h (by decide)⟩
theorem mpF_0_15 : mj_okF lw_tbl mj_CL "UnbeatenHouseModel" 57 0 15 ∧ (true = false → ∃ q, mj_CL[0]? = some q ∧ (q.2.1 15).2.2.2 = false) := ⟨⟨_, _, _, rfl, by decide, Or.inl (List.mem_of_getElem? (i := 1331) (by decide +kernel))⟩, fun h => absurd h (by decide)⟩
theorem mpF_0_16 : mj_okF lw_tbl mj_CL "UnbeatenHouseModel" 60 0 16 ∧ (true = false → ∃ q, mj_CL[0]? = some q ∧ (q.2.1 16).2.2.2 = false) := ⟨⟨_, _, _, rfl, by decide, Or.inl (List.mem_of_getElem? (i := 1332) (by decide +kernel))⟩, fun h => absurd h (by decide)⟩
theorem mpF_0_17 : mj_okF lw_tbl mj_CL "UnbeatenHouseModel" 63 0 17 ∧ (true = false → ∃ q, mj_CL[0]? = some q ∧ (q.2.1 17).2.2.2 = false) := ⟨⟨_, _, _, rfl, by decide, Or.inl (List.mem_of_getElem? (i := 1333) (by decide +kernel))⟩, fun h => absurd h (by decide)⟩
theorem mpF_0_18 : mj_okF lw_tbl mj_CL "UnbeatenHouseModel" 66 0 18 ∧ (true = false → ∃ q, mj_CL[0]? = some q ∧ (q.2.1 18).2.2.2 = false) := ⟨⟨_, _, _, rfl, by decide, Or.inl (List.mem_of_getElem? (i := 1334) (by decide +kernel))⟩, fun h => absurd h (by decide)⟩
theorem mpF_0_19 : mj_okF lw_tbl mj_CL "UnbeatenHouseModel" 69 0 19 ∧ (true = false → ∃ q, mj_CL[0]? = some q ∧ (q.2.1 19).2.2.2 = false) := ⟨⟨_, _, _, rfl, by decide, Or.inl (List.mem_of_getElem? (i := 1335) (by decide +kernel))⟩, fun h => absurd h (by decide)⟩
theorem mpF_0_20 : mj_okF lw_tbl mj_CL "UnbeatenHouseModel" 73 0 20 ∧ (true = false → ∃ q, mj_CL[0]? = some q ∧ (q.2.1 20).2.2.2 = false) := ⟨⟨_, _, _, rfl, by decide, Or.inl (List.mem_of_getElem? (i := 1336) (by decide +kernel))⟩, fun h => absurd h (by decide)⟩
theorem mpF_0_21 : mj_okF lw_tbl mj_CL "UnbeatenHouseModel" 77 0 21 ∧ (true = false → ∃ q, mj_CL[0]? = some q ∧ (q.2.1 21).2.2.2 = false) := ⟨⟨_, _, _, rfl, by decide, Or.inl (List.mem_of_getElem? (i := 1337) (by decide +kernel))⟩, fun h => absurd h (by decide)⟩
theorem mpF_0_22 : mj_okF lw_tbl mj_CL "UnbeatenHouseModel" 80 0 22 ∧ (true = false → ∃ q, mj_CL[0]? = some q ∧ (q.2.1 22).2.2.2 = false) := ⟨⟨_, _, _, rfl, by decide, Or.inl (List.mem_of_getElem? (i := 1338) (by decide +kernel))⟩, fun h => absurd h (by decide)⟩
theorem mpF_0_23 : mj_okF lw_tbl mj_CL "UnbeatenHouseModel" 83 0 23 ∧ (true = false → ∃ q, mj_CL[0]? = some q ∧ (q.2.1 23).2.2.2 = false) := ⟨⟨_, _, _, rfl, by decide, Or.inl (List.mem_of_getElem? (i := 1339) (by decide +kernel))⟩, fun h => absurd h (by decide)⟩
theorem mpF_0_24 : mj_okF lw_tbl mj_CL "UnbeatenHouseModel" 86 0 24 ∧ (true = false → ∃ q, mj_CL[0]? = some q ∧ (q.2.1 24).2.2.2 = false) := ⟨⟨_, _, _, rfl, by decide, Or.inl (List.mem_of_getElem? (i := 1340) (by decide +kernel))⟩, fun h => absurd h (by decide)⟩
theorem mpF_0_25 : mj_okF lw_tbl mj_CL "UnbeatenHouseModel" 89 0 25 ∧ (true = false → ∃ q, mj_CL[0]? = some q ∧ (q.2.1 25).2.2.2 = false) := ⟨⟨_, _, _, rfl, by decide, Or.inl (List.mem_of_getElem? (i := 1341) (by decide +kernel))⟩, fun h => absurd h (by decide)⟩
theorem mpF_0_26 : mj_okF lw_tbl mj_CL "UnbeatenHouseModel" 92 0 26 ∧ (true = false → ∃ q, mj_CL[0]? = some q ∧ (q.2.1 26).2.2.2 = false) := ⟨⟨_, _, _, rfl, by decide, Or.inl (List.mem_of_getElem? (i := 1342) (by decide +kernel))⟩, fun h => absurd h (by decide)⟩
theorem mpF_0_27 : mj_okF lw_tbl mj_CL "UnbeatenHouseModel" 95 0 27 ∧ (true = false → ∃ q, mj_CL[0]? = some q ∧ (q.2.1 27).2.2.2 = false) := ⟨⟨_, _, _, rfl, by decide, Or.inl (List.mem_of_getElem? (i := 1343) (by decide +kernel))⟩, fun h => absurd h (by decide)⟩
theorem mpF_0_28 : mj_okF lw_tbl mj_CL "UnbeatenHouseModel" 98 0 28 ∧ (true = false → ∃ q, mj_CL[0]? = some q ∧ (q.2.1 28).2.2.2 = false) := ⟨⟨_, _, _, rfl, by decide, Or.inl (List.mem_of_getElem? (i := 1344) (by decide +kernel))⟩, fun h => absurd h (by decide)⟩
theorem mpF_0_29 : mj_okF lw_tbl mj_CL "UnbeatenHouseModel" 101 0 29 ∧ (true = false → ∃ q, mj_CL[0]? = some q ∧ (q.2.1 29).2.2.2 = false) := ⟨⟨_, _, _, rfl, by decide, Or.inl (List.mem_of_getElem? (i := 1345) (by decide +kernel))⟩, fun h => absurd h (by decide)⟩
theorem mpF_0_30 : mj_okF lw_tbl mj_CL "UnbeatenHouseModel" 104 0 30 ∧ (true = false → ∃ q, mj_CL[0]? = some q ∧ (q.2.1 30).2.2.2 = false) := ⟨⟨_, _, _, rfl, by decide, Or.inl (List.mem_of_getElem? (i := 1346) (by decide +kernel))⟩, fun h => absurd h (by decide)⟩
theorem mpF_0_31 : mj_okF lw_tbl mj_CL "UnbeatenHouseModel" 107 0 31 ∧ (true = false → ∃ q, mj_CL[0]? = some q ∧ (q.2.1 31).2.2.2 = false) := ⟨⟨_, _, _, rfl, by decide, Or.inl (List.mem_of_getElem? (i := 1347) (by decide +kernel))⟩, fun h => absurd h (by decide)⟩
theorem mpF_0_32 : mj_okF lw_tbl mj_CL "UnbeatenHouseModel" 110 0 32 ∧ (true = false → ∃ q, mj_CL[0]? = some q ∧ (q.2.1 32).2.2.2 = false) := ⟨⟨_, _, _, rfl, by decide, Or.inl (List.mem_of_getElem? (i := 1348) (by decide +kernel))⟩, fun h => absurd h (by decide)⟩
theorem mpF_0_33 : mj_okF lw_tbl mj_CL "UnbeatenHouseModel" 113 0 33 ∧ (true = false → ∃ q, mj_CL[0]? = some q ∧ (q.2.1 33).2.2.2 = false) := ⟨⟨_, _, _, rfl, by decide, Or.inl (List.mem_of_getElem? (i := 1349) (by decide +kernel))⟩, fun h => absurd h (by decide)⟩
theorem mpF_0_34 : mj_okF lw_tbl mj_CL "UnbeatenHouseModel" 116 0 34 ∧ (false = false → ∃ q, mj_CL[0]? = some q ∧ (q.2.1 34).2.2.2 = false) := ⟨⟨_, _, _, rfl, by decide, Or.inl (List.mem_of_getElem? (i := 1350) (by decide +kernel))⟩, fun _ => ⟨_, rfl, by decide +kernel⟩⟩
theorem mpF_0_35 : mj_okF lw_tbl mj_CL "UnbeatenHouseModel" 119 0 35 ∧ (false = false → ∃ q, mj_CL[0]? = some q ∧ (q.2.1 35).2.2.2 = false) := ⟨⟨_, _, _, rfl, by decide, Or.inl (List.mem_of_getElem? (i := 1351) (by decide +kernel))⟩, fun _ => ⟨_, rfl, by decide +kernel⟩⟩
theorem mpF_0_36 : mj_okF lw_tbl mj_CL "UnbeatenHouseModel" 122 0 36 ∧ (true = false → ∃ q, mj_CL[0]? = some q ∧ (q.2.1 36).2.2.2 = false) := ⟨⟨_, _, _, rfl, by decide, Or.inl (List.mem_of_getElem? (i := 1352) (by decide +kernel))⟩, fun h => absurd h (by decide)⟩
theorem mpF_0_37 : mj_okF lw_tbl mj_CL "UnbeatenHouseModel" 125 0 37 ∧ (true = false → ∃ q, mj_CL[0]? = some q ∧ (q.2.1 37).2.2.2 = false) := ⟨⟨_, _, _, rfl, by decide, Or.inl (List.mem_of_getElem? (i := 1353) (by decide +kernel))⟩, fun h => absurd h (by decide)⟩
theorem mpF_0_38 : mj_okF lw_tbl mj_CL "UnbeatenHouseModel" 128 0 38 ∧ (true = false → ∃ q, mj_CL[0]? = some q ∧ (q.2.1 38).2.2.2 = false) := ⟨⟨_, _, _, rfl, by decide, Or.inl (List.mem_of_getElem? (i := 1354) (by decide +kernel))⟩, fun h => absurd h (by decide)⟩
theorem mpF_0_39 : mj_okF lw_tbl mj_CL "UnbeatenHouseModel" 131 0 39 ∧ (true = false → ∃ q, mj_CL[0]? = some q ∧ (q.2.1 39).2.2.2 = false) := ⟨⟨_, _, _, rfl, by decide, Or.inl (List.mem_of_getElem? (i := 1355) (by decide +kernel))⟩, fun h => absurd h (by decide)⟩
theorem mpF_0_40 : mj_okF lw_tbl mj_CL "UnbeatenHouseModel" 134 0 40 ∧ (true = false → ∃ q, mj_CL[0]? = some q ∧ (q.2.1 40).2.2.2 = false) := ⟨⟨_, _, _, rfl, by decide, Or.inl (List.mem_of_getElem? (i := 1356) (by decide +kernel))⟩, fun h => absurd h (by decide)⟩
theorem mpF_0_41 : mj_okF lw_tbl mj_CL "UnbeatenHouseModel" 137 0 41 ∧ (false = false → ∃ q, mj_CL[0]? = some q ∧ (q.2.1 41).2.2.2 = false) := ⟨⟨_, _, _, rfl, by decide, Or.inl (List.mem_of_getElem? (i := 1357) (by decide +kernel))⟩, fun _ => ⟨_, rfl, by decide +kernel⟩⟩
theorem mpF_0_42 : mj_okF lw_tbl mj_CL "UnbeatenHouseModel" 140 0 42 ∧ (false = false → ∃ q, mj_CL[0]? = some q ∧ (q.2.1 42).2.2.2 = false) := ⟨⟨_, _, _, rfl, by decide, Or.inl (List.mem_of_getElem? (i := 1358) (by decide +kernel))⟩, fun _ => ⟨_, rfl, by decide +kernel⟩⟩
theorem mpF_0_43 : mj_okF lw_tbl mj_CL "UnbeatenHouseModel" 143 0 43 ∧ (true = false → ∃ q, mj_CL[0]? = some q ∧ (q.2.1 43).2.2.2 = false) := ⟨⟨_, _, _, rfl, by decide, Or.inl (List.mem_of_getElem? (i := 1359) (by decide +kernel))⟩, fun h => absurd h (by decide)⟩
theorem mpF_0_44 : mj_okF lw_tbl mj_CL "UnbeatenHouseModel" 146 0 44 ∧ (false = false → ∃ q, mj_CL[0]? = some q ∧ (q.2.1 44).2.2.2 = false) := ⟨⟨_, _, _, rfl, by decide, Or.inl (List.mem_of_getElem? (i := 1360) (by decide +kernel))⟩, fun _ => ⟨_, rfl, by decide +kernel⟩⟩
theorem mpF_0_45 : mj_okF lw_tbl mj_CL "UnbeatenHouseModel" 149 0 45 ∧ (false = false → ∃ q, mj_CL[0]? = some q ∧ (q.2.1 45).2.2.2 = false) := ⟨⟨_, _, _, rfl, by decide, Or.inl (List.mem_of_getElem? (i := 1361) (by decide +kernel))⟩, fun _ => ⟨_, rfl, by decide +kernel⟩⟩
theorem mpF_0_46 : mj_okF lw_tbl mj_CL "UnbeatenHouseModel" 153 0 46 ∧ (false = false → ∃ q, mj_CL[0]? = some q ∧ (q.2.1 46).2.2.2 = false) := ⟨⟨_, _, _, rfl, by decide, Or.inl (List.mem_of_getElem? (i := 1362) (by decide +kernel))⟩, fun _ => ⟨_, rfl, by decide +kernel⟩⟩
theorem mpF_0_47 : mj_okF lw_tbl mj_CL "UnbeatenHouseModel" 156 0 47 ∧ (false = false → ∃ q, mj_CL[0]? = some q ∧ (q.2.1 47).2.2.2 = false) := ⟨⟨_, _, _, rfl, by decide, Or.inl (List.mem_of_getElem? (i := 1363) (by decide +kernel))⟩, fun _ => ⟨_, rfl, by decide +kernel⟩⟩
theorem mpF_0_48 : mj_okF lw_tbl mj_CL "UnbeatenHouseModel" 159 0 48 ∧ (false = false → ∃ q, mj_CL[0]? = some q ∧ (q.2.1 48).2.2.2 = false) := ⟨⟨_, _, _, rfl, by decide, Or.inl (List.mem_of_getElem? (i := 1364) (by decide +kernel))⟩, fun _ => ⟨_, rfl, by decide +kernel⟩⟩
theorem mpF_0_49 : mj_okF lw_tbl mj_CL "UnbeatenHouseModel" 163 0 49 ∧ (true = false → ∃ q, mj_CL[0]? = some q ∧ (q.2.1 49).2.2.2 = false) := ⟨⟨_, _, _, rfl, by decide, Or.inl (List.mem_of_getElem? (i := 1365) (by decide +kernel))⟩, fun h => absurd h (by decide)⟩
theorem mpF_0_50 : mj_okF lw_tbl mj_CL "UnbeatenHouseModel" 166 0 50 ∧ (true = false → ∃ q, mj_CL[0]? = some q ∧ (q.2.1 50).2.2.2 = false) := ⟨⟨_, _, _, rfl, by decide, Or.inl (List.mem_of_getElem? (i := 1366) (by decide +kernel))⟩, fun h => absurd h (by decide)⟩
theorem mpF_0_51 : mj_okF lw_tbl mj_CL "UnbeatenHouseModel" 170 0 51 ∧ (true = false → ∃ q, mj_CL[0]? = some q ∧ (q.2.1 51).2.2.2 = false) := ⟨⟨_, _, _, rfl, by decide, Or.inl (List.mem_of_getElem? (i := 1367) (by decide +kernel))⟩, fun h => absurd h (by decide)⟩
theorem mpF_0_52 : mj_okF lw_tbl mj_CL "UnbeatenHouseModel" 173 0 52 ∧ (true = false → ∃ q, mj_CL[0]? = some q ∧ (q.2.1 52).2.2.2 = false) := ⟨⟨_, _, _, rfl, by decide, Or.inl (List.mem_of_getElem? (i := 1368) (by decide +kernel))⟩, fun h => absurd h (by decide)⟩
theorem mpF_0_53 : mj_okF lw_tbl mj_CL "UnbeatenHouseModel" 176 0 53 ∧ (true = false → ∃ q, mj_CL[0]? = some q ∧ (q.2.1 53).2.2.2 = false) := ⟨⟨_, _, _, rfl, by decide, Or.inl (List.mem_of_getElem? (i := 1369) (by decide +kernel))⟩, fun h => absurd h (by decide)⟩
theorem mpF_0_54 : mj_okF lw_tbl mj_CL "UnbeatenHouseModel" 179 0 54 ∧ (true = false → ∃ q, mj_CL[0]? = some q ∧ (q.2.1 54).2.2.2 = false) := ⟨⟨_, _, _, rfl, by decide, Or.inl (List.mem_of_getElem? (i := 1370) (by decide +kernel))⟩, fun h => absurd h (by decide)⟩
theorem mpF_0_55 : mj_okF lw_tbl mj_CL "UnbeatenHouseModel" 182 0 55 ∧ (true = false → ∃ q, mj_CL[0]? = some q ∧ (q.2.1 55).2.2.2 = false) := ⟨⟨_, _, _, rfl, by decide, Or.inl (List.mem_of_getElem? (i := 1371) (by decide +kernel))⟩, fun h => absurd h (by decide)⟩
theorem mpF_0_56 : mj_okF lw_tbl mj_CL "UnbeatenHouseModel" 185 0 56 ∧ (false = false → ∃ q, mj_CL[0]? = some q ∧ (q.2.1 56).2.2.2 = false) := ⟨⟨_, _, _, rfl, by decide, Or.inl (List.mem_of_getElem? (i := 1372) (by decide +kernel))⟩, fun _ => ⟨_, rfl, by decide +kernel⟩⟩
theorem mpF_0_57 : mj_okF lw_tbl mj_CL "UnbeatenHouseModel" 188 0 57 ∧ (true = false → ∃ q, mj_CL[0]? = some q ∧ (q.2.1 57).2.2.2 = false) := ⟨⟨_, _, _, rfl, by decide, Or.inl (List.mem_of_getElem? (i := 1373) (by decide +kernel))⟩, fun h => absurd h (by decide)⟩
theorem mpF_0_58 : mj_okF lw_tbl mj_CL "UnbeatenHouseModel" 191 0 58 ∧ (false = false → ∃ q, mj_CL[0]? = some q ∧ (q.2.1 58).2.2.2 = false) := ⟨⟨_, _, _, rfl, by decide, Or.inl (List.mem_of_getElem? (i := 1374) (by decide +kernel))⟩, fun _ => ⟨_, rfl, by decide +kernel⟩⟩
theorem mpF_0_59 : mj_okF lw_tbl mj_CL "UnbeatenHouseModel" 194 0 59 ∧ (false = false → ∃ q, mj_CL[0]? = some q ∧ (q.2.1 59).2.2.2 = false) := ⟨⟨_, _, _, rfl, by decide, Or.inl (List.mem_of_getElem? (i := 1375) (by decide +kernel))⟩, fun _ => ⟨_, rfl, by decide +kernel⟩⟩
theorem mpF_0_60 : mj_okF lw_tbl mj_CL "UnbeatenHouseModel" 197 0 60 ∧ (true = false → ∃ q, mj_CL[0]? = some q ∧ (q.2.1 60).2.2.2 = false) := ⟨⟨_, _, _, rfl, by decide, Or.inl (List.mem_of_getElem? (i := 1376) (by decide +kernel))⟩, fun h => absurd h (by decide)⟩
theorem mpF_0_61 : mj_okF lw_tbl mj_CL "UnbeatenHouseModel" 200 0 61 ∧ (true = false → ∃ q, mj_CL[0]? = some q ∧ (q.2.1 61).2.2.2 = false) := ⟨⟨_, _, _, rfl, by decide, Or.inl (List.mem_of_getElem? (i := 1377) (by decide +kernel))⟩, fun h => absurd h (by decide)⟩
theorem mpF_0_62 : mj_okF lw_tbl mj_CL "UnbeatenHouseModel" 203 0 62 ∧ (true = false → ∃ q, mj_CL[0]? = some q ∧ (q.2.1 62).2.2.2 = false) := ⟨⟨_, _, _, rfl, by decide, Or.inl (List.mem_of_getElem? (i := 1378) (by decide +kernel))⟩, fun h => absurd h (by decide)⟩
theorem mpF_0_63 : mj_okF lw_tbl mj_CL "UnbeatenHouseModel" 206 0 63 ∧ (false = false → ∃ q, mj_CL[0]? = some q ∧ (q.2.1 63).2.2.2 = false) := ⟨⟨_, _, _, rfl, by decide, Or.inl (List.mem_of_getElem? (i := 1379) (by decide +kernel))⟩, fun _ => ⟨_, rfl, by decide +kernel⟩⟩
theorem mpF_0_64 : mj_okF lw_tbl mj_CL "UnbeatenHouseModel" 209 0 64 ∧ (true = false → ∃ q, mj_CL[0]? = some q ∧ (q.2.1 64).2.2.2 = false) := ⟨⟨_, _, _, rfl, by decide, Or.inl (List.mem_of_getElem? (i := 1380) (by decide +kernel))⟩, fun h => absurd h (by decide)⟩
theorem mpF_0_65 : mj_okF lw_tbl mj_CL "UnbeatenHouseModel" 212 0 65 ∧ (false = false → ∃ q, mj_CL[0]? = some q ∧ (q.2.1 65).2.2.2 = false) := ⟨⟨_, _, _, rfl, by decide, Or.inl (List.mem_of_getElem? (i := 1381) (by decide +kernel))⟩, fun _ => ⟨_, rfl, by decide +kernel⟩⟩
theorem mpF_0_66 : mj_okF lw_tbl mj_CL "UnbeatenHouseModel" 215 0 66 ∧ (true = false → ∃ q, mj_CL[0]? = some q ∧ (q.2.1 66).2.2.2 = false) := ⟨⟨_, _, _, rfl, by decide, Or.inl (List.mem_of_getElem? (i := 1382) (by decide +kernel))⟩, fun h => absurd h (by decide)⟩
theorem mpF_0_67 : mj_okF lw_tbl mj_CL "UnbeatenHouseModel" 218 0 67 ∧ (true = false → ∃ q, mj_CL[0]? = some q ∧ (q.2.1 67).2.2.2 = false) := ⟨⟨_, _, _, rfl, by decide, Or.inl (List.mem_of_getElem? (i := 1383) (by decide +kernel))⟩, fun h => absurd h (by decide)⟩
theorem mpF_0_68 : mj_okF lw_tbl mj_CL "UnbeatenHouseModel" 221 0 68 ∧ (false = false → ∃ q, mj_CL[0]? = some q ∧ (q.2.1 68).2.2.2 = false) := ⟨⟨_, _, _, rfl, by decide, Or.inl (List.mem_of_getElem? (i := 1384) (by decide +kernel))⟩, fun _ => ⟨_, rfl, by decide +kernel⟩⟩
theorem mpF_0_69 : mj_okF lw_tbl mj_CL "UnbeatenHouseModel" 224 0 69 ∧ (true = false → ∃ q, mj_CL[0]? = some q ∧ (q.2.1 69).2.2.2 = false) := ⟨⟨_, _, _, rfl, by decide, Or.inl (List.mem_of_getElem? (i := 1385) (by decide +kernel))⟩, fun h => absurd h (by decide)⟩
theorem mpF_0_70 : mj_okF lw_tbl mj_CL "UnbeatenHouseModel" 227 0 70 ∧ (true = false → ∃ q, mj_CL[0]? = some q ∧ (q.2.1 70).2.2.2 = false) := ⟨⟨_, _, _, rfl, by decide, Or.inl (List.mem_of_getElem? (i := 1386) (by decide +kernel))⟩, fun h => absurd h (by decide)⟩
theorem mpF_0_71 : mj_okF lw_tbl mj_CL "UnbeatenHouseModel" 230 0 71 ∧ (false = false → ∃ q, mj_CL[0]? = some q ∧ (q.2.1 71).2.2.2 = false) := ⟨⟨_, _, _, rfl, by decide, Or.inl (List.mem_of_getElem? (i := 1387) (by decide +kernel))⟩, fun _ => ⟨_, rfl, by decide +kernel⟩⟩
theorem mpF_0_72 : mj_okF lw_tbl mj_CL "UnbeatenHouseModel" 233 0 72 ∧ (true = false → ∃ q, mj_CL[0]? = some q ∧ (q.2.1 72).2.2.2 = false) := ⟨⟨_, _, _, rfl, by decide, Or.inl (List.mem_of_getElem? (i := 1388) (by decide +kernel))⟩, fun h => absurd h (by decide)⟩
theorem mpF_0_73 : mj_okF lw_tbl mj_CL "UnbeatenHouseModel" 236 0 73 ∧ (true = false → ∃ q, mj_CL[0]? = some q ∧ (q.2.1 73).2.2.2 = false) := ⟨⟨_, _, _, rfl, by decide, Or.inl (List.mem_of_getElem? (i := 1389) (by decide +kernel))⟩, fun h => absurd h (by decide)⟩
theorem mpF_0_74 : mj_okF lw_tbl mj_CL "UnbeatenHouseModel" 239 0 74 ∧ (true = false → ∃ q, mj_CL[0]? = some q ∧ (q.2.1 74).2.2.2 = false) := ⟨⟨_, _, _, rfl, by decide, Or.inl (List.mem_of_getElem? (i := 1390) (by decide +kernel))⟩, fun h => absurd h (by decide)⟩
theorem mpF_0_75 : mj_okF lw_tbl mj_CL "UnbeatenHouseModel" 242 0 75 ∧ (true = false → ∃ q, mj_CL[0]? = some q ∧ (q.2.1 75).2.2.2 = false) := ⟨⟨_, _, _, rfl, by decide, Or.inl (List.mem_of_getElem? (i := 1391) (by decide +kernel))⟩, fun h => absurd h (by decide)⟩
theorem mpF_0_76 : mj_okF lw_tbl mj_CL "UnbeatenHouseModel" 245 0 76 ∧ (true = false → ∃ q, mj_CL[0]? = some q ∧ (q.2.1 76).2.2.2 = false) := ⟨⟨_, _, _, rfl, by decide, Or.inl (List.mem_of_getElem? (i := 1392) (by decide +kernel))⟩, fun h => absurd h (by decide)⟩
theorem mpV_0_0 : mj_okV lw_tbl mj_CL "UnbeatenHouseModel" 248 mm_10 2 1 := ⟨Or.inl (List.mem_of_getElem? (i := 1552) (by decide +kernel)), List.mem_of_getElem? (i := 1554) (by decide +kernel), List.mem_of_getElem? (i := 60) (by decide +kernel), ⟨0, _, _, rfl, rfl⟩, ⟨1, rfl, by decide +kernel⟩, my_10⟩
theorem mpV_0_1 : mj_okV lw_tbl mj_CL "UnbeatenHouseModel" 266 mm_13 1 1 := ⟨Or.inl (List.mem_of_getElem? (i := 1564) (by decide +kernel)), List.mem_of_getElem? (i := 1566) (by decide +kernel), List.mem_of_getElem? (i := 61) (by decide +kernel), ⟨0, _, _, rfl, rfl⟩, ⟨0, rfl, by decide +kernel⟩, my_13⟩
theorem mpV_0_2 : mj_okV lw_tbl mj_CL "UnbeatenHouseModel" 259 mm_16 3 1 := ⟨Or.inl (List.mem_of_getElem? (i := 1574) (by decide +kernel)), List.mem_of_getElem? (i := 1576) (by decide +kernel), List.mem_of_getElem? (i := 62) (by decide +kernel), ⟨0, _, _, rfl, rfl⟩, ⟨2, rfl, by decide +kernel⟩, my_16⟩
theorem mpV_0_3 : mj_okV lw_tbl mj_CL "UnbeatenHouseModel" 388 mm_17 1 1 := ⟨Or.inl (List.mem_of_getElem? (i := 1578) (by decide +kernel)), List.mem_of_getElem? (i := 1580) (by decide +kernel), List.mem_of_getElem? (i := 63) (by decide +kernel), ⟨0, _, _, rfl, rfl⟩, ⟨0, rfl, by decide +kernel⟩, my_17⟩
theorem mpV_0_4 : mj_okV lw_tbl mj_CL "UnbeatenHouseModel" 333 mm_18 2 1 := ⟨Or.inl (List.mem_of_getElem? (i := 1583) (by decide +kernel)), List.mem_of_getElem? (i := 1585) (by decide +kernel), List.mem_of_getElem? (i := 64) (by decide +kernel), ⟨0, _, _, rfl, rfl⟩, ⟨1, rfl, by decide +kernel⟩, my_18⟩
theorem mpV_0_5 : mj_okV lw_tbl mj_CL "UnbeatenHouseModel" 370 mm_19 1 1 := ⟨Or.inl (List.mem_of_getElem? (i := 1587) (by decide +kernel)), List.mem_of_getElem? (i := 1589) (by decide +kernel), List.mem_of_getElem? (i := 65) (by decide +kernel), ⟨0, _, _, rfl, rfl⟩, ⟨0, rfl, by decide +kernel⟩, my_19⟩
theorem mpV_0_6 : mj_okV lw_tbl mj_CL "UnbeatenHouseModel" 355 mm_20 3 1 := ⟨Or.inl (List.mem_of_getElem? (i := 1591) (by decide +kernel)), List.mem_of_getElem? (i := 1593) (by decide +kernel), List.mem_of_getElem? (i := 66) (by decide +kernel), ⟨0, _, _, rfl, rfl⟩, ⟨2, rfl, by decide +kernel⟩, my_20⟩
theorem mpV_0_7 : mj_okV lw_tbl mj_CL "UnbeatenHouseModel" 359 mm_21 1 1 := ⟨Or.inl (List.mem_of_getElem? (i := 1595) (by decide +kernel)), List.mem_of_getElem? (i := 1597) (by decide +kernel), List.mem_of_getElem? (i := 67) (by decide +kernel), ⟨0, _, _, rfl, rfl⟩, ⟨0, rfl, by decide +kernel⟩, my_21⟩
theorem mpV_0_8 : mj_okV lw_tbl mj_CL "UnbeatenHouseModel" 313 mm_22 2 1 := ⟨Or.inl (List.mem_of_getElem? (i := 1599) (by decide +kernel)), List.mem_of_getElem? (i := 1601) (by decide +kernel), List.mem_of_getElem? (i := 68) (by decide +kernel), ⟨0, _, _, rfl, rfl⟩, ⟨1, rfl, by decide +kernel⟩, my_22⟩
theorem mpV_0_9 : mj_okV lw_tbl mj_CL "UnbeatenHouseModel" 317 mm_23 2 1 := ⟨Or.inl (List.mem_of_getElem? (i := 1619) (by decide +kernel)), List.mem_of_getElem? (i := 1621) (by decide +kernel), List.mem_of_getElem? (i := 69) (by decide +kernel), ⟨0, _, _, rfl, rfl⟩, ⟨1, rfl, by decide +kernel⟩, my_23⟩
theorem mpV_0_10 : mj_okV lw_tbl mj_CL "UnbeatenHouseModel" 303 mm_24 3 1 := ⟨Or.inl (List.mem_of_getElem? (i := 1623) (by decide +kernel)), List.mem_of_getElem? (i := 1625) (by decide +kernel), List.mem_of_getElem? (i := 70) (by decide +kernel), ⟨0, _, _, rfl, rfl⟩, ⟨2, rfl, by decide +kernel⟩, my_24⟩
theorem mpV_0_11 : mj_okV lw_tbl mj_CL "UnbeatenHouseModel" 307 mm_25 3 1 := ⟨Or.inl (List.mem_of_getElem? (i := 1627) (by decide +kernel)), List.mem_of_getElem? (i := 1629) (by decide +kernel), List.mem_of_getElem? (i := 71) (by decide +kernel), ⟨0, _, _, rfl, rfl⟩, ⟨2, rfl, by decide +kernel⟩, my_25⟩
theorem mpV_0_12 : mj_okV lw_tbl mj_CL "UnbeatenHouseModel" 310 mm_26 3 1 := ⟨Or.inl (List.mem_of_getElem? (i := 1631) (by decide +kernel)), List.mem_of_getElem? (i := 1633) (by decide +kernel), List.mem_of_getElem? (i := 72) (by decide +kernel), ⟨0, _, _, rfl, rfl⟩, ⟨2, rfl, by decide +kernel⟩, my_26⟩
theorem mpV_0_13 : mj_okV lw_tbl mj_CL "UnbeatenHouseModel" 373 mm_27 1 1 := ⟨Or.inl (List.mem_of_getElem? (i := 1635) (by decide +kernel)), List.mem_of_getElem? (i := 1637) (by decide +kernel), List.mem_of_getElem? (i := 73) (by decide +kernel), ⟨0, _, _, rfl, rfl⟩, ⟨0, rfl, by decide +kernel⟩, my_27⟩
theorem mpV_0_14 : mj_okV lw_tbl mj_CL "UnbeatenHouseModel" 263 mm_28 2 1 := ⟨Or.inl (List.mem_of_getElem? (i := 1639) (by decide +kernel)), List.mem_of_getElem? (i := 1641) (by decide +kernel), List.mem_of_getElem? (i := 74) (by decide +kernel), ⟨0, _, _, rfl, rfl⟩, ⟨1, rfl, by decide +kernel⟩, my_28⟩
theorem mpV_0_15 : mj_okV lw_tbl mj_CL "UnbeatenHouseModel" 363 mm_29 1 1 := ⟨Or.inl (List.mem_of_getElem? (i := 1643) (by decide +kernel)), List.mem_of_getElem? (i := 1645) (by decide +kernel), List.mem_of_getElem? (i := 75) (by decide +kernel), ⟨0, _, _, rfl, rfl⟩, ⟨0, rfl, by decide +kernel⟩, my_29⟩
theorem mpV_0_16 : mj_okV lw_tbl mj_CL "UnbeatenHouseModel" 376 mm_30 1 1 := ⟨Or.inl (List.mem_of_getElem? (i := 1647) (by decide +kernel)), List.mem_of_getElem? (i := 1649) (by decide +kernel), List.mem_of_getElem? (i := 76) (by decide +kernel), ⟨0, _, _, rfl, rfl⟩, ⟨0, rfl, by decide +kernel⟩, my_30⟩
theorem mpV_0_17 : mj_okV lw_tbl mj_CL "UnbeatenHouseModel" 367 mm_31 2 1 := ⟨Or.inl (List.mem_of_getElem? (i := 1651) (by decide +kernel)), List.mem_of_getElem? (i := 1653) (by decide +kernel), List.mem_of_getElem? (i := 77) (by decide +kernel), ⟨0, _, _, rfl, rfl⟩, ⟨1, rfl, by decide +kernel⟩, my_31⟩
theorem mpV_0_18 : mj_okV lw_tbl mj_CL "UnbeatenHouseModel" 379 mm_32 1 1 := ⟨Or.inl (List.mem_of_getElem? (i := 1655) (by decide +kernel)), List.mem_of_getElem? (i := 1657) (by decide +kernel), List.mem_of_getElem? (i := 78) (by decide +kernel), ⟨0, _, _, rfl, rfl⟩, ⟨0, rfl, by decide +kernel⟩, my_32⟩
theorem mpV_0_19 : mj_okV lw_tbl mj_CL "UnbeatenHouseModel" 382 mm_33 1 1 := ⟨Or.inl (List.mem_of_getElem? (i := 1659) (by decide +kernel)), List.mem_of_getElem? (i := 1661) (by decide +kernel), List.mem_of_getElem? (i := 79) (by decide +kernel), ⟨0, _, _, rfl, rfl⟩, ⟨0, rfl, by decide +kernel⟩, my_33⟩
theorem mpV_0_20 : mj_okV lw_tbl mj_CL "UnbeatenHouseModel" 327 mm_34 2 1 := ⟨Or.inl (List.mem_of_getElem? (i := 1663) (by decide +kernel)), List.mem_of_getElem? (i := 1665) (by decide +kernel), List.mem_of_getElem? (i := 80) (by decide +kernel), ⟨0, _, _, rfl, rfl⟩, ⟨1, rfl, by decide +kernel⟩, my_34⟩
theorem mpV_0_21 : mj_okV lw_tbl mj_CL "UnbeatenHouseModel" 348 mm_35 1 1 := ⟨Or.inl (List.mem_of_getElem? (i := 1667) (by decide +kernel)), List.mem_of_getElem? (i := 1669) (by decide +kernel), List.mem_of_getElem? (i := 81) (by decide +kernel), ⟨0, _, _, rfl, rfl⟩, ⟨0, rfl, by decide +kernel⟩, my_35⟩
theorem mpV_0_22 : mj_okV lw_tbl mj_CL "UnbeatenHouseModel" 336 mm_37 2 1 := ⟨Or.inl (List.mem_of_getElem? (i := 1674) (by decide +kernel)), List.mem_of_getElem? (i := 1676) (by decide +kernel), List.mem_of_getElem? (i := 82) (by decide +kernel), ⟨0, _, _, rfl, rfl⟩, ⟨1, rfl, by decide +kernel⟩, my_37⟩
theorem mpV_0_23 : mj_okV lw_tbl mj_CL "UnbeatenHouseModel" 339 mm_38 2 1 := ⟨Or.inl (List.mem_of_getElem? (i := 1678) (by decide +kernel)), List.mem_of_getElem? (i := 1680) (by decide +kernel), List.mem_of_getElem? (i := 83) (by decide +kernel), ⟨0, _, _, rfl, rfl⟩, ⟨1, rfl, by decide +kernel⟩, my_38⟩
theorem mpV_0_24 : mj_okV lw_tbl mj_CL "UnbeatenHouseModel" 324 mm_39 3 1 := ⟨Or.inl (List.mem_of_getElem? (i := 1682) (by decide +kernel)), List.mem_of_getElem? (i := 1684) (by decide +kernel), List.mem_of_getElem? (i := 84) (by decide +kernel), ⟨0, _, _, rfl, rfl⟩, ⟨2, rfl, by decide +kernel⟩, my_39⟩
theorem mpV_0_25 : mj_okV lw_tbl mj_CL "UnbeatenHouseModel" 342 mm_40 2 1 := ⟨Or.inl (List.mem_of_getElem? (i := 1686) (by decide +kernel)), List.mem_of_getElem? (i := 1688) (by decide +kernel), List.mem_of_getElem? (i := 85) (by decide +kernel), ⟨0, _, _, rfl, rfl⟩, ⟨1, rfl, by decide +kernel⟩, my_40⟩
theorem mpV_0_26 : mj_okV lw_tbl mj_CL "UnbeatenHouseModel" 352 mm_41 1 1 := ⟨Or.inl (List.mem_of_getElem? (i := 1690) (by decide +kernel)), List.mem_of_getElem? (i := 1692) (by decide +kernel), List.mem_of_getElem? (i := 86) (by decide +kernel), ⟨0, _, _, rfl, rfl⟩, ⟨0, rfl, by decide +kernel⟩, my_41⟩
theorem mpV_0_27 : mj_okV lw_tbl mj_CL "UnbeatenHouseModel" 345 mm_42 2 1 := ⟨Or.inl (List.mem_of_getElem? (i := 1694) (by decide +kernel)), List.mem_of_getElem? (i := 1696) (by decide +kernel), List.mem_of_getElem? (i := 87) (by decide +kernel), ⟨0, _, _, rfl, rfl⟩, ⟨1, rfl, by decide +kernel⟩, my_42⟩
theorem mpV_0_28 : mj_okV lw_tbl mj_CL "UnbeatenHouseModel" 385 mm_44 2 1 := ⟨Or.inl (List.mem_of_getElem? (i := 1701) (by decide +kernel)), List.mem_of_getElem? (i := 1703) (by decide +kernel), List.mem_of_getElem? (i := 88) (by decide +kernel), ⟨0, _, _, rfl, rfl⟩, ⟨1, rfl, by decide +kernel⟩, my_44⟩
theorem mpV_0_29 : mj_okV lw_tbl mj_CL "UnbeatenHouseModel" 393 mm_48 2 1 := ⟨Or.inl (List.mem_of_getElem? (i := 1717) (by decide +kernel)), List.mem_of_getElem? (i := 1719) (by decide +kernel), List.mem_of_getElem? (i := 89) (by decide +kernel), ⟨0, _, _, rfl, rfl⟩, ⟨1, rfl, by decide +kernel⟩, my_48⟩
theorem mpV_0_30 : mj_okV lw_tbl mj_CL "UnbeatenHouseModel" 400 mm_51 2 1 := ⟨Or.inl (List.mem_of_getElem? (i := 1728) (by decide +kernel)), List.mem_of_getElem? (i := 1730) (by decide +kernel), List.mem_of_getElem? (i := 90) (by decide +kernel), ⟨0, _, _, rfl, rfl⟩, ⟨1, rfl, by decide +kernel⟩, my_51⟩
theorem mpV_0_31 : mj_okV lw_tbl mj_CL "UnbeatenHouseModel" 407 mm_53 3 1 := ⟨Or.inl (List.mem_of_getElem? (i := 1736) (by decide +kernel)), List.mem_of_getElem? (i := 1738) (by decide +kernel), List.mem_of_getElem? (i := 91) (by decide +kernel), ⟨0, _, _, rfl, rfl⟩, ⟨2, rfl, by decide +kernel⟩, my_53⟩
theorem mpV_0_32 : mj_okV lw_tbl mj_CL "UnbeatenHouseModel" 420 mm_55 3 1 := ⟨Or.inl (List.mem_of_getElem? (i := 1744) (by decide +kernel)), List.mem_of_getElem? (i := 1746) (by decide +kernel), List.mem_of_getElem? (i := 92) (by decide +kernel), ⟨0, _, _, rfl, rfl⟩, ⟨2, rfl, by decide +kernel⟩, my_55⟩
theorem mpV_0_33 : mj_okV lw_tbl mj_CL "UnbeatenHouseModel" 414 mm_56 2 1 := ⟨Or.inl (List.mem_of_getElem? (i := 1748) (by decide +kernel)), List.mem_of_getElem? (i := 1750) (by decide +kernel), List.mem_of_getElem? (i := 93) (by decide +kernel), ⟨0, _, _, rfl, rfl⟩, ⟨1, rfl, by decide +kernel⟩, my_56⟩
theorem mpV_0_34 : mj_okV lw_tbl mj_CL "UnbeatenHouseModel" 417 mm_57 3 1 := ⟨Or.inl (List.mem_of_getElem? (i := 1752) (by decide +kernel)), List.mem_of_getElem? (i := 1754) (by decide +kernel), List.mem_of_getElem? (i := 94) (by decide +kernel), ⟨0, _, _, rfl, rfl⟩, ⟨2, rfl, by decide +kernel⟩, my_57⟩
theorem mpV_0_35 : mj_okV lw_tbl mj_CL "UnbeatenHouseModel" 411 mm_58 3 1 := ⟨Or.inl (List.mem_of_getElem? (i := 1756) (by decide +kernel)), List.mem_of_getElem? (i := 1758) (by decide +kernel), List.mem_of_getElem? (i := 95) (by decide +kernel), ⟨0, _, _, rfl, rfl⟩, ⟨2, rfl, by decide +kernel⟩, my_58⟩
theorem mpV_0_36 : mj_okV lw_tbl mj_CL "UnbeatenHouseModel" 424 mm_60 1 1 := ⟨Or.inl (List.mem_of_getElem? (i := 1764) (by decide +kernel)), List.mem_of_getElem? (i := 1766) (by decide +kernel), List.mem_of_getElem? (i := 96) (by decide +kernel), ⟨0, _, _, rfl, rfl⟩, ⟨0, rfl, by decide +kernel⟩, my_60⟩
theorem mpV_0_37 : mj_okV lw_tbl mj_CL "UnbeatenHouseModel" 439 mm_66 3 1 := ⟨Or.inl (List.mem_of_getElem? (i := 1788) (by decide +kernel)), List.mem_of_getElem? (i := 1790) (by decide +kernel), List.mem_of_getElem? (i := 97) (by decide +kernel), ⟨0, _, _, rfl, rfl⟩, ⟨2, rfl, by decide +kernel⟩, my_66⟩
theorem mpV_0_38 : mj_okV lw_tbl mj_CL "UnbeatenHouseModel" 433 mm_67 3 1 := ⟨Or.inl (List.mem_of_getElem? (i := 1792) (by decide +kernel)), List.mem_of_getElem? (i := 1794) (by decide +kernel), List.mem_of_getElem? (i := 98) (by decide +kernel), ⟨0, _, _, rfl, rfl⟩, ⟨2, rfl, by decide +kernel⟩, my_67⟩
theorem mpV_0_39 : mj_okV lw_tbl mj_CL "UnbeatenHouseModel" 436 mm_68 3 1 := ⟨Or.inl (List.mem_of_getElem? (i := 1796) (by decide +kernel)), List.mem_of_getElem? (i := 1798) (by decide +kernel), List.mem_of_getElem? (i := 99) (by decide +kernel), ⟨0, _, _, rfl, rfl⟩, ⟨2, rfl, by decide +kernel⟩, my_68⟩
theorem mpV_0_40 : mj_okV lw_tbl mj_CL "UnbeatenHouseModel" 480 mm_71 3 1 := ⟨Or.inl (List.mem_of_getElem? (i := 1808) (by decide +kernel)), List.mem_of_getElem? (i := 1810) (by decide +kernel), List.mem_of_getElem? (i := 100) (by decide +kernel), ⟨0, _, _, rfl, rfl⟩, ⟨2, rfl, by decide +kernel⟩, my_71⟩
theorem mpV_0_41 : mj_okV lw_tbl mj_CL "UnbeatenHouseModel" 451 mm_72 2 1 := ⟨Or.inl (List.mem_of_getElem? (i := 1812) (by decide +kernel)), List.mem_of_getElem? (i := 1814) (by decide +kernel), List.mem_of_getElem? (i := 101) (by decide +kernel), ⟨0, _, _, rfl, rfl⟩, ⟨1, rfl, by decide +kernel⟩, my_72⟩
theorem mpV_0_42 : mj_okV lw_tbl mj_CL "UnbeatenHouseModel" 442 mm_73 2 1 := ⟨Or.inl (List.mem_of_getElem? (i := 1816) (by decide +kernel)), List.mem_of_getElem? (i := 1818) (by decide +kernel), List.mem_of_getElem? (i := 102) (by decide +kernel), ⟨0, _, _, rfl, rfl⟩, ⟨1, rfl, by decide +kernel⟩, my_73⟩
theorem mpV_0_43 : mj_okV lw_tbl mj_CL "UnbeatenHouseModel" 445 mm_74 2 1 := ⟨Or.inl (List.mem_of_getElem? (i := 1820) (by decide +kernel)), List.mem_of_getElem? (i := 1822) (by decide +kernel), List.mem_of_getElem? (i := 103) (by decide +kernel), ⟨0, _, _, rfl, rfl⟩, ⟨1, rfl, by decide +kernel⟩, my_74⟩
theorem mpV_0_44 : mj_okV lw_tbl mj_CL "UnbeatenHouseModel" 448 mm_75 3 1 := ⟨Or.inl (List.mem_of_getElem? (i := 1824) (by decide +kernel)), List.mem_of_getElem? (i := 1826) (by decide +kernel), List.mem_of_getElem? (i := 104) (by decide +kernel), ⟨0, _, _, rfl, rfl⟩, ⟨2, rfl, by decide +kernel⟩, my_75⟩
theorem mpV_0_45 : mj_okV lw_tbl mj_CL "UnbeatenHouseModel" 483 mm_76 1 1 := ⟨Or.inl (List.mem_of_getElem? (i := 1828) (by decide +kernel)), List.mem_of_getElem? (i := 1830) (by decide +kernel), List.mem_of_getElem? (i := 105) (by decide +kernel), ⟨0, _, _, rfl, rfl⟩, ⟨0, rfl, by decide +kernel⟩, my_76⟩
theorem mpV_0_46 : mj_okV lw_tbl mj_CL "UnbeatenHouseModel" 454 mm_77 3 1 := ⟨Or.inl (List.mem_of_getElem? (i := 1832) (by decide +kernel)), List.mem_of_getElem? (i := 1834) (by decide +kernel), List.mem_of_getElem? (i := 106) (by decide +kernel), ⟨0, _, _, rfl, rfl⟩, ⟨2, rfl, by decide +kernel⟩, my_77⟩
theorem mpV_0_47 : mj_okV lw_tbl mj_CL "UnbeatenHouseModel" 473 mm_78 3 1 := ⟨Or.inl (List.mem_of_getElem? (i := 1836) (by decide +kernel)), List.mem_of_getElem? (i := 1838) (by decide +kernel), List.mem_of_getElem? (i := 107) (by decide +kernel), ⟨0, _, _, rfl, rfl⟩, ⟨2, rfl, by decide +kernel⟩, my_78⟩
theorem mpV_0_48 : mj_okV lw_tbl mj_CL "UnbeatenHouseModel" 458 mm_79 2 1 := ⟨Or.inl (List.mem_of_getElem? (i := 1840) (by decide +kernel)), List.mem_of_getElem? (i := 1842) (by decide +kernel), List.mem_of_getElem? (i := 108) (by decide +kernel), ⟨0, _, _, rfl, rfl⟩, ⟨1, rfl, by decide +kernel⟩, my_79⟩
theorem mpV_0_49 : mj_okV lw_tbl mj_CL "UnbeatenHouseModel" 486 mm_83 3 1 := ⟨Or.inl (List.mem_of_getElem? (i := 1855) (by decide +kernel)), List.mem_of_getElem? (i := 1857) (by decide +kernel), List.mem_of_getElem? (i := 109) (by decide +kernel), ⟨0, _, _, rfl, rfl⟩, ⟨2, rfl, by decide +kernel⟩, my_83⟩
theorem mpV_0_50 : mj_okV lw_tbl mj_CL "UnbeatenHouseModel" 489 mm_85 2 1 := ⟨Or.inl (List.mem_of_getElem? (i := 1863) (by decide +kernel)), List.mem_of_getElem? (i := 1865) (by decide +kernel), List.mem_of_getElem? (i := 110) (by decide +kernel), ⟨0, _, _, rfl, rfl⟩, ⟨1, rfl, by decide +kernel⟩, my_85⟩
theorem mpV_0_51 : mj_okV lw_tbl mj_CL "UnbeatenHouseModel" 496 mm_90 1 1 := ⟨Or.inl (List.mem_of_getElem? (i := 1884) (by decide +kernel)), List.mem_of_getElem? (i := 1886) (by decide +kernel), List.mem_of_getElem? (i := 111) (by decide +kernel), ⟨0, _, _, rfl, rfl⟩, ⟨0, rfl, by decide +kernel⟩, my_90⟩
theorem mpV_0_52 : mj_okV lw_tbl mj_CL "UnbeatenHouseModel" 499 mm_91 2 1 := ⟨Or.inl (List.mem_of_getElem? (i := 1888) (by decide +kernel)), List.mem_of_getElem? (i := 1890) (by decide +kernel), List.mem_of_getElem? (i := 112) (by decide +kernel), ⟨0, _, _, rfl, rfl⟩, ⟨1, rfl, by decide +kernel⟩, my_91⟩
theorem mpV_0_53 : mj_okV lw_tbl mj_CL "UnbeatenHouseModel" 502 mm_92 2 1 := ⟨Or.inl (List.mem_of_getElem? (i := 1892) (by decide +kernel)), List.mem_of_getElem? (i := 1894) (by decide +kernel), List.mem_of_getElem? (i := 113) (by decide +kernel), ⟨0, _, _, rfl, rfl⟩, ⟨1, rfl, by decide +kernel⟩, my_92⟩
theorem mpV_0_54 : mj_okV lw_tbl mj_CL "UnbeatenHouseModel" 493 mm_93 2 1 := ⟨Or.inl (List.mem_of_getElem? (i := 1896) (by decide +kernel)), List.mem_of_getElem? (i := 1898) (by decide +kernel), List.mem_of_getElem? (i := 114) (by decide +kernel), ⟨0, _, _, rfl, rfl⟩, ⟨1, rfl, by decide +kernel⟩, my_93⟩
theorem mpV_0_55 : mj_okV lw_tbl mj_CL "UnbeatenHouseModel" 508 mm_96 2 1 := ⟨Or.inl (List.mem_of_getElem? (i := 1908) (by decide +kernel)), List.mem_of_getElem? (i := 1910) (by decide +kernel), List.mem_of_getElem? (i := 115) (by decide +kernel), ⟨0, _, _, rfl, rfl⟩, ⟨1, rfl, by decide +kernel⟩, my_96⟩
theorem mpV_0_56 : mj_okV lw_tbl mj_CL "UnbeatenHouseModel" 505 mm_97 3 1 := ⟨Or.inl (List.mem_of_getElem? (i := 1912) (by decide +kernel)), List.mem_of_getElem? (i := 1914) (by decide +kernel), List.mem_of_getElem? (i := 116) (by decide +kernel), ⟨0, _, _, rfl, rfl⟩, ⟨2, rfl, by decide +kernel⟩, my_97⟩
theorem mpV_0_57 : mj_okV lw_tbl mj_CL "UnbeatenHouseModel" 511 mm_98 2 1 := ⟨Or.inl (List.mem_of_getElem? (i := 1916) (by decide +kernel)), List.mem_of_getElem? (i := 1918) (by decide +kernel), List.mem_of_getElem? (i := 117) (by decide +kernel), ⟨0, _, _, rfl, rfl⟩, ⟨1, rfl, by decide +kernel⟩, my_98⟩
theorem mpV_0_58 : mj_okV lw_tbl mj_CL "UnbeatenHouseModel" 514 mm_99 2 1 := ⟨Or.inl (List.mem_of_getElem? (i := 1920) (by decide +kernel)), List.mem_of_getElem? (i := 1922) (by decide +kernel), List.mem_of_getElem? (i := 118) (by decide +kernel), ⟨0, _, _, rfl, rfl⟩, ⟨1, rfl, by decide +kernel⟩, my_99⟩
theorem mpV_0_59 : mj_okV lw_tbl mj_CL "UnbeatenHouseModel" 526 mm_108 1 1 := ⟨Or.inl (List.mem_of_getElem? (i := 1955) (by decide +kernel)), List.mem_of_getElem? (i := 1957) (by decide +kernel), List.mem_of_getElem? (i := 119) (by decide +kernel), ⟨0, _, _, rfl, rfl⟩, ⟨0, rfl, by decide +kernel⟩, my_108⟩
theorem mpV_0_60 : mj_okV lw_tbl mj_CL "UnbeatenHouseModel" 523 mm_109 1 1 := ⟨Or.inl (List.mem_of_getElem? (i := 1959) (by decide +kernel)), List.mem_of_getElem? (i := 1961) (by decide +kernel), List.mem_of_getElem? (i := 120) (by decide +kernel), ⟨0, _, _, rfl, rfl⟩, ⟨0, rfl, by decide +kernel⟩, my_109⟩
theorem mpV_0_61 : mj_okV lw_tbl mj_CL "UnbeatenHouseModel" 520 mm_110 2 1 := ⟨Or.inl (List.mem_of_getElem? (i := 1963) (by decide +kernel)), List.mem_of_getElem? (i := 1965) (by decide +kernel), List.mem_of_getElem? (i := 121) (by decide +kernel), ⟨0, _, _, rfl, rfl⟩, ⟨1, rfl, by decide +kernel⟩, my_110⟩
theorem mpV_0_62 : mj_okV lw_tbl mj_CL "UnbeatenHouseModel" 529 mm_112 1 1 := ⟨Or.inl (List.mem_of_getElem? (i := 1971) (by decide +kernel)), List.mem_of_getElem? (i := 1973) (by decide +kernel), List.mem_of_getElem? (i := 122) (by decide +kernel), ⟨0, _, _, rfl, rfl⟩, ⟨0, rfl, by decide +kernel⟩, my_112⟩
theorem mpV_0_63 : mj_okV lw_tbl mj_CL "UnbeatenHouseModel" 532 mm_114 3 1 := ⟨Or.inl (List.mem_of_getElem? (i := 1979) (by decide +kernel)), List.mem_of_getElem? (i := 1981) (by decide +kernel), List.mem_of_getElem? (i := 123) (by decide +kernel), ⟨0, _, _, rfl, rfl⟩, ⟨2, rfl, by decide +kernel⟩, my_114⟩
theorem mpV_0_64 : mj_okV lw_tbl mj_CL "UnbeatenHouseModel" 535 mm_116 3 1 := ⟨Or.inl (List.mem_of_getElem? (i := 1987) (by decide +kernel)), List.mem_of_getElem? (i := 1989) (by decide +kernel), List.mem_of_getElem? (i := 124) (by decide +kernel), ⟨0, _, _, rfl, rfl⟩, ⟨2, rfl, by decide +kernel⟩, my_116⟩
theorem mpV_0_65 : mj_okV lw_tbl mj_CL "UnbeatenHouseModel" 550 mm_122 1 1 := ⟨Or.inl (List.mem_of_getElem? (i := 2010) (by decide +kernel)), List.mem_of_getElem? (i := 2012) (by decide +kernel), List.mem_of_getElem? (i := 125) (by decide +kernel), ⟨0, _, _, rfl, rfl⟩, ⟨0, rfl, by decide +kernel⟩, my_122⟩
theorem mpV_0_66 : mj_okV lw_tbl mj_CL "UnbeatenHouseModel" 541 mm_123 2 1 := ⟨Or.inl (List.mem_of_getElem? (i := 2014) (by decide +kernel)), List.mem_of_getElem? (i := 2016) (by decide +kernel), List.mem_of_getElem? (i := 126) (by decide +kernel), ⟨0, _, _, rfl, rfl⟩, ⟨1, rfl, by decide +kernel⟩, my_123⟩
theorem mpV_0_67 : mj_okV lw_tbl mj_CL "UnbeatenHouseModel" 563 mm_124 1 1 := ⟨Or.inl (List.mem_of_getElem? (i := 2018) (by decide +kernel)), List.mem_of_getElem? (i := 2020) (by decide +kernel), List.mem_of_getElem? (i := 127) (by decide +kernel), ⟨0, _, _, rfl, rfl⟩, ⟨0, rfl, by decide +kernel⟩, my_124⟩
theorem mpV_0_68 : mj_okV lw_tbl mj_CL "UnbeatenHouseModel" 566 mm_125 3 1 := ⟨Or.inl (List.mem_of_getElem? (i := 2022) (by decide +kernel)), List.mem_of_getElem? (i := 2024) (by decide +kernel), List.mem_of_getElem? (i := 128) (by decide +kernel), ⟨0, _, _, rfl, rfl⟩, ⟨2, rfl, by decide +kernel⟩, my_125⟩
theorem mpV_0_69 : mj_okV lw_tbl mj_CL "UnbeatenHouseModel" 560 mm_126 4 1 := ⟨Or.inl (List.mem_of_getElem? (i := 2026) (by decide +kernel)), List.mem_of_getElem? (i := 2028) (by decide +kernel), List.mem_of_getElem? (i := 129) (by decide +kernel), ⟨0, _, _, rfl, rfl⟩, ⟨3, rfl, by decide +kernel⟩, my_126⟩
theorem mpV_0_70 : mj_okV lw_tbl mj_CL "UnbeatenHouseModel" 553 mm_127 4 1 := ⟨Or.inl (List.mem_of_getElem? (i := 2030) (by decide +kernel)), List.mem_of_getElem? (i := 2032) (by decide +kernel), List.mem_of_getElem? (i := 130) (by decide +kernel), ⟨0, _, _, rfl, rfl⟩, ⟨3, rfl, by decide +kernel⟩, my_127⟩
theorem mpV_0_71 : mj_okV lw_tbl mj_CL "UnbeatenHouseModel" 547 mm_128 4 1 := ⟨Or.inl (List.mem_of_getElem? (i := 2034) (by decide +kernel)), List.mem_of_getElem? (i := 2036) (by decide +kernel), List.mem_of_getElem? (i := 131) (by decide +kernel), ⟨0, _, _, rfl, rfl⟩, ⟨3, rfl, by decide +kernel⟩, my_128⟩
theorem mpV_0_72 : mj_okV lw_tbl mj_CL "UnbeatenHouseModel" 544 mm_129 3 1 := ⟨Or.inl (List.mem_of_getElem? (i := 2038) (by decide +kernel)), List.mem_of_getElem? (i := 2040) (by decide +kernel), List.mem_of_getElem? (i := 132) (by decide +kernel), ⟨0, _, _, rfl, rfl⟩, ⟨2, rfl, by decide +kernel⟩, my_129⟩
theorem mpV_0_73 : mj_okV lw_tbl mj_CL "UnbeatenHouseModel" 557 mm_130 3 1 := ⟨Or.inl (List.mem_of_getElem? (i := 2042) (by decide +kernel)), List.mem_of_getElem? (i := 2044) (by decide +kernel), List.mem_of_getElem? (i := 133) (by decide +kernel), ⟨0, _, _, rfl, rfl⟩, ⟨2, rfl, by decide +kernel⟩, my_130⟩
theorem mpV_0_74 : mj_okV lw_tbl mj_CL "UnbeatenHouseModel" 569 mm_121 2 1 := ⟨Or.inl (List.mem_of_getElem? (i := 2050) (by decide +kernel)), List.mem_of_getElem? (i := 2007) (by decide +kernel), List.mem_of_getElem? (i := 2008) (by decide +kernel), ⟨0, _, _, rfl, rfl⟩, ⟨1, rfl, by decide +kernel⟩, my_121⟩
theorem mpS_0_0 : mj_okS lw_tbl "UnbeatenHouseModel" 252 mm_14 1 := ⟨Or.inl (List.mem_of_getElem? (i := 1568) (by decide +kernel)), List.mem_of_getElem? (i := 1569) (by decide +kernel), by decide +kernel, my_14⟩
theorem mpS_0_1 : mj_okS lw_tbl "UnbeatenHouseModel" 256 mm_15 1 := ⟨Or.inl (List.mem_of_getElem? (i := 1571) (by decide +kernel)), List.mem_of_getElem? (i := 1572) (by decide +kernel), by decide +kernel, my_15⟩
theorem mpS_0_2 : mj_okS lw_tbl "UnbeatenHouseModel" 330 mm_36 1 := ⟨Or.inl (List.mem_of_getElem? (i := 1671) (by decide +kernel)), List.mem_of_getElem? (i := 1672) (by decide +kernel), by decide +kernel, my_36⟩
theorem mpS_0_3 : mj_okS lw_tbl "UnbeatenHouseModel" 320 mm_43 1 := ⟨Or.inl (List.mem_of_getElem? (i := 1698) (by decide +kernel)), List.mem_of_getElem? (i := 1699) (by decide +kernel), by decide +kernel, my_43⟩
theorem mpS_0_4 : mj_okS lw_tbl "UnbeatenHouseModel" 403 mm_49 3 := ⟨Or.inl (List.mem_of_getElem? (i := 1721) (by decide +kernel)), List.mem_of_getElem? (i := 1722) (by decide +kernel), by decide +kernel, my_49⟩
theorem mpS_0_5 : mj_okS lw_tbl "UnbeatenHouseModel" 396 mm_50 2 := ⟨Or.inl (List.mem_of_getElem? (i := 1724) (by decide +kernel)), List.mem_of_getElem? (i := 1725) (by decide +kernel), by decide +kernel, my_50⟩
theorem mpS_0_6 : mj_okS lw_tbl "UnbeatenHouseModel" 429 mm_63 1 := ⟨Or.inl (List.mem_of_getElem? (i := 1777) (by decide +kernel)), List.mem_of_getElem? (i := 1778) (by decide +kernel), by decide +kernel, my_63⟩
theorem mpS_0_7 : mj_okS lw_tbl "UnbeatenHouseModel" 476 mm_80 3 := ⟨Or.inl (List.mem_of_getElem? (i := 1844) (by decide +kernel)), List.mem_of_getElem? (i := 1845) (by decide +kernel), by decide +kernel, my_80⟩
theorem mpS_0_8 : mj_okS lw_tbl "UnbeatenHouseModel" 465 mm_81 1 := ⟨Or.inl (List.mem_of_getElem? (i := 1847) (by decide +kernel)), List.mem_of_getElem? (i := 1848) (by decide +kernel), by decide +kernel, my_81⟩
theorem mpS_0_9 : mj_okS lw_tbl "UnbeatenHouseModel" 469 mm_82 2 := ⟨Or.inl (List.mem_of_getElem? (i := 1852) (by decide +kernel)), List.mem_of_getElem? (i := 1853) (by decide +kernel), by decide +kernel, my_82⟩
theorem mpS_0_10 : mj_okS lw_tbl "UnbeatenHouseModel" 517 mm_103 2 := ⟨Or.inl (List.mem_of_getElem? (i := 1936) (by decide +kernel)), List.mem_of_getElem? (i := 1937) (by decide +kernel), by decide +kernel, my_103⟩
theorem mpS_0_11 : mj_okS lw_tbl "UnbeatenHouseModel" 538 mm_119 1 := ⟨Or.inl (List.mem_of_getElem? (i := 1999) (by decide +kernel)), List.mem_of_getElem? (i := 2000) (by decide +kernel), by decide +kernel, my_119⟩
theorem mpC_0_0 : Cond.constant "UnbeatenHouseModel" 162 32768 ∈ lw_tbl := List.mem_of_getElem? (i := 1314) (by decide +kernel)
theorem mpC_0_1 : Cond.constant "UnbeatenHouseModel" 169 81920 ∈ lw_tbl := List.mem_of_getElem? (i := 1315) (by decide +kernel)
theorem mpC_0_2 : Cond.constant "UnbeatenHouseModel" 492 (-2000000000) ∈ lw_tbl := List.mem_of_getElem? (i := 1867) (by decide +kernel)
theorem mpL_0_0 : Cond.constantLong "UnbeatenHouseModel" 269 2003399528 ∈ lw_tbl := List.mem_of_getElem? (i := 1582) (by decide +kernel)
theorem mpL_0_1 : Cond.constantLong "UnbeatenHouseModel" 271 1818588019 ∈ lw_tbl := List.mem_of_getElem? (i := 1603) (by decide +kernel)
theorem mpL_0_2 : Cond.constantLong "UnbeatenHouseModel" 273 1836020325 ∈ lw_tbl := List.mem_of_getElem? (i := 1604) (by decide +kernel)
theorem mpL_0_3 : Cond.constantLong "UnbeatenHouseModel" 275 7499639 ∈ lw_tbl := List.mem_of_getElem? (i := 1605) (by decide +kernel)
theorem mpL_0_4 : Cond.constantLong "UnbeatenHouseModel" 277 1802399604 ∈ lw_tbl := List.mem_of_getElem? (i := 1606) (by decide +kernel)
theorem mpL_0_5 : Cond.constantLong "UnbeatenHouseModel" 279 7629157 ∈ lw_tbl := List.mem_of_getElem? (i := 1607) (by decide +kernel)
theorem mpL_0_6 : Cond.constantLong "UnbeatenHouseModel" 281 499967946343 ∈ lw_tbl := List.mem_of_getElem? (i := 1608) (by decide +kernel)
theorem mpL_0_7 : Cond.constantLong "UnbeatenHouseModel" 283 1920298085 ∈ lw_tbl := List.mem_of_getElem? (i := 1609) (by decide +kernel)
theorem mpL_0_8 : Cond.constantLong "UnbeatenHouseModel" 285 28530 ∈ lw_tbl := List.mem_of_getElem? (i := 1610) (by decide +kernel)
theorem mpL_0_9 : Cond.constantLong "UnbeatenHouseModel" 287 6385252 ∈ lw_tbl := List.mem_of_getElem? (i := 1611) (by decide +kernel)
theorem mpL_0_10 : Cond.constantLong "UnbeatenHouseModel" 289 7237492 ∈ lw_tbl := List.mem_of_getElem? (i := 1612) (by decide +kernel)
theorem mpL_0_11 : Cond.constantLong "UnbeatenHouseModel" 291 6384748 ∈ lw_tbl := List.mem_of_getElem? (i := 1613) (by decide +kernel)
theorem mpL_0_12 : Cond.constantLong "UnbeatenHouseModel" 293 6840691 ∈ lw_tbl := List.mem_of_getElem? (i := 1614) (by decide +kernel)
theorem mpL_0_13 : Cond.constantLong "UnbeatenHouseModel" 295 1835101817 ∈ lw_tbl := List.mem_of_getElem? (i := 1615) (by decide +kernel)
theorem mpL_0_14 : Cond.constantLong "UnbeatenHouseModel" 297 28518 ∈ lw_tbl := List.mem_of_getElem? (i := 1616) (by decide +kernel)
theorem mpL_0_15 : Cond.constantLong "UnbeatenHouseModel" 299 7170414 ∈ lw_tbl := List.mem_of_getElem? (i := 1617) (by decide +kernel)
theorem mpL_0_16 : Cond.constantLong "UnbeatenHouseModel" 301 7168376 ∈ lw_tbl := List.mem_of_getElem? (i := 1618) (by decide +kernel)
theorem mpL_0_17 : Cond.constantLong "UnbeatenHouseModel" 391 255 ∈ lw_tbl := List.mem_of_getElem? (i := 1727) (by decide +kernel)
theorem mpL_0_18 : Cond.constantLong "UnbeatenHouseModel" 427 (-1) ∈ lw_tbl := List.mem_of_getElem? (i := 1776) (by decide +kernel)
theorem mpL_0_19 : Cond.constantLong "UnbeatenHouseModel" 461 1000000000 ∈ lw_tbl := List.mem_of_getElem? (i := 1850) (by decide +kernel)
theorem mpL_0_20 : Cond.constantLong "UnbeatenHouseModel" 463 (-1000000000) ∈ lw_tbl := List.mem_of_getElem? (i := 1851) (by decide +kernel)
theorem mpq_0 : mj_okQ lw_tbl mj_CL mj_MS "UnbeatenHouseModel" mp_0 := ⟨List.forall_mem_cons.mpr ⟨mpF_0_0, List.forall_mem_cons.mpr ⟨mpF_0_1, List.forall_mem_cons.mpr ⟨mpF_0_2, List.forall_mem_cons.mpr ⟨mpF_0_3, List.forall_mem_cons.mpr ⟨mpF_0_4, List.forall_mem_cons.mpr ⟨mpF_0_5, List.forall_mem_cons.mpr ⟨mpF_0_6, List.forall_mem_cons.mpr ⟨mpF_0_7, List.forall_mem_cons.mpr ⟨mpF_0_8, List.forall_mem_cons.mpr ⟨mpF_0_9, List.forall_mem_cons.mpr ⟨mpF_0_10, List.forall_mem_cons.mpr ⟨mpF_0_11, List.forall_mem_cons.mpr ⟨mpF_0_12, List.forall_mem_cons.mpr ⟨mpF_0_13, List.forall_mem_cons.mpr ⟨mpF_0_14, List.forall_mem_cons.mpr ⟨mpF_0_15, List.forall_mem_cons.mpr ⟨mpF_0_16, List.forall_mem_cons.mpr ⟨mpF_0_17, List.forall_mem_cons.mpr ⟨mpF_0_18, List.forall_mem_cons.mpr ⟨mpF_0_19, List.forall_mem_cons.mpr ⟨mpF_0_20, List.forall_mem_cons.mpr ⟨mpF_0_21, List.forall_mem_cons.mpr ⟨mpF_0_22, List.forall_mem_cons.mpr ⟨mpF_0_23, List.forall_mem_cons.mpr ⟨mpF_0_24, List.forall_mem_cons.mpr ⟨mpF_0_25, List.forall_mem_cons.mpr ⟨mpF_0_26, List.forall_mem_cons.mpr ⟨mpF_0_27, List.forall_mem_cons.mpr ⟨mpF_0_28, List.forall_mem_cons.mpr ⟨mpF_0_29, List.forall_mem_cons.mpr ⟨mpF_0_30, List.forall_mem_cons.mpr ⟨mpF_0_31, List.forall_mem_cons.mpr ⟨mpF_0_32, List.forall_mem_cons.mpr ⟨mpF_0_33, List.forall_mem_cons.mpr ⟨mpF_0_34, List.forall_mem_cons.mpr ⟨mpF_0_35, List.forall_mem_cons.mpr ⟨mpF_0_36, List.forall_mem_cons.mpr ⟨mpF_0_37, List.forall_mem_cons.mpr ⟨mpF_0_38, List.forall_mem_cons.mpr ⟨mpF_0_39, List.forall_mem_cons.mpr ⟨mpF_0_40, List.forall_mem_cons.mpr ⟨mpF_0_41, List.forall_mem_cons.mpr ⟨mpF_0_42, List.forall_mem_cons.mpr ⟨mpF_0_43, List.forall_mem_cons.mpr ⟨mpF_0_44, List.forall_mem_cons.mpr ⟨mpF_0_45, List.forall_mem_cons.mpr ⟨mpF_0_46, List.forall_mem_cons.mpr ⟨mpF_0_47, List.forall_mem_cons.mpr ⟨mpF_0_48, List.forall_mem_cons.mpr ⟨mpF_0_49, List.forall_mem_cons.mpr ⟨mpF_0_50, List.forall_mem_cons.mpr ⟨mpF_0_51, List.forall_mem_cons.mpr ⟨mpF_0_52, List.forall_mem_cons.mpr ⟨mpF_0_53, List.forall_mem_cons.mpr ⟨mpF_0_54, List.forall_mem_cons.mpr ⟨mpF_0_55, List.forall_mem_cons.mpr ⟨mpF_0_56, List.forall_mem_cons.mpr ⟨mpF_0_57, List.forall_mem_cons.mpr ⟨mpF_0_58, List.forall_mem_cons.mpr ⟨mpF_0_59, List.forall_mem_cons.mpr ⟨mpF_0_60, List.forall_mem_cons.mpr ⟨mpF_0_61, List.forall_mem_cons.mpr ⟨mpF_0_62, List.forall_mem_cons.mpr ⟨mpF_0_63, List.forall_mem_cons.mpr ⟨mpF_0_64, List.forall_mem_cons.mpr ⟨mpF_0_65, List.forall_mem_cons.mpr ⟨mpF_0_66, List.forall_mem_cons.mpr ⟨mpF_0_67, List.forall_mem_cons.mpr ⟨mpF_0_68, List.forall_mem_cons.mpr ⟨mpF_0_69, List.forall_mem_cons.mpr ⟨mpF_0_70, List.forall_mem_cons.mpr ⟨mpF_0_71, List.forall_mem_cons.mpr ⟨mpF_0_72, List.forall_mem_cons.mpr ⟨mpF_0_73, List.forall_mem_cons.mpr ⟨mpF_0_74, List.forall_mem_cons.mpr ⟨mpF_0_75, List.forall_mem_cons.mpr ⟨mpF_0_76, fun _ h => absurd h List.not_mem_nil⟩⟩⟩⟩⟩⟩⟩⟩⟩⟩⟩⟩⟩⟩⟩⟩⟩⟩⟩⟩⟩⟩⟩⟩⟩⟩⟩⟩⟩⟩⟩⟩⟩⟩⟩⟩⟩⟩⟩⟩⟩⟩⟩⟩⟩⟩⟩⟩⟩⟩⟩⟩⟩⟩⟩⟩⟩⟩⟩⟩⟩⟩⟩⟩⟩⟩⟩⟩⟩⟩⟩⟩⟩⟩⟩⟩⟩, List.forall_mem_cons.mpr ⟨mpV_0_0, List.forall_mem_cons.mpr ⟨mpV_0_1, List.forall_mem_cons.mpr ⟨mpV_0_2, List.forall_mem_cons.mpr ⟨mpV_0_3, List.forall_mem_cons.mpr ⟨mpV_0_4, List.forall_mem_cons.mpr ⟨mpV_0_5, List.forall_mem_cons.mpr ⟨mpV_0_6, List.forall_mem_cons.mpr ⟨mpV_0_7, List.forall_mem_cons.mpr ⟨mpV_0_8, List.forall_mem_cons.mpr ⟨mpV_0_9, List.forall_mem_cons.mpr ⟨mpV_0_10, List.forall_mem_cons.mpr ⟨mpV_0_11, List.forall_mem_cons.mpr ⟨mpV_0_12, List.forall_mem_cons.mpr ⟨mpV_0_13, List.forall_mem_cons.mpr ⟨mpV_0_14, List.forall_mem_cons.mpr ⟨mpV_0_15, List.forall_mem_cons.mpr ⟨mpV_0_16, List.forall_mem_cons.mpr ⟨mpV_0_17, List.forall_mem_cons.mpr ⟨mpV_0_18, List.forall_mem_cons.mpr ⟨mpV_0_19, List.forall_mem_cons.mpr ⟨mpV_0_20, List.forall_mem_cons.mpr ⟨mpV_0_21, List.forall_mem_cons.mpr ⟨mpV_0_22, List.forall_mem_cons.mpr ⟨mpV_0_23, List.forall_mem_cons.mpr ⟨mpV_0_24, List.forall_mem_cons.mpr ⟨mpV_0_25, List.forall_mem_cons.mpr ⟨mpV_0_26, List.forall_mem_cons.mpr ⟨mpV_0_27, List.forall_mem_cons.mpr ⟨mpV_0_28, List.forall_mem_cons.mpr ⟨mpV_0_29, List.forall_mem_cons.mpr ⟨mpV_0_30, List.forall_mem_cons.mpr ⟨mpV_0_31, List.forall_mem_cons.mpr ⟨mpV_0_32, List.forall_mem_cons.mpr ⟨mpV_0_33, List.forall_mem_cons.mpr ⟨mpV_0_34, List.forall_mem_cons.mpr ⟨mpV_0_35, List.forall_mem_cons.mpr ⟨mpV_0_36, List.forall_mem_cons.mpr ⟨mpV_0_37, List.forall_mem_cons.mpr ⟨mpV_0_38, List.forall_mem_cons.mpr ⟨mpV_0_39, List.forall_mem_cons.mpr ⟨mpV_0_40, List.forall_mem_cons.mpr ⟨mpV_0_41, List.forall_mem_cons.mpr ⟨mpV_0_42, List.forall_mem_cons.mpr ⟨mpV_0_43, List.forall_mem_cons.mpr ⟨mpV_0_44, List.forall_mem_cons.mpr ⟨mpV_0_45, List.forall_mem_cons.mpr ⟨mpV_0_46, List.forall_mem_cons.mpr ⟨mpV_0_47, List.forall_mem_cons.mpr ⟨mpV_0_48, List.forall_mem_cons.mpr ⟨mpV_0_49, List.forall_mem_cons.mpr ⟨mpV_0_50, List.forall_mem_cons.mpr ⟨mpV_0_51, List.forall_mem_cons.mpr ⟨mpV_0_52, List.forall_mem_cons.mpr ⟨mpV_0_53, List.forall_mem_cons.mpr ⟨mpV_0_54, List.forall_mem_cons.mpr ⟨mpV_0_55, List.forall_mem_cons.mpr ⟨mpV_0_56, List.forall_mem_cons.mpr ⟨mpV_0_57, List.forall_mem_cons.mpr ⟨mpV_0_58, List.forall_mem_cons.mpr ⟨mpV_0_59, List.forall_mem_cons.mpr ⟨mpV_0_60, List.forall_mem_cons.mpr ⟨mpV_0_61, List.forall_mem_cons.mpr ⟨mpV_0_62, List.forall_mem_cons.mpr ⟨mpV_0_63, List.forall_mem_cons.mpr ⟨mpV_0_64, List.forall_mem_cons.mpr ⟨mpV_0_65, List.forall_mem_cons.mpr ⟨mpV_0_66, List.forall_mem_cons.mpr ⟨mpV_0_67, List.forall_mem_cons.mpr ⟨mpV_0_68, List.forall_mem_cons.mpr ⟨mpV_0_69, List.forall_mem_cons.mpr ⟨mpV_0_70, List.forall_mem_cons.mpr ⟨mpV_0_71, List.forall_mem_cons.mpr ⟨mpV_0_72, List.forall_mem_cons.mpr ⟨mpV_0_73, List.forall_mem_cons.mpr ⟨mpV_0_74, fun _ h => absurd h List.not_mem_nil⟩⟩⟩⟩⟩⟩⟩⟩⟩⟩⟩⟩⟩⟩⟩⟩⟩⟩⟩⟩⟩⟩⟩⟩⟩⟩⟩⟩⟩⟩⟩⟩⟩⟩⟩⟩⟩⟩⟩⟩⟩⟩⟩⟩⟩⟩⟩⟩⟩⟩⟩⟩⟩⟩⟩⟩⟩⟩⟩⟩⟩⟩⟩⟩⟩⟩⟩⟩⟩⟩⟩⟩⟩⟩⟩, List.forall_mem_cons.mpr ⟨mpS_0_0, List.forall_mem_cons.mpr ⟨mpS_0_1, List.forall_mem_cons.mpr ⟨mpS_0_2, List.forall_mem_cons.mpr ⟨mpS_0_3, List.forall_mem_cons.mpr ⟨mpS_0_4, List.forall_mem_cons.mpr ⟨mpS_0_5, List.forall_mem_cons.mpr ⟨mpS_0_6, List.forall_mem_cons.mpr ⟨mpS_0_7, List.forall_mem_cons.mpr ⟨mpS_0_8, List.forall_mem_cons.mpr ⟨mpS_0_9, List.forall_mem_cons.mpr ⟨mpS_0_10, List.forall_mem_cons.mpr ⟨mpS_0_11, fun _ h => absurd h List.not_mem_nil⟩⟩⟩⟩⟩⟩⟩⟩⟩⟩⟩⟩, List.forall_mem_cons.mpr ⟨mpC_0_0, List.forall_mem_cons.mpr ⟨mpC_0_1, List.forall_mem_cons.mpr ⟨mpC_0_2, fun _ h => absurd h List.not_mem_nil⟩⟩⟩, List.forall_mem_cons.mpr ⟨mpL_0_0, List.forall_mem_cons.mpr ⟨mpL_0_1, List.forall_mem_cons.mpr ⟨mpL_0_2, List.forall_mem_cons.mpr ⟨mpL_0_3, List.forall_mem_cons.mpr ⟨mpL_0_4, List.forall_mem_cons.mpr ⟨mpL_0_5, List.forall_mem_cons.mpr ⟨mpL_0_6, List.forall_mem_cons.mpr ⟨mpL_0_7, List.forall_mem_cons.mpr ⟨mpL_0_8, List.forall_mem_cons.mpr ⟨mpL_0_9, List.forall_mem_cons.mpr ⟨mpL_0_10, List.forall_mem_cons.mpr ⟨mpL_0_11, List.forall_mem_cons.mpr ⟨mpL_0_12, List.forall_mem_cons.mpr ⟨mpL_0_13, List.forall_mem_cons.mpr ⟨mpL_0_14, List.forall_mem_cons.mpr ⟨mpL_0_15, List.forall_mem_cons.mpr ⟨mpL_0_16, List.forall_mem_cons.mpr ⟨mpL_0_17, List.forall_mem_cons.mpr ⟨mpL_0_18, List.forall_mem_cons.mpr ⟨mpL_0_19, List.forall_mem_cons.mpr ⟨mpL_0_20, fun _ h => absurd h List.not_mem_nil⟩⟩⟩⟩⟩⟩⟩⟩⟩⟩⟩⟩⟩⟩⟩⟩⟩⟩⟩⟩⟩, fun _ h => absurd h List.not_mem_nil⟩
def mp_1 : mj_Q := ([(137, 11, 0, false), (130, 11, 1, true), (153, 11, 2, true), (160, 11, 4, true), (167, 11, 5, true), (96, 8, 1, true), (140, 8, 10, false), (143, 8, 11, false), (188, 9, 3, true), (191, 9, 4, true), (173, 9, 6, false), (237, 2, 0, false), (209, 2, 1, false), (233, 2, 2, true), (240, 2, 3, true), (273, 6, 3, true), (270, 6, 4, false), (127, 12, 0, false), (251, 12, 2, false), (256, 12, 3, true), (146, 10, 0, false), (311, 10, 5, false), (314, 10, 6, false), (308, 10, 7, false), (331, 5, 0, true), (332, 5, 1, true), (336, 5, 2, true), (343, 5, 5, false), (89, 1, 0, false), (10, 1, 1, false), (19, 1, 2, true), (26, 1, 3, true), (33, 1, 4, true), (40, 1, 5, true), (47, 1, 6, true), (51, 1, 7, true), (54, 1, 8, true), (57, 1, 9, false), (64, 1, 10, true), (71, 1, 11, true), (78, 1, 12, true), (85, 1, 13, true), (118, 1, 14, false), (122, 1, 15, false)], [(92, 134, 2, 2), (100, 137, 2, 9), (104, 172, 2, 9), (108, 173, 2, 10), (112, 181, 1, 3), (115, 183, 1, 7), (125, 184, 1, 11), (126, 185, 1, 6), (133, 186, 3, 13), (149, 192, 3, 12), (170, 196, 3, 10), (194, 176, 3, 10), (198, 177, 2, 10), (201, 179, 5, 10), (205, 204, 2, 10), (210, 206, 3, 2), (217, 207, 5, 4), (221, 213, 3, 8), (224, 219, 2, 3), (213, 220, 1, 2), (227, 221, 3, 4), (231, 231, 2, 3), (252, 238, 4, 13), (259, 242, 1, 3), (263, 243, 4, 7), (267, 250, 4, 7), (276, 245, 4, 3), (288, 255, 3, 3), (293, 257, 3, 11), (296, 260, 4, 11), (300, 263, 4, 10), (304, 265, 3, 11), (317, 269, 3, 11), (339, 279, 2, 6), (346, 281, 3, 6), (350, 288, 2, 6), (354, 286, 4, 6)], [(156, 193, 2), (163, 154, 3), (176, 178, 2), (182, 2, 1), (244, 233, 1), (247, 235, 2), (279, 253, 2), (283, 5, 2), (291, 1, 2), (321, 7, 1), (324, 275, 1), (327, 276, 3)], [(236, (-2000000000))], [(180, (-1))], [])
theorem mpF_1_0 : mj_okF lw_tbl mj_CL "UnbeatenHouse" 137 11 0 ∧ (false = false → ∃ q, mj_CL[11]? = some q ∧ (q.2.1 0).2.2.2 = false) := ⟨⟨_, _, _, rfl, by decide, Or.inr ⟨"UnbeatenHouse", List.mem_of_getElem? (i := 172) (by decide +kernel)⟩⟩, fun _ => ⟨_, rfl, by decide +kernel⟩⟩
theorem mpF_1_1 : mj_okF lw_tbl mj_CL "UnbeatenHouse" 130 11 1 ∧ (true = false → ∃ q, mj_CL[11]? = some q ∧ (q.2.1 1).2.2.2 = false) := ⟨⟨_, _, _, rfl, by decide, Or.inr ⟨"UnbeatenHouse", List.mem_of_getElem? (i := 177) (by decide +kernel)⟩⟩, fun h => absurd h (by decide)⟩
theorem mpF_1_2 : mj_okF lw_tbl mj_CL "UnbeatenHouse" 153 11 2 ∧ (true = false → ∃ q, mj_CL[11]? = some q ∧ (q.2.1 2).2.2.2 = false) := ⟨⟨_, _, _, rfl, by decide, Or.inr ⟨"UnbeatenHouse", List.mem_of_getElem? (i := 180) (by decide +kernel)⟩⟩, fun h => absurd h (by decide)⟩
theorem mpF_1_3 : mj_okF lw_tbl mj_CL "UnbeatenHouse" 160 11 4 ∧ (true = false → ∃ q, mj_CL[11]? = some q ∧ (q.2.1 4).2.2.2 = false) := ⟨⟨_, _, _, rfl, by decide, Or.inr ⟨"UnbeatenHouse", List.mem_of_getElem? (i := 186) (by decide +kernel)⟩⟩, fun h => absurd h (by decide)⟩
theorem mpF_1_4 : mj_okF lw_tbl mj_CL "UnbeatenHouse" 167 11 5 ∧ (true = false → ∃ q, mj_CL[11]? = some q ∧ (q.2.1 5).2.2.2 = false) := ⟨⟨_, _, _, rfl, by decide, Or.inr ⟨"UnbeatenHouse", List.mem_of_getElem? (i := 190) (by decide +kernel)⟩⟩, fun h => absurd h (by decide)⟩
theorem mpF_1_5 : mj_okF lw_tbl mj_CL "UnbeatenHouse" 96 8 1 ∧ (true = false → ∃ q, mj_CL[8]? = some q ∧ (q.2.1 1).2.2.2 = false) := ⟨⟨_, _, _, rfl, by decide, Or.inr ⟨"UnbeatenHouse", List.mem_of_getElem? (i := 281) (by decide +kernel)⟩⟩, fun h => absurd h (by decide)⟩
theorem mpF_1_6 : mj_okF lw_tbl mj_CL "UnbeatenHouse" 140 8 10 ∧ (false = false → ∃ q, mj_CL[8]? = some q ∧ (q.2.1 10).2.2.2 = false) := ⟨⟨_, _, _, rfl, by decide, Or.inr ⟨"UnbeatenHouse", List.mem_of_getElem? (i := 291) (by decide +kernel)⟩⟩, fun _ => ⟨_, rfl, by decide +kernel⟩⟩
theorem mpF_1_7 : mj_okF lw_tbl mj_CL "UnbeatenHouse" 143 8 11 ∧ (false = false → ∃ q, mj_CL[8]? = some q ∧ (q.2.1 11).2.2.2 = false) := ⟨⟨_, _, _, rfl, by decide, Or.inr ⟨"UnbeatenHouse", List.mem_of_getElem? (i := 293) (by decide +kernel)⟩⟩, fun _ => ⟨_, rfl, by decide +kernel⟩⟩
theorem mpF_1_8 : mj_okF lw_tbl mj_CL "UnbeatenHouse" 188 9 3 ∧ (true = false → ∃ q, mj_CL[9]? = some q ∧ (q.2.1 3).2.2.2 = false) := ⟨⟨_, _, _, rfl, by decide, Or.inr ⟨"UnbeatenHouse", List.mem_of_getElem? (i := 335) (by decide +kernel)⟩⟩, fun h => absurd h (by decide)⟩
theorem mpF_1_9 : mj_okF lw_tbl mj_CL "UnbeatenHouse" 191 9 4 ∧ (true = false → ∃ q, mj_CL[9]? = some q ∧ (q.2.1 4).2.2.2 = false) := ⟨⟨_, _, _, rfl, by decide, Or.inr ⟨"UnbeatenHouse", List.mem_of_getElem? (i := 337) (by decide +kernel)⟩⟩, fun h => absurd h (by decide)⟩
theorem mpF_1_10 : mj_okF lw_tbl mj_CL "UnbeatenHouse" 173 9 6 ∧ (false = false → ∃ q, mj_CL[9]? = some q ∧ (q.2.1 6).2.2.2 = false) := ⟨⟨_, _, _, rfl, by decide, Or.inr ⟨"UnbeatenHouse", List.mem_of_getElem? (i := 342) (by decide +kernel)⟩⟩, fun _ => ⟨_, rfl, by decide +kernel⟩⟩
theorem mpF_1_11 : mj_okF lw_tbl mj_CL "UnbeatenHouse" 237 2 0 ∧ (false = false → ∃ q, mj_CL[2]? = some q ∧ (q.2.1 0).2.2.2 = false) := ⟨⟨_, _, _, rfl, by decide, Or.inr ⟨"UnbeatenHouse", List.mem_of_getElem? (i := 421) (by decide +kernel)⟩⟩, fun _ => ⟨_, rfl, by decide +kernel⟩⟩
theorem mpF_1_12 : mj_okF lw_tbl mj_CL "UnbeatenHouse" 209 2 1 ∧ (false = false → ∃ q, mj_CL[2]? = some q ∧ (q.2.1 1).2.2.2 = false) := ⟨⟨_, _, _, rfl, by decide, Or.inr ⟨"UnbeatenHouse", List.mem_of_getElem? (i := 426) (by decide +kernel)⟩⟩, fun _ => ⟨_, rfl, by decide +kernel⟩⟩
theorem mpF_1_13 : mj_okF lw_tbl mj_CL "UnbeatenHouse" 233 2 2 ∧ (true = false → ∃ q, mj_CL[2]? = some q ∧ (q.2.1 2).2.2.2 = false) := ⟨⟨_, _, _, rfl, by decide, Or.inr ⟨"UnbeatenHouse", List.mem_of_getElem? (i := 429) (by decide +kernel)⟩⟩, fun h => absurd h (by decide)⟩
theorem mpF_1_14 : mj_okF lw_tbl mj_CL "UnbeatenHouse" 240 2 3 ∧ (true = false → ∃ q, mj_CL[2]? = some q ∧ (q.2.1 3).2.2.2 = false) := ⟨⟨_, _, _, rfl, by decide, Or.inr ⟨"UnbeatenHouse", List.mem_of_getElem? (i := 431) (by decide +kernel)⟩⟩, fun h => absurd h (by decide)⟩
theorem mpF_1_15 : mj_okF lw_tbl mj_CL "UnbeatenHouse" 273 6 3 ∧ (true = false → ∃ q, mj_CL[6]? = some q ∧ (q.2.1 3).2.2.2 = false) := ⟨⟨_, _, _, rfl, by decide, Or.inr ⟨"UnbeatenHouse", List.mem_of_getElem? (i := 451) (by decide +kernel)⟩⟩, fun h => absurd h (by decide)⟩
theorem mpF_1_16 : mj_okF lw_tbl mj_CL "UnbeatenHouse" 270 6 4 ∧ (false = false → ∃ q, mj_CL[6]? = some q ∧ (q.2.1 4).2.2.2 = false) := ⟨⟨_, _, _, rfl, by decide, Or.inr ⟨"UnbeatenHouse", List.mem_of_getElem? (i := 453) (by decide +kernel)⟩⟩, fun _ => ⟨_, rfl, by decide +kernel⟩⟩
theorem mpF_1_17 : mj_okF lw_tbl mj_CL "UnbeatenHouse" 127 12 0 ∧ (false = false → ∃ q, mj_CL[12]? = some q ∧ (q.2.1 0).2.2.2 = false) := ⟨⟨_, _, _, rfl, by decide, Or.inr ⟨"UnbeatenHouse", List.mem_of_getElem? (i := 472) (by decide +kernel)⟩⟩, fun _ => ⟨_, rfl, by decide +kernel⟩⟩
theorem mpF_1_18 : mj_okF lw_tbl mj_CL "UnbeatenHouse" 251 12 2 ∧ (false = false → ∃ q, mj_CL[12]? = some q ∧ (q.2.1 2).2.2.2 = false) := ⟨⟨_, _, _, rfl, by decide, Or.inr ⟨"UnbeatenHouse", List.mem_of_getElem? (i := 476) (by decide +kernel)⟩⟩, fun _ => ⟨_, rfl, by decide +kernel⟩⟩
theorem mpF_1_19 : mj_okF lw_tbl mj_CL "UnbeatenHouse" 256 12 3 ∧ (true = false → ∃ q, mj_CL[12]? = some q ∧ (q.2.1 3).2.2.2 = false) := ⟨⟨_, _, _, rfl, by decide, Or.inr ⟨"UnbeatenHouse", List.mem_of_getElem? (i := 478) (by decide +kernel)⟩⟩, fun h => absurd h (by decide)⟩
theorem mpF_1_20 : mj_okF lw_tbl mj_CL "UnbeatenHouse" 146 10 0 ∧ (false = false → ∃ q, mj_CL[10]? = some q ∧ (q.2.1 0).2.2.2 = false) := ⟨⟨_, _, _, rfl, by decide, Or.inr ⟨"UnbeatenHouse", List.mem_of_getElem? (i := 495) (by decide +kernel)⟩⟩, fun _ => ⟨_, rfl, by decide +kernel⟩⟩
theorem mpF_1_21 : mj_okF lw_tbl mj_CL "UnbeatenHouse" 311 10 5 ∧ (false = false → ∃ q, mj_CL[10]? = some q ∧ (q.2.1 5).2.2.2 = false) := ⟨⟨_, _, _, rfl, by decide, Or.inr ⟨"UnbeatenHouse", List.mem_of_getElem? (i := 501) (by decide +kernel)⟩⟩, fun _ => ⟨_, rfl, by decide +kernel⟩⟩
theorem mpF_1_22 : mj_okF lw_tbl mj_CL "UnbeatenHouse" 314 10 6 ∧ (false = false → ∃ q, mj_CL[10]? = some q ∧ (q.2.1 6).2.2.2 = false) := ⟨⟨_, _, _, rfl, by decide, Or.inr ⟨"UnbeatenHouse", List.mem_of_getElem? (i := 503) (by decide +kernel)⟩⟩, fun _ => ⟨_, rfl, by decide +kernel⟩⟩
theorem mpF_1_23 : mj_okF lw_tbl mj_CL "UnbeatenHouse" 308 10 7 ∧ (false = false → ∃ q, mj_CL[10]? = some q ∧ (q.2.1 7).2.2.2 = false) := ⟨⟨_, _, _, rfl, by decide, Or.inr ⟨"UnbeatenHouse", List.mem_of_getElem? (i := 505) (by decide +kernel)⟩⟩, fun _ => ⟨_, rfl, by decide +kernel⟩⟩
theorem mpF_1_24 : mj_okF lw_tbl mj_CL "UnbeatenHouse" 331 5 0 ∧ (true = false → ∃ q, mj_CL[5]? = some q ∧ (q.2.1 0).2.2.2 = false) := ⟨⟨_, _, _, rfl, by decide, Or.inr ⟨"UnbeatenHouse", List.mem_of_getElem? (i := 530) (by decide +kernel)⟩⟩, fun h => absurd h (by decide)⟩
theorem mpF_1_25 : mj_okF lw_tbl mj_CL "UnbeatenHouse" 332 5 1 ∧ (true = false → ∃ q, mj_CL[5]? = some q ∧ (q.2.1 1).2.2.2 = false) := ⟨⟨_, _, _, rfl, by decide, Or.inr ⟨"UnbeatenHouse", List.mem_of_getElem? (i := 532) (by decide +kernel)⟩⟩, fun h => absurd h (by decide)⟩
theorem mpF_1_26 : mj_okF lw_tbl mj_CL "UnbeatenHouse" 336 5 2 ∧ (true = false → ∃ q, mj_CL[5]? = some q ∧ (q.2.1 2).2.2.2 = false) := ⟨⟨_, _, _, rfl, by decide, Or.inr ⟨"UnbeatenHouse", List.mem_of_getElem? (i := 534) (by decide +kernel)⟩⟩, fun h => absurd h (by decide)⟩
theorem mpF_1_27 : mj_okF lw_tbl mj_CL "UnbeatenHouse" 343 5 5 ∧ (false = false → ∃ q, mj_CL[5]? = some q ∧ (q.2.1 5).2.2.2 = false) := ⟨⟨_, _, _, rfl, by decide, Or.inr ⟨"UnbeatenHouse", List.mem_of_getElem? (i := 538) (by decide +kernel)⟩⟩, fun _ => ⟨_, rfl, by decide +kernel⟩⟩
theorem mpF_1_28 : mj_okF lw_tbl mj_CL "UnbeatenHouse" 89 1 0 ∧ (false = false → ∃ q, mj_CL[1]? = some q ∧ (q.2.1 0).2.2.2 = false) := ⟨⟨_, _, _, rfl, by decide, Or.inl (List.mem_of_getElem? (i := 552) (by decide +kernel))⟩, fun _ => ⟨_, rfl, by decide +kernel⟩⟩
theorem mpF_1_29 : mj_okF lw_tbl mj_CL "UnbeatenHouse" 10 1 1 ∧ (false = false → ∃ q, mj_CL[1]? = some q ∧ (q.2.1 1).2.2.2 = false) := ⟨⟨_, _, _, rfl, by decide, Or.inl (List.mem_of_getElem? (i := 553) (by decide +kernel))⟩, fun _ => ⟨_, rfl, by decide +kernel⟩⟩
theorem mpF_1_30 : mj_okF lw_tbl mj_CL "UnbeatenHouse" 19 1 2 ∧ (true = false → ∃ q, mj_CL[1]? = some q ∧ (q.2.1 2).2.2.2 = false) := ⟨⟨_, _, _, rfl, by decide, Or.inl (List.mem_of_getElem? (i := 554) (by decide +kernel))⟩, fun h => absurd h (by decide)⟩
theorem mpF_1_31 : mj_okF lw_tbl mj_CL "UnbeatenHouse" 26 1 3 ∧ (true = false → ∃ q, mj_CL[1]? = some q ∧ (q.2.1 3).2.2.2 = false) := ⟨⟨_, _, _, rfl, by decide, Or.inl (List.mem_of_getElem? (i := 555) (by decide +kernel))⟩, fun h => absurd h (by decide)⟩
theorem mpF_1_32 : mj_okF lw_tbl mj_CL "UnbeatenHouse" 33 1 4 ∧ (true = false → ∃ q, mj_CL[1]? = some q ∧ (q.2.1 4).2.2.2 = false) := ⟨⟨_, _, _, rfl, by decide, Or.inl (List.mem_of_getElem? (i := 556) (by decide +kernel))⟩, fun h => absurd h (by decide)⟩
theorem mpF_1_33 : mj_okF lw_tbl mj_CL "UnbeatenHouse" 40 1 5 ∧ (true = false → ∃ q, mj_CL[1]? = some q ∧ (q.2.1 5).2.2.2 = false) := ⟨⟨_, _, _, rfl, by decide, Or.inl (List.mem_of_getElem? (i := 557) (by decide +kernel))⟩, fun h => absurd h (by decide)⟩
theorem mpF_1_34 : mj_okF lw_tbl mj_CL "UnbeatenHouse" 47 1 6 ∧ (true = false → ∃ q, mj_CL[1]? = some q ∧ (q.2.1 6).2.2.2 = false) := ⟨⟨_, _, _, rfl, by decide, Or.inl (List.mem_of_getElem? (i := 558) (by decide +kernel))⟩, fun h => absurd h (by decide)⟩
theorem mpF_1_35 : mj_okF lw_tbl mj_CL "UnbeatenHouse" 51 1 7 ∧ (true = false → ∃ q, mj_CL[1]? = some q ∧ (q.2.1 7).2.2.2 = false) := ⟨⟨_, _, _, rfl, by decide, Or.inl (List.mem_of_getElem? (i := 559) (by decide +kernel))⟩, fun h => absurd h (by decide)⟩
theorem mpF_1_36 : mj_okF lw_tbl mj_CL "UnbeatenHouse" 54 1 8 ∧ (true = false → ∃ q, mj_CL[1]? = some q ∧ (q.2.1 8).2.2.2 = false) := ⟨⟨_, _, _, rfl, by decide, Or.inl (List.mem_of_getElem? (i := 560) (by decide +kernel))⟩, fun h => absurd h (by decide)⟩
theorem mpF_1_37 : mj_okF lw_tbl mj_CL "UnbeatenHouse" 57 1 9 ∧ (false = false → ∃ q, mj_CL[1]? = some q ∧ (q.2.1 9).2.2.2 = false) := ⟨⟨_, _, _, rfl, by decide, Or.inl (List.mem_of_getElem? (i := 561) (by decide +kernel))⟩, fun _ => ⟨_, rfl, by decide +kernel⟩⟩
theorem mpF_1_38 : mj_okF lw_tbl mj_CL "UnbeatenHouse" 64 1 10 ∧ (true = false → ∃ q, mj_CL[1]? = some q ∧ (q.2.1 10).2.2.2 = false) := ⟨⟨_, _, _, rfl, by decide, Or.inl (List.mem_of_getElem? (i := 562) (by decide +kernel))⟩, fun h => absurd h (by decide)⟩
theorem mpF_1_39 : mj_okF lw_tbl mj_CL "UnbeatenHouse" 71 1 11 ∧ (true = false → ∃ q, mj_CL[1]? = some q ∧ (q.2.1 11).2.2.2 = false) := ⟨⟨_, _, _, rfl, by decide, Or.inl (List.mem_of_getElem? (i := 563) (by decide +kernel))⟩, fun h => absurd h (by decide)⟩
theorem mpF_1_40 : mj_okF lw_tbl mj_CL "UnbeatenHouse" 78 1 12 ∧ (true = false → ∃ q, mj_CL[1]? = some q ∧ (q.2.1 12).2.2.2 = false) := ⟨⟨_, _, _, rfl, by decide, Or.inl (List.mem_of_getElem? (i := 564) (by decide +kernel))⟩, fun h => absurd h (by decide)⟩
theorem mpF_1_41 : mj_okF lw_tbl mj_CL "UnbeatenHouse" 85 1 13 ∧ (true = false → ∃ q, mj_CL[1]? = some q ∧ (q.2.1 13).2.2.2 = false) := ⟨⟨_, _, _, rfl, by decide, Or.inl (List.mem_of_getElem? (i := 565) (by decide +kernel))⟩, fun h => absurd h (by decide)⟩
theorem mpF_1_42 : mj_okF lw_tbl mj_CL "UnbeatenHouse" 118 1 14 ∧ (false = false → ∃ q, mj_CL[1]? = some q ∧ (q.2.1 14).2.2.2 = false) := ⟨⟨_, _, _, rfl, by decide, Or.inl (List.mem_of_getElem? (i := 566) (by decide +kernel))⟩, fun _ => ⟨_, rfl, by decide +kernel⟩⟩
theorem mpF_1_43 : mj_okF lw_tbl mj_CL "UnbeatenHouse" 122 1 15 ∧ (false = false → ∃ q, mj_CL[1]? = some q ∧ (q.2.1 15).2.2.2 = false) := ⟨⟨_, _, _, rfl, by decide, Or.inl (List.mem_of_getElem? (i := 567) (by decide +kernel))⟩, fun _ => ⟨_, rfl, by decide +kernel⟩⟩
theorem mpV_1_0 : mj_okV lw_tbl mj_CL "UnbeatenHouse" 92 mm_134 2 2 := ⟨Or.inl (List.mem_of_getElem? (i := 605) (by decide +kernel)), List.mem_of_getElem? (i := 607) (by decide +kernel), List.mem_of_getElem? (i := 0) (by decide +kernel), ⟨1, _, _, rfl, rfl⟩, ⟨1, rfl, by decide +kernel⟩, my_134⟩
theorem mpV_1_1 : mj_okV lw_tbl mj_CL "UnbeatenHouse" 100 mm_137 2 9 := ⟨Or.inl (List.mem_of_getElem? (i := 617) (by decide +kernel)), List.mem_of_getElem? (i := 618) (by decide +kernel), List.mem_of_getElem? (i := 619) (by decide +kernel), ⟨8, _, _, rfl, rfl⟩, ⟨1, rfl, by decide +kernel⟩, my_137⟩
theorem mpV_1_2 : mj_okV lw_tbl mj_CL "UnbeatenHouse" 104 mm_172 2 9 := ⟨Or.inl (List.mem_of_getElem? (i := 764) (by decide +kernel)), List.mem_of_getElem? (i := 765) (by decide +kernel), List.mem_of_getElem? (i := 766) (by decide +kernel), ⟨8, _, _, rfl, rfl⟩, ⟨1, rfl, by decide +kernel⟩, my_172⟩
theorem mpV_1_3 : mj_okV lw_tbl mj_CL "UnbeatenHouse" 108 mm_173 2 10 := ⟨Or.inl (List.mem_of_getElem? (i := 768) (by decide +kernel)), List.mem_of_getElem? (i := 769) (by decide +kernel), List.mem_of_getElem? (i := 770) (by decide +kernel), ⟨9, _, _, rfl, rfl⟩, ⟨1, rfl, by decide +kernel⟩, my_173⟩
theorem mpV_1_4 : mj_okV lw_tbl mj_CL "UnbeatenHouse" 112 mm_181 1 3 := ⟨Or.inl (List.mem_of_getElem? (i := 799) (by decide +kernel)), List.mem_of_getElem? (i := 800) (by decide +kernel), List.mem_of_getElem? (i := 801) (by decide +kernel), ⟨2, _, _, rfl, rfl⟩, ⟨0, rfl, by decide +kernel⟩, my_181⟩
theorem mpV_1_5 : mj_okV lw_tbl mj_CL "UnbeatenHouse" 115 mm_183 1 7 := ⟨Or.inl (List.mem_of_getElem? (i := 807) (by decide +kernel)), List.mem_of_getElem? (i := 808) (by decide +kernel), List.mem_of_getElem? (i := 809) (by decide +kernel), ⟨6, _, _, rfl, rfl⟩, ⟨0, rfl, by decide +kernel⟩, my_183⟩
theorem mpV_1_6 : mj_okV lw_tbl mj_CL "UnbeatenHouse" 125 mm_184 1 11 := ⟨Or.inl (List.mem_of_getElem? (i := 811) (by decide +kernel)), List.mem_of_getElem? (i := 812) (by decide +kernel), List.mem_of_getElem? (i := 813) (by decide +kernel), ⟨10, _, _, rfl, rfl⟩, ⟨0, rfl, by decide +kernel⟩, my_184⟩
theorem mpV_1_7 : mj_okV lw_tbl mj_CL "UnbeatenHouse" 126 mm_185 1 6 := ⟨Or.inl (List.mem_of_getElem? (i := 815) (by decide +kernel)), List.mem_of_getElem? (i := 816) (by decide +kernel), List.mem_of_getElem? (i := 817) (by decide +kernel), ⟨5, _, _, rfl, rfl⟩, ⟨0, rfl, by decide +kernel⟩, my_185⟩
theorem mpV_1_8 : mj_okV lw_tbl mj_CL "UnbeatenHouse" 133 mm_186 3 13 := ⟨Or.inl (List.mem_of_getElem? (i := 819) (by decide +kernel)), List.mem_of_getElem? (i := 820) (by decide +kernel), List.mem_of_getElem? (i := 821) (by decide +kernel), ⟨12, _, _, rfl, rfl⟩, ⟨2, rfl, by decide +kernel⟩, my_186⟩
theorem mpV_1_9 : mj_okV lw_tbl mj_CL "UnbeatenHouse" 149 mm_192 3 12 := ⟨Or.inl (List.mem_of_getElem? (i := 843) (by decide +kernel)), List.mem_of_getElem? (i := 844) (by decide +kernel), List.mem_of_getElem? (i := 845) (by decide +kernel), ⟨11, _, _, rfl, rfl⟩, ⟨2, rfl, by decide +kernel⟩, my_192⟩
theorem mpV_1_10 : mj_okV lw_tbl mj_CL "UnbeatenHouse" 170 mm_196 3 10 := ⟨Or.inl (List.mem_of_getElem? (i := 859) (by decide +kernel)), List.mem_of_getElem? (i := 860) (by decide +kernel), List.mem_of_getElem? (i := 861) (by decide +kernel), ⟨9, _, _, rfl, rfl⟩, ⟨2, rfl, by decide +kernel⟩, my_196⟩
theorem mpV_1_11 : mj_okV lw_tbl mj_CL "UnbeatenHouse" 194 mm_176 3 10 := ⟨Or.inl (List.mem_of_getElem? (i := 891) (by decide +kernel)), List.mem_of_getElem? (i := 782) (by decide +kernel), List.mem_of_getElem? (i := 783) (by decide +kernel), ⟨9, _, _, rfl, rfl⟩, ⟨2, rfl, by decide +kernel⟩, my_176⟩
theorem mpV_1_12 : mj_okV lw_tbl mj_CL "UnbeatenHouse" 198 mm_177 2 10 := ⟨Or.inl (List.mem_of_getElem? (i := 896) (by decide +kernel)), List.mem_of_getElem? (i := 786) (by decide +kernel), List.mem_of_getElem? (i := 787) (by decide +kernel), ⟨9, _, _, rfl, rfl⟩, ⟨1, rfl, by decide +kernel⟩, my_177⟩
theorem mpV_1_13 : mj_okV lw_tbl mj_CL "UnbeatenHouse" 201 mm_179 5 10 := ⟨Or.inl (List.mem_of_getElem? (i := 897) (by decide +kernel)), List.mem_of_getElem? (i := 793) (by decide +kernel), List.mem_of_getElem? (i := 794) (by decide +kernel), ⟨9, _, _, rfl, rfl⟩, ⟨4, rfl, by decide +kernel⟩, my_179⟩
theorem mpV_1_14 : mj_okV lw_tbl mj_CL "UnbeatenHouse" 205 mm_204 2 10 := ⟨Or.inl (List.mem_of_getElem? (i := 902) (by decide +kernel)), List.mem_of_getElem? (i := 903) (by decide +kernel), List.mem_of_getElem? (i := 904) (by decide +kernel), ⟨9, _, _, rfl, rfl⟩, ⟨1, rfl, by decide +kernel⟩, my_204⟩
theorem mpV_1_15 : mj_okV lw_tbl mj_CL "UnbeatenHouse" 210 mm_206 3 2 := ⟨Or.inl (List.mem_of_getElem? (i := 914) (by decide +kernel)), List.mem_of_getElem? (i := 916) (by decide +kernel), List.mem_of_getElem? (i := 31) (by decide +kernel), ⟨1, _, _, rfl, rfl⟩, ⟨2, rfl, by decide +kernel⟩, my_206⟩
theorem mpV_1_16 : mj_okV lw_tbl mj_CL "UnbeatenHouse" 217 mm_207 5 4 := ⟨Or.inl (List.mem_of_getElem? (i := 918) (by decide +kernel)), List.mem_of_getElem? (i := 919) (by decide +kernel), List.mem_of_getElem? (i := 920) (by decide +kernel), ⟨3, _, _, rfl, rfl⟩, ⟨4, rfl, by decide +kernel⟩, my_207⟩
theorem mpV_1_17 : mj_okV lw_tbl mj_CL "UnbeatenHouse" 221 mm_213 3 8 := ⟨Or.inl (List.mem_of_getElem? (i := 945) (by decide +kernel)), List.mem_of_getElem? (i := 946) (by decide +kernel), List.mem_of_getElem? (i := 947) (by decide +kernel), ⟨7, _, _, rfl, rfl⟩, ⟨2, rfl, by decide +kernel⟩, my_213⟩
theorem mpV_1_18 : mj_okV lw_tbl mj_CL "UnbeatenHouse" 224 mm_219 2 3 := ⟨Or.inl (List.mem_of_getElem? (i := 972) (by decide +kernel)), List.mem_of_getElem? (i := 973) (by decide +kernel), List.mem_of_getElem? (i := 974) (by decide +kernel), ⟨2, _, _, rfl, rfl⟩, ⟨1, rfl, by decide +kernel⟩, my_219⟩
theorem mpV_1_19 : mj_okV lw_tbl mj_CL "UnbeatenHouse" 213 mm_220 1 2 := ⟨Or.inl (List.mem_of_getElem? (i := 977) (by decide +kernel)), List.mem_of_getElem? (i := 979) (by decide +kernel), List.mem_of_getElem? (i := 39) (by decide +kernel), ⟨1, _, _, rfl, rfl⟩, ⟨0, rfl, by decide +kernel⟩, my_220⟩
theorem mpV_1_20 : mj_okV lw_tbl mj_CL "UnbeatenHouse" 227 mm_221 3 4 := ⟨Or.inl (List.mem_of_getElem? (i := 981) (by decide +kernel)), List.mem_of_getElem? (i := 982) (by decide +kernel), List.mem_of_getElem? (i := 983) (by decide +kernel), ⟨3, _, _, rfl, rfl⟩, ⟨2, rfl, by decide +kernel⟩, my_221⟩
theorem mpV_1_21 : mj_okV lw_tbl mj_CL "UnbeatenHouse" 231 mm_231 2 3 := ⟨Or.inl (List.mem_of_getElem? (i := 1037) (by decide +kernel)), List.mem_of_getElem? (i := 1038) (by decide +kernel), List.mem_of_getElem? (i := 1039) (by decide +kernel), ⟨2, _, _, rfl, rfl⟩, ⟨1, rfl, by decide +kernel⟩, my_231⟩
theorem mpV_1_22 : mj_okV lw_tbl mj_CL "UnbeatenHouse" 252 mm_238 4 13 := ⟨Or.inl (List.mem_of_getElem? (i := 1065) (by decide +kernel)), List.mem_of_getElem? (i := 1066) (by decide +kernel), List.mem_of_getElem? (i := 1067) (by decide +kernel), ⟨12, _, _, rfl, rfl⟩, ⟨3, rfl, by decide +kernel⟩, my_238⟩
theorem mpV_1_23 : mj_okV lw_tbl mj_CL "UnbeatenHouse" 259 mm_242 1 3 := ⟨Or.inl (List.mem_of_getElem? (i := 1081) (by decide +kernel)), List.mem_of_getElem? (i := 1082) (by decide +kernel), List.mem_of_getElem? (i := 1083) (by decide +kernel), ⟨2, _, _, rfl, rfl⟩, ⟨0, rfl, by decide +kernel⟩, my_242⟩
theorem mpV_1_24 : mj_okV lw_tbl mj_CL "UnbeatenHouse" 263 mm_243 4 7 := ⟨Or.inl (List.mem_of_getElem? (i := 1085) (by decide +kernel)), List.mem_of_getElem? (i := 1086) (by decide +kernel), List.mem_of_getElem? (i := 1087) (by decide +kernel), ⟨6, _, _, rfl, rfl⟩, ⟨3, rfl, by decide +kernel⟩, my_243⟩
theorem mpV_1_25 : mj_okV lw_tbl mj_CL "UnbeatenHouse" 267 mm_250 4 7 := ⟨Or.inl (List.mem_of_getElem? (i := 1117) (by decide +kernel)), List.mem_of_getElem? (i := 1118) (by decide +kernel), List.mem_of_getElem? (i := 1119) (by decide +kernel), ⟨6, _, _, rfl, rfl⟩, ⟨3, rfl, by decide +kernel⟩, my_250⟩
theorem mpV_1_26 : mj_okV lw_tbl mj_CL "UnbeatenHouse" 276 mm_245 4 3 := ⟨Or.inl (List.mem_of_getElem? (i := 1129) (by decide +kernel)), List.mem_of_getElem? (i := 1095) (by decide +kernel), List.mem_of_getElem? (i := 1096) (by decide +kernel), ⟨2, _, _, rfl, rfl⟩, ⟨3, rfl, by decide +kernel⟩, my_245⟩
theorem mpV_1_27 : mj_okV lw_tbl mj_CL "UnbeatenHouse" 288 mm_255 3 3 := ⟨Or.inl (List.mem_of_getElem? (i := 1138) (by decide +kernel)), List.mem_of_getElem? (i := 1139) (by decide +kernel), List.mem_of_getElem? (i := 1140) (by decide +kernel), ⟨2, _, _, rfl, rfl⟩, ⟨2, rfl, by decide +kernel⟩, my_255⟩
theorem mpV_1_28 : mj_okV lw_tbl mj_CL "UnbeatenHouse" 293 mm_257 3 11 := ⟨Or.inl (List.mem_of_getElem? (i := 1148) (by decide +kernel)), List.mem_of_getElem? (i := 1149) (by decide +kernel), List.mem_of_getElem? (i := 1150) (by decide +kernel), ⟨10, _, _, rfl, rfl⟩, ⟨2, rfl, by decide +kernel⟩, my_257⟩
theorem mpV_1_29 : mj_okV lw_tbl mj_CL "UnbeatenHouse" 296 mm_260 4 11 := ⟨Or.inl (List.mem_of_getElem? (i := 1160) (by decide +kernel)), List.mem_of_getElem? (i := 1161) (by decide +kernel), List.mem_of_getElem? (i := 1162) (by decide +kernel), ⟨10, _, _, rfl, rfl⟩, ⟨3, rfl, by decide +kernel⟩, my_260⟩
theorem mpV_1_30 : mj_okV lw_tbl mj_CL "UnbeatenHouse" 300 mm_263 4 10 := ⟨Or.inl (List.mem_of_getElem? (i := 1174) (by decide +kernel)), List.mem_of_getElem? (i := 1175) (by decide +kernel), List.mem_of_getElem? (i := 1176) (by decide +kernel), ⟨9, _, _, rfl, rfl⟩, ⟨3, rfl, by decide +kernel⟩, my_263⟩
theorem mpV_1_31 : mj_okV lw_tbl mj_CL "UnbeatenHouse" 304 mm_265 3 11 := ⟨Or.inl (List.mem_of_getElem? (i := 1185) (by decide +kernel)), List.mem_of_getElem? (i := 1186) (by decide +kernel), List.mem_of_getElem? (i := 1187) (by decide +kernel), ⟨10, _, _, rfl, rfl⟩, ⟨2, rfl, by decide +kernel⟩, my_265⟩
theorem mpV_1_32 : mj_okV lw_tbl mj_CL "UnbeatenHouse" 317 mm_269 3 11 := ⟨Or.inl (List.mem_of_getElem? (i := 1206) (by decide +kernel)), List.mem_of_getElem? (i := 1207) (by decide +kernel), List.mem_of_getElem? (i := 1208) (by decide +kernel), ⟨10, _, _, rfl, rfl⟩, ⟨2, rfl, by decide +kernel⟩, my_269⟩
theorem mpV_1_33 : mj_okV lw_tbl mj_CL "UnbeatenHouse" 339 mm_279 2 6 := ⟨Or.inl (List.mem_of_getElem? (i := 1251) (by decide +kernel)), List.mem_of_getElem? (i := 1252) (by decide +kernel), List.mem_of_getElem? (i := 1253) (by decide +kernel), ⟨5, _, _, rfl, rfl⟩, ⟨1, rfl, by decide +kernel⟩, my_279⟩
theorem mpV_1_34 : mj_okV lw_tbl mj_CL "UnbeatenHouse" 346 mm_281 3 6 := ⟨Or.inl (List.mem_of_getElem? (i := 1260) (by decide +kernel)), List.mem_of_getElem? (i := 1261) (by decide +kernel), List.mem_of_getElem? (i := 1262) (by decide +kernel), ⟨5, _, _, rfl, rfl⟩, ⟨2, rfl, by decide +kernel⟩, my_281⟩
theorem mpV_1_35 : mj_okV lw_tbl mj_CL "UnbeatenHouse" 350 mm_288 2 6 := ⟨Or.inl (List.mem_of_getElem? (i := 1290) (by decide +kernel)), List.mem_of_getElem? (i := 1291) (by decide +kernel), List.mem_of_getElem? (i := 1292) (by decide +kernel), ⟨5, _, _, rfl, rfl⟩, ⟨1, rfl, by decide +kernel⟩, my_288⟩
theorem mpV_1_36 : mj_okV lw_tbl mj_CL "UnbeatenHouse" 354 mm_286 4 6 := ⟨Or.inl (List.mem_of_getElem? (i := 1307) (by decide +kernel)), List.mem_of_getElem? (i := 1282) (by decide +kernel), List.mem_of_getElem? (i := 1283) (by decide +kernel), ⟨5, _, _, rfl, rfl⟩, ⟨3, rfl, by decide +kernel⟩, my_286⟩
theorem mpS_1_0 : mj_okS lw_tbl "UnbeatenHouse" 156 mm_193 2 := ⟨Or.inl (List.mem_of_getElem? (i := 847) (by decide +kernel)), List.mem_of_getElem? (i := 848) (by decide +kernel), by decide +kernel, my_193⟩
theorem mpS_1_1 : mj_okS lw_tbl "UnbeatenHouse" 163 mm_154 3 := ⟨Or.inl (List.mem_of_getElem? (i := 854) (by decide +kernel)), List.mem_of_getElem? (i := 691) (by decide +kernel), by decide +kernel, my_154⟩
theorem mpS_1_2 : mj_okS lw_tbl "UnbeatenHouse" 176 mm_178 2 := ⟨Or.inl (List.mem_of_getElem? (i := 867) (by decide +kernel)), List.mem_of_getElem? (i := 790) (by decide +kernel), by decide +kernel, my_178⟩
theorem mpS_1_3 : mj_okS lw_tbl "UnbeatenHouse" 182 mm_2 1 := ⟨Or.inl (List.mem_of_getElem? (i := 873) (by decide +kernel)), List.mem_of_getElem? (i := 874) (by decide +kernel), by decide +kernel, my_2⟩
theorem mpS_1_4 : mj_okS lw_tbl "UnbeatenHouse" 244 mm_233 1 := ⟨Or.inl (List.mem_of_getElem? (i := 1046) (by decide +kernel)), List.mem_of_getElem? (i := 1047) (by decide +kernel), by decide +kernel, my_233⟩
theorem mpS_1_5 : mj_okS lw_tbl "UnbeatenHouse" 247 mm_235 2 := ⟨Or.inl (List.mem_of_getElem? (i := 1054) (by decide +kernel)), List.mem_of_getElem? (i := 1055) (by decide +kernel), by decide +kernel, my_235⟩
theorem mpS_1_6 : mj_okS lw_tbl "UnbeatenHouse" 279 mm_253 2 := ⟨Or.inl (List.mem_of_getElem? (i := 1130) (by decide +kernel)), List.mem_of_getElem? (i := 1131) (by decide +kernel), by decide +kernel, my_253⟩
theorem mpS_1_7 : mj_okS lw_tbl "UnbeatenHouse" 283 mm_5 2 := ⟨Or.inl (List.mem_of_getElem? (i := 1133) (by decide +kernel)), List.mem_of_getElem? (i := 1023) (by decide +kernel), by decide +kernel, my_5⟩
theorem mpS_1_8 : mj_okS lw_tbl "UnbeatenHouse" 291 mm_1 2 := ⟨Or.inl (List.mem_of_getElem? (i := 1143) (by decide +kernel)), List.mem_of_getElem? (i := 734) (by decide +kernel), by decide +kernel, my_1⟩
theorem mpS_1_9 : mj_okS lw_tbl "UnbeatenHouse" 321 mm_7 1 := ⟨Or.inl (List.mem_of_getElem? (i := 1226) (by decide +kernel)), List.mem_of_getElem? (i := 1227) (by decide +kernel), by decide +kernel, my_7⟩
theorem mpS_1_10 : mj_okS lw_tbl "UnbeatenHouse" 324 mm_275 1 := ⟨Or.inl (List.mem_of_getElem? (i := 1237) (by decide +kernel)), List.mem_of_getElem? (i := 1238) (by decide +kernel), by decide +kernel, my_275⟩
theorem mpS_1_11 : mj_okS lw_tbl "UnbeatenHouse" 327 mm_276 3 := ⟨Or.inl (List.mem_of_getElem? (i := 1240) (by decide +kernel)), List.mem_of_getElem? (i := 1241) (by decide +kernel), by decide +kernel, my_276⟩
theorem mpC_1_0 : Cond.constant "UnbeatenHouse" 236 (-2000000000) ∈ lw_tbl := List.mem_of_getElem? (i := 1041) (by decide +kernel)
theorem mpL_1_0 : Cond.constantLong "UnbeatenHouse" 180 (-1) ∈ lw_tbl := List.mem_of_getElem? (i := 872) (by decide +kernel)
theorem mpq_1 : mj_okQ lw_tbl mj_CL mj_MS "UnbeatenHouse" mp_1 := ⟨List.forall_mem_cons.mpr ⟨mpF_1_0, List.forall_mem_cons.mpr ⟨mpF_1_1, List.forall_mem_cons.mpr ⟨mpF_1_2, List.forall_mem_cons.mpr ⟨mpF_1_3, List.forall_mem_cons.mpr ⟨mpF_1_4, List.forall_mem_cons.mpr ⟨mpF_1_5, List.forall_mem_cons.mpr ⟨mpF_1_6, List.forall_mem_cons.mpr ⟨mpF_1_7, List.forall_mem_cons.mpr ⟨mpF_1_8, List.forall_mem_cons.mpr ⟨mpF_1_9, List.forall_mem_cons.mpr ⟨mpF_1_10, List.forall_mem_cons.mpr ⟨mpF_1_11, List.forall_mem_cons.mpr ⟨mpF_1_12, List.forall_mem_cons.mpr ⟨mpF_1_13, List.forall_mem_cons.mpr ⟨mpF_1_14, List.forall_mem_cons.mpr ⟨mpF_1_15, List.forall_mem_cons.mpr ⟨mpF_1_16, List.forall_mem_cons.mpr ⟨mpF_1_17, List.forall_mem_cons.mpr ⟨mpF_1_18, List.forall_mem_cons.mpr ⟨mpF_1_19, List.forall_mem_cons.mpr ⟨mpF_1_20, List.forall_mem_cons.mpr ⟨mpF_1_21, List.forall_mem_cons.mpr ⟨mpF_1_22, List.forall_mem_cons.mpr ⟨mpF_1_23, List.forall_mem_cons.mpr ⟨mpF_1_24, List.forall_mem_cons.mpr ⟨mpF_1_25, List.forall_mem_cons.mpr ⟨mpF_1_26, List.forall_mem_cons.mpr ⟨mpF_1_27, List.forall_mem_cons.mpr ⟨mpF_1_28, List.forall_mem_cons.mpr ⟨mpF_1_29, List.forall_mem_cons.mpr ⟨mpF_1_30, List.forall_mem_cons.mpr ⟨mpF_1_31, List.forall_mem_cons.mpr ⟨mpF_1_32, List.forall_mem_cons.mpr ⟨mpF_1_33, List.forall_mem_cons.mpr ⟨mpF_1_34, List.forall_mem_cons.mpr ⟨mpF_1_35, List.forall_mem_cons.mpr ⟨mpF_1_36, List.forall_mem_cons.mpr ⟨mpF_1_37, List.forall_mem_cons.mpr ⟨mpF_1_38, List.forall_mem_cons.mpr ⟨mpF_1_39, List.forall_mem_cons.mpr ⟨mpF_1_40, List.forall_mem_cons.mpr ⟨mpF_1_41, List.forall_mem_cons.mpr ⟨mpF_1_42, List.forall_mem_cons.mpr ⟨mpF_1_43, fun _ h => absurd h List.not_mem_nil⟩⟩⟩⟩⟩⟩⟩⟩⟩⟩⟩⟩⟩⟩⟩⟩⟩⟩⟩⟩⟩⟩⟩⟩⟩⟩⟩⟩⟩⟩⟩⟩⟩⟩⟩⟩⟩⟩⟩⟩⟩⟩⟩⟩, List.forall_mem_cons.mpr ⟨mpV_1_0, List.forall_mem_cons.mpr ⟨mpV_1_1, List.forall_mem_cons.mpr ⟨mpV_1_2, List.forall_mem_cons.mpr ⟨mpV_1_3, List.forall_mem_cons.mpr ⟨mpV_1_4, List.forall_mem_cons.mpr ⟨mpV_1_5, List.forall_mem_cons.mpr ⟨mpV_1_6, List.forall_mem_cons.mpr ⟨mpV_1_7, List.forall_mem_cons.mpr ⟨mpV_1_8, List.forall_mem_cons.mpr ⟨mpV_1_9, List.forall_mem_cons.mpr ⟨mpV_1_10, List.forall_mem_cons.mpr ⟨mpV_1_11, List.forall_mem_cons.mpr ⟨mpV_1_12, List.forall_mem_cons.mpr ⟨mpV_1_13, List.forall_mem_cons.mpr ⟨mpV_1_14, List.forall_mem_cons.mpr ⟨mpV_1_15, List.forall_mem_cons.mpr ⟨mpV_1_16, List.forall_mem_cons.mpr ⟨mpV_1_17, List.forall_mem_cons.mpr ⟨mpV_1_18, List.forall_mem_cons.mpr ⟨mpV_1_19, List.forall_mem_cons.mpr ⟨mpV_1_20, List.forall_mem_cons.mpr ⟨mpV_1_21, List.forall_mem_cons.mpr ⟨mpV_1_22, List.forall_mem_cons.mpr ⟨mpV_1_23, List.forall_mem_cons.mpr ⟨mpV_1_24, List.forall_mem_cons.mpr ⟨mpV_1_25, List.forall_mem_cons.mpr ⟨mpV_1_26, List.forall_mem_cons.mpr ⟨mpV_1_27, List.forall_mem_cons.mpr ⟨mpV_1_28, List.forall_mem_cons.mpr ⟨mpV_1_29, List.forall_mem_cons.mpr ⟨mpV_1_30, List.forall_mem_cons.mpr ⟨mpV_1_31, List.forall_mem_cons.mpr ⟨mpV_1_32, List.forall_mem_cons.mpr ⟨mpV_1_33, List.forall_mem_cons.mpr ⟨mpV_1_34, List.forall_mem_cons.mpr ⟨mpV_1_35, List.forall_mem_cons.mpr ⟨mpV_1_36, fun _ h => absurd h List.not_mem_nil⟩⟩⟩⟩⟩⟩⟩⟩⟩⟩⟩⟩⟩⟩⟩⟩⟩⟩⟩⟩⟩⟩⟩⟩⟩⟩⟩⟩⟩⟩⟩⟩⟩⟩⟩⟩⟩, List.forall_mem_cons.mpr ⟨mpS_1_0, List.forall_mem_cons.mpr ⟨mpS_1_1, List.forall_mem_cons.mpr ⟨mpS_1_2, List.forall_mem_cons.mpr ⟨mpS_1_3, List.forall_mem_cons.mpr ⟨mpS_1_4, List.forall_mem_cons.mpr ⟨mpS_1_5, List.forall_mem_cons.mpr ⟨mpS_1_6, List.forall_mem_cons.mpr ⟨mpS_1_7, List.forall_mem_cons.mpr ⟨mpS_1_8, List.forall_mem_cons.mpr ⟨mpS_1_9, List.forall_mem_cons.mpr ⟨mpS_1_10, List.forall_mem_cons.mpr ⟨mpS_1_11, fun _ h => absurd h List.not_mem_nil⟩⟩⟩⟩⟩⟩⟩⟩⟩⟩⟩⟩, List.forall_mem_cons.mpr ⟨mpC_1_0, fun _ h => absurd h List.not_mem_nil⟩, List.forall_mem_cons.mpr ⟨mpL_1_0, fun _ h => absurd h List.not_mem_nil⟩, fun _ h => absurd h List.not_mem_nil⟩
def mp_2 : mj_Q := ([(9, 2, 0, false), (27, 2, 1, false), (15, 2, 2, true), (19, 2, 3, true)], [(23, 182, 2, 3), (36, 205, 4, 3), (44, 245, 4, 3)], [(40, 180, 5)], [], [(48, 15)], [30])
theorem mpF_2_0 : mj_okF lw_tbl mj_CL "UnbeatenHouse$Front" 9 2 0 ∧ (false = false → ∃ q, mj_CL[2]? = some q ∧ (q.2.1 0).2.2.2 = false) := ⟨⟨_, _, _, rfl, by decide, Or.inl (List.mem_of_getElem? (i := 420) (by decide +kernel))⟩, fun _ => ⟨_, rfl, by decide +kernel⟩⟩
theorem mpF_2_1 : mj_okF lw_tbl mj_CL "UnbeatenHouse$Front" 27 2 1 ∧ (false = false → ∃ q, mj_CL[2]? = some q ∧ (q.2.1 1).2.2.2 = false) := ⟨⟨_, _, _, rfl, by decide, Or.inl (List.mem_of_getElem? (i := 422) (by decide +kernel))⟩, fun _ => ⟨_, rfl, by decide +kernel⟩⟩
theorem mpF_2_2 : mj_okF lw_tbl mj_CL "UnbeatenHouse$Front" 15 2 2 ∧ (true = false → ∃ q, mj_CL[2]? = some q ∧ (q.2.1 2).2.2.2 = false) := ⟨⟨_, _, _, rfl, by decide, Or.inl (List.mem_of_getElem? (i := 427) (by decide +kernel))⟩, fun h => absurd h (by decide)⟩
theorem mpF_2_3 : mj_okF lw_tbl mj_CL "UnbeatenHouse$Front" 19 2 3 ∧ (true = false → ∃ q, mj_CL[2]? = some q ∧ (q.2.1 3).2.2.2 = false) := ⟨⟨_, _, _, rfl, by decide, Or.inl (List.mem_of_getElem? (i := 430) (by decide +kernel))⟩, fun h => absurd h (by decide)⟩
theorem mpV_2_0 : mj_okV lw_tbl mj_CL "UnbeatenHouse$Front" 23 mm_182 2 3 := ⟨Or.inl (List.mem_of_getElem? (i := 803) (by decide +kernel)), List.mem_of_getElem? (i := 804) (by decide +kernel), List.mem_of_getElem? (i := 805) (by decide +kernel), ⟨2, _, _, rfl, rfl⟩, ⟨1, rfl, by decide +kernel⟩, my_182⟩
theorem mpV_2_1 : mj_okV lw_tbl mj_CL "UnbeatenHouse$Front" 36 mm_205 4 3 := ⟨Or.inl (List.mem_of_getElem? (i := 976) (by decide +kernel)), List.mem_of_getElem? (i := 908) (by decide +kernel), List.mem_of_getElem? (i := 909) (by decide +kernel), ⟨2, _, _, rfl, rfl⟩, ⟨3, rfl, by decide +kernel⟩, my_205⟩
theorem mpV_2_2 : mj_okV lw_tbl mj_CL "UnbeatenHouse$Front" 44 mm_245 4 3 := ⟨Or.inl (List.mem_of_getElem? (i := 1142) (by decide +kernel)), List.mem_of_getElem? (i := 1095) (by decide +kernel), List.mem_of_getElem? (i := 1096) (by decide +kernel), ⟨2, _, _, rfl, rfl⟩, ⟨3, rfl, by decide +kernel⟩, my_245⟩
theorem mpS_2_0 : mj_okS lw_tbl "UnbeatenHouse$Front" 40 mm_180 5 := ⟨Or.inr ⟨"UnbeatenHouse", List.mem_of_getElem? (i := 970) (by decide +kernel)⟩, List.mem_of_getElem? (i := 797) (by decide +kernel), by decide +kernel, my_180⟩
theorem mpL_2_0 : Cond.constantLong "UnbeatenHouse$Front" 48 15 ∈ lw_tbl := List.mem_of_getElem? (i := 1049) (by decide +kernel)
theorem mpA_2_0 : mj_okC lw_tbl "UnbeatenHouse$Front" 30 := ⟨List.mem_of_getElem? (i := 911) (by decide +kernel), List.mem_of_getElem? (i := 913) (by decide +kernel), List.mem_of_getElem? (i := 912) (by decide +kernel), List.mem_of_getElem? (i := 154) (by decide +kernel)⟩
theorem mpq_2 : mj_okQ lw_tbl mj_CL mj_MS "UnbeatenHouse$Front" mp_2 := ⟨List.forall_mem_cons.mpr ⟨mpF_2_0, List.forall_mem_cons.mpr ⟨mpF_2_1, List.forall_mem_cons.mpr ⟨mpF_2_2, List.forall_mem_cons.mpr ⟨mpF_2_3, fun _ h => absurd h List.not_mem_nil⟩⟩⟩⟩, List.forall_mem_cons.mpr ⟨mpV_2_0, List.forall_mem_cons.mpr ⟨mpV_2_1, List.forall_mem_cons.mpr ⟨mpV_2_2, fun _ h => absurd h List.not_mem_nil⟩⟩⟩, List.forall_mem_cons.mpr ⟨mpS_2_0, fun _ h => absurd h List.not_mem_nil⟩, fun _ h => absurd h List.not_mem_nil, List.forall_mem_cons.mpr ⟨mpL_2_0, fun _ h => absurd h List.not_mem_nil⟩, List.forall_mem_cons.mpr ⟨mpA_2_0, fun _ h => absurd h List.not_mem_nil⟩⟩
def mp_3 : mj_Q := ([(25, 11, 1, true), (58, 11, 4, true), (51, 11, 6, true), (48, 11, 7, true), (12, 3, 0, true), (18, 3, 1, true), (22, 3, 2, true)], [(30, 208, 2, 8), (36, 209, 8, 4), (40, 210, 3, 4), (65, 175, 3, 12), (44, 211, 3, 8), (54, 212, 4, 4), (69, 222, 3, 4), (72, 223, 4, 5)], [(61, 154, 3)], [], [], [])
theorem mpF_3_0 : mj_okF lw_tbl mj_CL "UnbeatenHouse$Gatherer" 25 11 1 ∧ (true = false → ∃ q, mj_CL[11]? = some q ∧ (q.2.1 1).2.2.2 = false) := ⟨⟨_, _, _, rfl, by decide, Or.inr ⟨"UnbeatenHouse", List.mem_of_getElem? (i := 175) (by decide +kernel)⟩⟩, fun h => absurd h (by decide)⟩
theorem mpF_3_1 : mj_okF lw_tbl mj_CL "UnbeatenHouse$Gatherer" 58 11 4 ∧ (true = false → ∃ q, mj_CL[11]? = some q ∧ (q.2.1 4).2.2.2 = false) := ⟨⟨_, _, _, rfl, by decide, Or.inr ⟨"UnbeatenHouse", List.mem_of_getElem? (i := 185) (by decide +kernel)⟩⟩, fun h => absurd h (by decide)⟩
theorem mpF_3_2 : mj_okF lw_tbl mj_CL "UnbeatenHouse$Gatherer" 51 11 6 ∧ (true = false → ∃ q, mj_CL[11]? = some q ∧ (q.2.1 6).2.2.2 = false) := ⟨⟨_, _, _, rfl, by decide, Or.inr ⟨"UnbeatenHouse", List.mem_of_getElem? (i := 193) (by decide +kernel)⟩⟩, fun h => absurd h (by decide)⟩
theorem mpF_3_3 : mj_okF lw_tbl mj_CL "UnbeatenHouse$Gatherer" 48 11 7 ∧ (true = false → ∃ q, mj_CL[11]? = some q ∧ (q.2.1 7).2.2.2 = false) := ⟨⟨_, _, _, rfl, by decide, Or.inr ⟨"UnbeatenHouse", List.mem_of_getElem? (i := 196) (by decide +kernel)⟩⟩, fun h => absurd h (by decide)⟩
theorem mpF_3_4 : mj_okF lw_tbl mj_CL "UnbeatenHouse$Gatherer" 12 3 0 ∧ (true = false → ∃ q, mj_CL[3]? = some q ∧ (q.2.1 0).2.2.2 = false) := ⟨⟨_, _, _, rfl, by decide, Or.inl (List.mem_of_getElem? (i := 404) (by decide +kernel))⟩, fun h => absurd h (by decide)⟩
theorem mpF_3_5 : mj_okF lw_tbl mj_CL "UnbeatenHouse$Gatherer" 18 3 1 ∧ (true = false → ∃ q, mj_CL[3]? = some q ∧ (q.2.1 1).2.2.2 = false) := ⟨⟨_, _, _, rfl, by decide, Or.inl (List.mem_of_getElem? (i := 405) (by decide +kernel))⟩, fun h => absurd h (by decide)⟩
theorem mpF_3_6 : mj_okF lw_tbl mj_CL "UnbeatenHouse$Gatherer" 22 3 2 ∧ (true = false → ∃ q, mj_CL[3]? = some q ∧ (q.2.1 2).2.2.2 = false) := ⟨⟨_, _, _, rfl, by decide, Or.inl (List.mem_of_getElem? (i := 406) (by decide +kernel))⟩, fun h => absurd h (by decide)⟩
theorem mpV_3_0 : mj_okV lw_tbl mj_CL "UnbeatenHouse$Gatherer" 30 mm_208 2 8 := ⟨Or.inl (List.mem_of_getElem? (i := 922) (by decide +kernel)), List.mem_of_getElem? (i := 923) (by decide +kernel), List.mem_of_getElem? (i := 924) (by decide +kernel), ⟨7, _, _, rfl, rfl⟩, ⟨1, rfl, by decide +kernel⟩, my_208⟩
theorem mpV_3_1 : mj_okV lw_tbl mj_CL "UnbeatenHouse$Gatherer" 36 mm_209 8 4 := ⟨Or.inl (List.mem_of_getElem? (i := 926) (by decide +kernel)), List.mem_of_getElem? (i := 928) (by decide +kernel), List.mem_of_getElem? (i := 32) (by decide +kernel), ⟨3, _, _, rfl, rfl⟩, ⟨7, rfl, by decide +kernel⟩, my_209⟩
theorem mpV_3_2 : mj_okV lw_tbl mj_CL "UnbeatenHouse$Gatherer" 40 mm_210 3 4 := ⟨Or.inl (List.mem_of_getElem? (i := 930) (by decide +kernel)), List.mem_of_getElem? (i := 932) (by decide +kernel), List.mem_of_getElem? (i := 33) (by decide +kernel), ⟨3, _, _, rfl, rfl⟩, ⟨2, rfl, by decide +kernel⟩, my_210⟩
theorem mpV_3_3 : mj_okV lw_tbl mj_CL "UnbeatenHouse$Gatherer" 65 mm_175 3 12 := ⟨Or.inl (List.mem_of_getElem? (i := 934) (by decide +kernel)), List.mem_of_getElem? (i := 778) (by decide +kernel), List.mem_of_getElem? (i := 779) (by decide +kernel), ⟨11, _, _, rfl, rfl⟩, ⟨2, rfl, by decide +kernel⟩, my_175⟩
theorem mpV_3_4 : mj_okV lw_tbl mj_CL "UnbeatenHouse$Gatherer" 44 mm_211 3 8 := ⟨Or.inl (List.mem_of_getElem? (i := 935) (by decide +kernel)), List.mem_of_getElem? (i := 936) (by decide +kernel), List.mem_of_getElem? (i := 937) (by decide +kernel), ⟨7, _, _, rfl, rfl⟩, ⟨2, rfl, by decide +kernel⟩, my_211⟩
theorem mpV_3_5 : mj_okV lw_tbl mj_CL "UnbeatenHouse$Gatherer" 54 mm_212 4 4 := ⟨Or.inl (List.mem_of_getElem? (i := 940) (by decide +kernel)), List.mem_of_getElem? (i := 942) (by decide +kernel), List.mem_of_getElem? (i := 34) (by decide +kernel), ⟨3, _, _, rfl, rfl⟩, ⟨3, rfl, by decide +kernel⟩, my_212⟩
theorem mpV_3_6 : mj_okV lw_tbl mj_CL "UnbeatenHouse$Gatherer" 69 mm_222 3 4 := ⟨Or.inl (List.mem_of_getElem? (i := 985) (by decide +kernel)), List.mem_of_getElem? (i := 987) (by decide +kernel), List.mem_of_getElem? (i := 40) (by decide +kernel), ⟨3, _, _, rfl, rfl⟩, ⟨2, rfl, by decide +kernel⟩, my_222⟩
theorem mpV_3_7 : mj_okV lw_tbl mj_CL "UnbeatenHouse$Gatherer" 72 mm_223 4 5 := ⟨Or.inl (List.mem_of_getElem? (i := 989) (by decide +kernel)), List.mem_of_getElem? (i := 990) (by decide +kernel), List.mem_of_getElem? (i := 991) (by decide +kernel), ⟨4, _, _, rfl, rfl⟩, ⟨3, rfl, by decide +kernel⟩, my_223⟩
theorem mpS_3_0 : mj_okS lw_tbl "UnbeatenHouse$Gatherer" 61 mm_154 3 := ⟨Or.inl (List.mem_of_getElem? (i := 944) (by decide +kernel)), List.mem_of_getElem? (i := 691) (by decide +kernel), by decide +kernel, my_154⟩
theorem mpq_3 : mj_okQ lw_tbl mj_CL mj_MS "UnbeatenHouse$Gatherer" mp_3 := ⟨List.forall_mem_cons.mpr ⟨mpF_3_0, List.forall_mem_cons.mpr ⟨mpF_3_1, List.forall_mem_cons.mpr ⟨mpF_3_2, List.forall_mem_cons.mpr ⟨mpF_3_3, List.forall_mem_cons.mpr ⟨mpF_3_4, List.forall_mem_cons.mpr ⟨mpF_3_5, List.forall_mem_cons.mpr ⟨mpF_3_6, fun _ h => absurd h List.not_mem_nil⟩⟩⟩⟩⟩⟩⟩, List.forall_mem_cons.mpr ⟨mpV_3_0, List.forall_mem_cons.mpr ⟨mpV_3_1, List.forall_mem_cons.mpr ⟨mpV_3_2, List.forall_mem_cons.mpr ⟨mpV_3_3, List.forall_mem_cons.mpr ⟨mpV_3_4, List.forall_mem_cons.mpr ⟨mpV_3_5, List.forall_mem_cons.mpr ⟨mpV_3_6, List.forall_mem_cons.mpr ⟨mpV_3_7, fun _ h => absurd h List.not_mem_nil⟩⟩⟩⟩⟩⟩⟩⟩, List.forall_mem_cons.mpr ⟨mpS_3_0, fun _ h => absurd h List.not_mem_nil⟩, fun _ h => absurd h List.not_mem_nil, fun _ h => absurd h List.not_mem_nil, fun _ h => absurd h List.not_mem_nil⟩
def mp_4 : mj_Q := ([(15, 11, 1, true), (27, 11, 8, true), (24, 11, 10, true), (11, 4, 0, true), (20, 4, 1, false)], [(30, 224, 5, 5), (38, 225, 2, 5), (34, 226, 1, 5)], [(42, 3, 1), (48, 227, 3), (52, 228, 1), (76, 4, 2), (79, 5, 2), (56, 6, 2), (62, 0, 2), (65, 1, 2), (68, 229, 3)], [], [(72, (-1000000000)), (74, 1000000000)], [])
theorem mpF_4_0 : mj_okF lw_tbl mj_CL "UnbeatenHouse$Judge" 15 11 1 ∧ (true = false → ∃ q, mj_CL[11]? = some q ∧ (q.2.1 1).2.2.2 = false) := ⟨⟨_, _, _, rfl, by decide, Or.inr ⟨"UnbeatenHouse", List.mem_of_getElem? (i := 176) (by decide +kernel)⟩⟩, fun h => absurd h (by decide)⟩
theorem mpF_4_1 : mj_okF lw_tbl mj_CL "UnbeatenHouse$Judge" 27 11 8 ∧ (true = false → ∃ q, mj_CL[11]? = some q ∧ (q.2.1 8).2.2.2 = false) := ⟨⟨_, _, _, rfl, by decide, Or.inr ⟨"UnbeatenHouse", List.mem_of_getElem? (i := 199) (by decide +kernel)⟩⟩, fun h => absurd h (by decide)⟩
theorem mpF_4_2 : mj_okF lw_tbl mj_CL "UnbeatenHouse$Judge" 24 11 10 ∧ (true = false → ∃ q, mj_CL[11]? = some q ∧ (q.2.1 10).2.2.2 = false) := ⟨⟨_, _, _, rfl, by decide, Or.inr ⟨"UnbeatenHouse", List.mem_of_getElem? (i := 203) (by decide +kernel)⟩⟩, fun h => absurd h (by decide)⟩
theorem mpF_4_3 : mj_okF lw_tbl mj_CL "UnbeatenHouse$Judge" 11 4 0 ∧ (true = false → ∃ q, mj_CL[4]? = some q ∧ (q.2.1 0).2.2.2 = false) := ⟨⟨_, _, _, rfl, by decide, Or.inl (List.mem_of_getElem? (i := 397) (by decide +kernel))⟩, fun h => absurd h (by decide)⟩
theorem mpF_4_4 : mj_okF lw_tbl mj_CL "UnbeatenHouse$Judge" 20 4 1 ∧ (false = false → ∃ q, mj_CL[4]? = some q ∧ (q.2.1 1).2.2.2 = false) := ⟨⟨_, _, _, rfl, by decide, Or.inl (List.mem_of_getElem? (i := 398) (by decide +kernel))⟩, fun _ => ⟨_, rfl, by decide +kernel⟩⟩
theorem mpV_4_0 : mj_okV lw_tbl mj_CL "UnbeatenHouse$Judge" 30 mm_224 5 5 := ⟨Or.inl (List.mem_of_getElem? (i := 993) (by decide +kernel)), List.mem_of_getElem? (i := 995) (by decide +kernel), List.mem_of_getElem? (i := 41) (by decide +kernel), ⟨4, _, _, rfl, rfl⟩, ⟨4, rfl, by decide +kernel⟩, my_224⟩
theorem mpV_4_1 : mj_okV lw_tbl mj_CL "UnbeatenHouse$Judge" 38 mm_225 2 5 := ⟨Or.inl (List.mem_of_getElem? (i := 997) (by decide +kernel)), List.mem_of_getElem? (i := 999) (by decide +kernel), List.mem_of_getElem? (i := 42) (by decide +kernel), ⟨4, _, _, rfl, rfl⟩, ⟨1, rfl, by decide +kernel⟩, my_225⟩
theorem mpV_4_2 : mj_okV lw_tbl mj_CL "UnbeatenHouse$Judge" 34 mm_226 1 5 := ⟨Or.inl (List.mem_of_getElem? (i := 1007) (by decide +kernel)), List.mem_of_getElem? (i := 1009) (by decide +kernel), List.mem_of_getElem? (i := 43) (by decide +kernel), ⟨4, _, _, rfl, rfl⟩, ⟨0, rfl, by decide +kernel⟩, my_226⟩
theorem mpS_4_0 : mj_okS lw_tbl "UnbeatenHouse$Judge" 42 mm_3 1 := ⟨Or.inl (List.mem_of_getElem? (i := 1001) (by decide +kernel)), List.mem_of_getElem? (i := 1002) (by decide +kernel), by decide +kernel, my_3⟩
theorem mpS_4_1 : mj_okS lw_tbl "UnbeatenHouse$Judge" 48 mm_227 3 := ⟨Or.inl (List.mem_of_getElem? (i := 1011) (by decide +kernel)), List.mem_of_getElem? (i := 1012) (by decide +kernel), by decide +kernel, my_227⟩
theorem mpS_4_2 : mj_okS lw_tbl "UnbeatenHouse$Judge" 52 mm_228 1 := ⟨Or.inl (List.mem_of_getElem? (i := 1014) (by decide +kernel)), List.mem_of_getElem? (i := 1015) (by decide +kernel), by decide +kernel, my_228⟩
theorem mpS_4_3 : mj_okS lw_tbl "UnbeatenHouse$Judge" 76 mm_4 2 := ⟨Or.inl (List.mem_of_getElem? (i := 1019) (by decide +kernel)), List.mem_of_getElem? (i := 1020) (by decide +kernel), by decide +kernel, my_4⟩
theorem mpS_4_4 : mj_okS lw_tbl "UnbeatenHouse$Judge" 79 mm_5 2 := ⟨Or.inl (List.mem_of_getElem? (i := 1022) (by decide +kernel)), List.mem_of_getElem? (i := 1023) (by decide +kernel), by decide +kernel, my_5⟩
theorem mpS_4_5 : mj_okS lw_tbl "UnbeatenHouse$Judge" 56 mm_6 2 := ⟨Or.inl (List.mem_of_getElem? (i := 1025) (by decide +kernel)), List.mem_of_getElem? (i := 1026) (by decide +kernel), by decide +kernel, my_6⟩
theorem mpS_4_6 : mj_okS lw_tbl "UnbeatenHouse$Judge" 62 mm_0 2 := ⟨Or.inl (List.mem_of_getElem? (i := 1028) (by decide +kernel)), List.mem_of_getElem? (i := 633) (by decide +kernel), by decide +kernel, my_0⟩
theorem mpS_4_7 : mj_okS lw_tbl "UnbeatenHouse$Judge" 65 mm_1 2 := ⟨Or.inl (List.mem_of_getElem? (i := 1029) (by decide +kernel)), List.mem_of_getElem? (i := 734) (by decide +kernel), by decide +kernel, my_1⟩
theorem mpS_4_8 : mj_okS lw_tbl "UnbeatenHouse$Judge" 68 mm_229 3 := ⟨Or.inl (List.mem_of_getElem? (i := 1030) (by decide +kernel)), List.mem_of_getElem? (i := 1031) (by decide +kernel), by decide +kernel, my_229⟩
theorem mpL_4_0 : Cond.constantLong "UnbeatenHouse$Judge" 72 (-1000000000) ∈ lw_tbl := List.mem_of_getElem? (i := 1017) (by decide +kernel)
theorem mpL_4_1 : Cond.constantLong "UnbeatenHouse$Judge" 74 1000000000 ∈ lw_tbl := List.mem_of_getElem? (i := 1018) (by decide +kernel)
theorem mpq_4 : mj_okQ lw_tbl mj_CL mj_MS "UnbeatenHouse$Judge" mp_4 := ⟨List.forall_mem_cons.mpr ⟨mpF_4_0, List.forall_mem_cons.mpr ⟨mpF_4_1, List.forall_mem_cons.mpr ⟨mpF_4_2, List.forall_mem_cons.mpr ⟨mpF_4_3, List.forall_mem_cons.mpr ⟨mpF_4_4, fun _ h => absurd h List.not_mem_nil⟩⟩⟩⟩⟩, List.forall_mem_cons.mpr ⟨mpV_4_0, List.forall_mem_cons.mpr ⟨mpV_4_1, List.forall_mem_cons.mpr ⟨mpV_4_2, fun _ h => absurd h List.not_mem_nil⟩⟩⟩, List.forall_mem_cons.mpr ⟨mpS_4_0, List.forall_mem_cons.mpr ⟨mpS_4_1, List.forall_mem_cons.mpr ⟨mpS_4_2, List.forall_mem_cons.mpr ⟨mpS_4_3, List.forall_mem_cons.mpr ⟨mpS_4_4, List.forall_mem_cons.mpr ⟨mpS_4_5, List.forall_mem_cons.mpr ⟨mpS_4_6, List.forall_mem_cons.mpr ⟨mpS_4_7, List.forall_mem_cons.mpr ⟨mpS_4_8, fun _ h => absurd h List.not_mem_nil⟩⟩⟩⟩⟩⟩⟩⟩⟩, fun _ h => absurd h List.not_mem_nil, List.forall_mem_cons.mpr ⟨mpL_4_0, List.forall_mem_cons.mpr ⟨mpL_4_1, fun _ h => absurd h List.not_mem_nil⟩⟩, fun _ h => absurd h List.not_mem_nil⟩
def mp_5 : mj_Q := ([(45, 9, 0, false), (48, 9, 1, false), (51, 9, 2, true), (26, 9, 6, false), (9, 5, 0, true), (15, 5, 1, true), (19, 5, 2, true), (23, 5, 3, true), (35, 5, 4, false), (32, 5, 5, false)], [(41, 280, 3, 6), (62, 282, 2, 6), (79, 283, 3, 6), (58, 284, 4, 6), (66, 285, 4, 6), (70, 286, 4, 6), (83, 281, 3, 6), (87, 289, 2, 6), (91, 290, 1, 6)], [(54, 178, 2), (73, 1, 2)], [], [(39, (-1))], [])
theorem mpF_5_0 : mj_okF lw_tbl mj_CL "UnbeatenHouse$People" 45 9 0 ∧ (false = false → ∃ q, mj_CL[9]? = some q ∧ (q.2.1 0).2.2.2 = false) := ⟨⟨_, _, _, rfl, by decide, Or.inr ⟨"UnbeatenHouse", List.mem_of_getElem? (i := 327) (by decide +kernel)⟩⟩, fun _ => ⟨_, rfl, by decide +kernel⟩⟩
theorem mpF_5_1 : mj_okF lw_tbl mj_CL "UnbeatenHouse$People" 48 9 1 ∧ (false = false → ∃ q, mj_CL[9]? = some q ∧ (q.2.1 1).2.2.2 = false) := ⟨⟨_, _, _, rfl, by decide, Or.inr ⟨"UnbeatenHouse", List.mem_of_getElem? (i := 330) (by decide +kernel)⟩⟩, fun _ => ⟨_, rfl, by decide +kernel⟩⟩
theorem mpF_5_2 : mj_okF lw_tbl mj_CL "UnbeatenHouse$People" 51 9 2 ∧ (true = false → ∃ q, mj_CL[9]? = some q ∧ (q.2.1 2).2.2.2 = false) := ⟨⟨_, _, _, rfl, by decide, Or.inr ⟨"UnbeatenHouse", List.mem_of_getElem? (i := 333) (by decide +kernel)⟩⟩, fun h => absurd h (by decide)⟩
theorem mpF_5_3 : mj_okF lw_tbl mj_CL "UnbeatenHouse$People" 26 9 6 ∧ (false = false → ∃ q, mj_CL[9]? = some q ∧ (q.2.1 6).2.2.2 = false) := ⟨⟨_, _, _, rfl, by decide, Or.inr ⟨"UnbeatenHouse", List.mem_of_getElem? (i := 340) (by decide +kernel)⟩⟩, fun _ => ⟨_, rfl, by decide +kernel⟩⟩
theorem mpF_5_4 : mj_okF lw_tbl mj_CL "UnbeatenHouse$People" 9 5 0 ∧ (true = false → ∃ q, mj_CL[5]? = some q ∧ (q.2.1 0).2.2.2 = false) := ⟨⟨_, _, _, rfl, by decide, Or.inl (List.mem_of_getElem? (i := 529) (by decide +kernel))⟩, fun h => absurd h (by decide)⟩
theorem mpF_5_5 : mj_okF lw_tbl mj_CL "UnbeatenHouse$People" 15 5 1 ∧ (true = false → ∃ q, mj_CL[5]? = some q ∧ (q.2.1 1).2.2.2 = false) := ⟨⟨_, _, _, rfl, by decide, Or.inl (List.mem_of_getElem? (i := 531) (by decide +kernel))⟩, fun h => absurd h (by decide)⟩
theorem mpF_5_6 : mj_okF lw_tbl mj_CL "UnbeatenHouse$People" 19 5 2 ∧ (true = false → ∃ q, mj_CL[5]? = some q ∧ (q.2.1 2).2.2.2 = false) := ⟨⟨_, _, _, rfl, by decide, Or.inl (List.mem_of_getElem? (i := 533) (by decide +kernel))⟩, fun h => absurd h (by decide)⟩
theorem mpF_5_7 : mj_okF lw_tbl mj_CL "UnbeatenHouse$People" 23 5 3 ∧ (true = false → ∃ q, mj_CL[5]? = some q ∧ (q.2.1 3).2.2.2 = false) := ⟨⟨_, _, _, rfl, by decide, Or.inl (List.mem_of_getElem? (i := 535) (by decide +kernel))⟩, fun h => absurd h (by decide)⟩
theorem mpF_5_8 : mj_okF lw_tbl mj_CL "UnbeatenHouse$People" 35 5 4 ∧ (false = false → ∃ q, mj_CL[5]? = some q ∧ (q.2.1 4).2.2.2 = false) := ⟨⟨_, _, _, rfl, by decide, Or.inl (List.mem_of_getElem? (i := 536) (by decide +kernel))⟩, fun _ => ⟨_, rfl, by decide +kernel⟩⟩
theorem mpF_5_9 : mj_okF lw_tbl mj_CL "UnbeatenHouse$People" 32 5 5 ∧ (false = false → ∃ q, mj_CL[5]? = some q ∧ (q.2.1 5).2.2.2 = false) := ⟨⟨_, _, _, rfl, by decide, Or.inl (List.mem_of_getElem? (i := 537) (by decide +kernel))⟩, fun _ => ⟨_, rfl, by decide +kernel⟩⟩
theorem mpV_5_0 : mj_okV lw_tbl mj_CL "UnbeatenHouse$People" 41 mm_280 3 6 := ⟨Or.inl (List.mem_of_getElem? (i := 1256) (by decide +kernel)), List.mem_of_getElem? (i := 1258) (by decide +kernel), List.mem_of_getElem? (i := 53) (by decide +kernel), ⟨5, _, _, rfl, rfl⟩, ⟨2, rfl, by decide +kernel⟩, my_280⟩
theorem mpV_5_1 : mj_okV lw_tbl mj_CL "UnbeatenHouse$People" 62 mm_282 2 6 := ⟨Or.inl (List.mem_of_getElem? (i := 1264) (by decide +kernel)), List.mem_of_getElem? (i := 1266) (by decide +kernel), List.mem_of_getElem? (i := 54) (by decide +kernel), ⟨5, _, _, rfl, rfl⟩, ⟨1, rfl, by decide +kernel⟩, my_282⟩
theorem mpV_5_2 : mj_okV lw_tbl mj_CL "UnbeatenHouse$People" 79 mm_283 3 6 := ⟨Or.inl (List.mem_of_getElem? (i := 1269) (by decide +kernel)), List.mem_of_getElem? (i := 1271) (by decide +kernel), List.mem_of_getElem? (i := 55) (by decide +kernel), ⟨5, _, _, rfl, rfl⟩, ⟨2, rfl, by decide +kernel⟩, my_283⟩
theorem mpV_5_3 : mj_okV lw_tbl mj_CL "UnbeatenHouse$People" 58 mm_284 4 6 := ⟨Or.inl (List.mem_of_getElem? (i := 1273) (by decide +kernel)), List.mem_of_getElem? (i := 1275) (by decide +kernel), List.mem_of_getElem? (i := 56) (by decide +kernel), ⟨5, _, _, rfl, rfl⟩, ⟨3, rfl, by decide +kernel⟩, my_284⟩
theorem mpV_5_4 : mj_okV lw_tbl mj_CL "UnbeatenHouse$People" 66 mm_285 4 6 := ⟨Or.inl (List.mem_of_getElem? (i := 1277) (by decide +kernel)), List.mem_of_getElem? (i := 1279) (by decide +kernel), List.mem_of_getElem? (i := 57) (by decide +kernel), ⟨5, _, _, rfl, rfl⟩, ⟨3, rfl, by decide +kernel⟩, my_285⟩
theorem mpV_5_5 : mj_okV lw_tbl mj_CL "UnbeatenHouse$People" 70 mm_286 4 6 := ⟨Or.inl (List.mem_of_getElem? (i := 1281) (by decide +kernel)), List.mem_of_getElem? (i := 1282) (by decide +kernel), List.mem_of_getElem? (i := 1283) (by decide +kernel), ⟨5, _, _, rfl, rfl⟩, ⟨3, rfl, by decide +kernel⟩, my_286⟩
theorem mpV_5_6 : mj_okV lw_tbl mj_CL "UnbeatenHouse$People" 83 mm_281 3 6 := ⟨Or.inl (List.mem_of_getElem? (i := 1294) (by decide +kernel)), List.mem_of_getElem? (i := 1261) (by decide +kernel), List.mem_of_getElem? (i := 1262) (by decide +kernel), ⟨5, _, _, rfl, rfl⟩, ⟨2, rfl, by decide +kernel⟩, my_281⟩
theorem mpV_5_7 : mj_okV lw_tbl mj_CL "UnbeatenHouse$People" 87 mm_289 2 6 := ⟨Or.inl (List.mem_of_getElem? (i := 1295) (by decide +kernel)), List.mem_of_getElem? (i := 1297) (by decide +kernel), List.mem_of_getElem? (i := 58) (by decide +kernel), ⟨5, _, _, rfl, rfl⟩, ⟨1, rfl, by decide +kernel⟩, my_289⟩
theorem mpV_5_8 : mj_okV lw_tbl mj_CL "UnbeatenHouse$People" 91 mm_290 1 6 := ⟨Or.inl (List.mem_of_getElem? (i := 1299) (by decide +kernel)), List.mem_of_getElem? (i := 1301) (by decide +kernel), List.mem_of_getElem? (i := 59) (by decide +kernel), ⟨5, _, _, rfl, rfl⟩, ⟨0, rfl, by decide +kernel⟩, my_290⟩
theorem mpS_5_0 : mj_okS lw_tbl "UnbeatenHouse$People" 54 mm_178 2 := ⟨Or.inr ⟨"UnbeatenHouse", List.mem_of_getElem? (i := 1268) (by decide +kernel)⟩, List.mem_of_getElem? (i := 790) (by decide +kernel), by decide +kernel, my_178⟩
theorem mpS_5_1 : mj_okS lw_tbl "UnbeatenHouse$People" 73 mm_1 2 := ⟨Or.inl (List.mem_of_getElem? (i := 1285) (by decide +kernel)), List.mem_of_getElem? (i := 734) (by decide +kernel), by decide +kernel, my_1⟩
theorem mpL_5_0 : Cond.constantLong "UnbeatenHouse$People" 39 (-1) ∈ lw_tbl := List.mem_of_getElem? (i := 1255) (by decide +kernel)
theorem mpq_5 : mj_okQ lw_tbl mj_CL mj_MS "UnbeatenHouse$People" mp_5 := ⟨List.forall_mem_cons.mpr ⟨mpF_5_0, List.forall_mem_cons.mpr ⟨mpF_5_1, List.forall_mem_cons.mpr ⟨mpF_5_2, List.forall_mem_cons.mpr ⟨mpF_5_3, List.forall_mem_cons.mpr ⟨mpF_5_4, List.forall_mem_cons.mpr ⟨mpF_5_5, List.forall_mem_cons.mpr ⟨mpF_5_6, List.forall_mem_cons.mpr ⟨mpF_5_7, List.forall_mem_cons.mpr ⟨mpF_5_8, List.forall_mem_cons.mpr ⟨mpF_5_9, fun _ h => absurd h List.not_mem_nil⟩⟩⟩⟩⟩⟩⟩⟩⟩⟩, List.forall_mem_cons.mpr ⟨mpV_5_0, List.forall_mem_cons.mpr ⟨mpV_5_1, List.forall_mem_cons.mpr ⟨mpV_5_2, List.forall_mem_cons.mpr ⟨mpV_5_3, List.forall_mem_cons.mpr ⟨mpV_5_4, List.forall_mem_cons.mpr ⟨mpV_5_5, List.forall_mem_cons.mpr ⟨mpV_5_6, List.forall_mem_cons.mpr ⟨mpV_5_7, List.forall_mem_cons.mpr ⟨mpV_5_8, fun _ h => absurd h List.not_mem_nil⟩⟩⟩⟩⟩⟩⟩⟩⟩, List.forall_mem_cons.mpr ⟨mpS_5_0, List.forall_mem_cons.mpr ⟨mpS_5_1, fun _ h => absurd h List.not_mem_nil⟩⟩, fun _ h => absurd h List.not_mem_nil, List.forall_mem_cons.mpr ⟨mpL_5_0, fun _ h => absurd h List.not_mem_nil⟩, fun _ h => absurd h List.not_mem_nil⟩
def mp_6 : mj_Q := ([(39, 2, 1, false), (29, 6, 0, false), (11, 6, 1, true), (15, 6, 2, true), (18, 6, 3, true), (21, 6, 4, false)], [(25, 244, 3, 7), (48, 245, 4, 3), (32, 246, 4, 7), (54, 247, 3, 7), (63, 248, 2, 7)], [(42, 0, 2), (51, 1, 2)], [(38, 2147483647)], [], [57])
theorem mpF_6_0 : mj_okF lw_tbl mj_CL "UnbeatenHouse$Picker" 39 2 1 ∧ (false = false → ∃ q, mj_CL[2]? = some q ∧ (q.2.1 1).2.2.2 = false) := ⟨⟨_, _, _, rfl, by decide, Or.inr ⟨"UnbeatenHouse", List.mem_of_getElem? (i := 424) (by decide +kernel)⟩⟩, fun _ => ⟨_, rfl, by decide +kernel⟩⟩
theorem mpF_6_1 : mj_okF lw_tbl mj_CL "UnbeatenHouse$Picker" 29 6 0 ∧ (false = false → ∃ q, mj_CL[6]? = some q ∧ (q.2.1 0).2.2.2 = false) := ⟨⟨_, _, _, rfl, by decide, Or.inl (List.mem_of_getElem? (i := 447) (by decide +kernel))⟩, fun _ => ⟨_, rfl, by decide +kernel⟩⟩
theorem mpF_6_2 : mj_okF lw_tbl mj_CL "UnbeatenHouse$Picker" 11 6 1 ∧ (true = false → ∃ q, mj_CL[6]? = some q ∧ (q.2.1 1).2.2.2 = false) := ⟨⟨_, _, _, rfl, by decide, Or.inl (List.mem_of_getElem? (i := 448) (by decide +kernel))⟩, fun h => absurd h (by decide)⟩
theorem mpF_6_3 : mj_okF lw_tbl mj_CL "UnbeatenHouse$Picker" 15 6 2 ∧ (true = false → ∃ q, mj_CL[6]? = some q ∧ (q.2.1 2).2.2.2 = false) := ⟨⟨_, _, _, rfl, by decide, Or.inl (List.mem_of_getElem? (i := 449) (by decide +kernel))⟩, fun h => absurd h (by decide)⟩
theorem mpF_6_4 : mj_okF lw_tbl mj_CL "UnbeatenHouse$Picker" 18 6 3 ∧ (true = false → ∃ q, mj_CL[6]? = some q ∧ (q.2.1 3).2.2.2 = false) := ⟨⟨_, _, _, rfl, by decide, Or.inl (List.mem_of_getElem? (i := 450) (by decide +kernel))⟩, fun h => absurd h (by decide)⟩
theorem mpF_6_5 : mj_okF lw_tbl mj_CL "UnbeatenHouse$Picker" 21 6 4 ∧ (false = false → ∃ q, mj_CL[6]? = some q ∧ (q.2.1 4).2.2.2 = false) := ⟨⟨_, _, _, rfl, by decide, Or.inl (List.mem_of_getElem? (i := 452) (by decide +kernel))⟩, fun _ => ⟨_, rfl, by decide +kernel⟩⟩
theorem mpV_6_0 : mj_okV lw_tbl mj_CL "UnbeatenHouse$Picker" 25 mm_244 3 7 := ⟨Or.inl (List.mem_of_getElem? (i := 1089) (by decide +kernel)), List.mem_of_getElem? (i := 1091) (by decide +kernel), List.mem_of_getElem? (i := 44) (by decide +kernel), ⟨6, _, _, rfl, rfl⟩, ⟨2, rfl, by decide +kernel⟩, my_244⟩
theorem mpV_6_1 : mj_okV lw_tbl mj_CL "UnbeatenHouse$Picker" 48 mm_245 4 3 := ⟨Or.inl (List.mem_of_getElem? (i := 1094) (by decide +kernel)), List.mem_of_getElem? (i := 1095) (by decide +kernel), List.mem_of_getElem? (i := 1096) (by decide +kernel), ⟨2, _, _, rfl, rfl⟩, ⟨3, rfl, by decide +kernel⟩, my_245⟩
theorem mpV_6_2 : mj_okV lw_tbl mj_CL "UnbeatenHouse$Picker" 32 mm_246 4 7 := ⟨Or.inl (List.mem_of_getElem? (i := 1099) (by decide +kernel)), List.mem_of_getElem? (i := 1101) (by decide +kernel), List.mem_of_getElem? (i := 45) (by decide +kernel), ⟨6, _, _, rfl, rfl⟩, ⟨3, rfl, by decide +kernel⟩, my_246⟩
theorem mpV_6_3 : mj_okV lw_tbl mj_CL "UnbeatenHouse$Picker" 54 mm_247 3 7 := ⟨Or.inl (List.mem_of_getElem? (i := 1103) (by decide +kernel)), List.mem_of_getElem? (i := 1105) (by decide +kernel), List.mem_of_getElem? (i := 46) (by decide +kernel), ⟨6, _, _, rfl, rfl⟩, ⟨2, rfl, by decide +kernel⟩, my_247⟩
theorem mpV_6_4 : mj_okV lw_tbl mj_CL "UnbeatenHouse$Picker" 63 mm_248 2 7 := ⟨Or.inl (List.mem_of_getElem? (i := 1109) (by decide +kernel)), List.mem_of_getElem? (i := 1111) (by decide +kernel), List.mem_of_getElem? (i := 47) (by decide +kernel), ⟨6, _, _, rfl, rfl⟩, ⟨1, rfl, by decide +kernel⟩, my_248⟩
theorem mpS_6_0 : mj_okS lw_tbl "UnbeatenHouse$Picker" 42 mm_0 2 := ⟨Or.inl (List.mem_of_getElem? (i := 1093) (by decide +kernel)), List.mem_of_getElem? (i := 633) (by decide +kernel), by decide +kernel, my_0⟩
theorem mpS_6_1 : mj_okS lw_tbl "UnbeatenHouse$Picker" 51 mm_1 2 := ⟨Or.inl (List.mem_of_getElem? (i := 1098) (by decide +kernel)), List.mem_of_getElem? (i := 734) (by decide +kernel), by decide +kernel, my_1⟩
theorem mpC_6_0 : Cond.constant "UnbeatenHouse$Picker" 38 2147483647 ∈ lw_tbl := List.mem_of_getElem? (i := 1107) (by decide +kernel)
theorem mpA_6_0 : mj_okC lw_tbl "UnbeatenHouse$Picker" 57 := ⟨List.mem_of_getElem? (i := 1108) (by decide +kernel), List.mem_of_getElem? (i := 913) (by decide +kernel), List.mem_of_getElem? (i := 912) (by decide +kernel), List.mem_of_getElem? (i := 154) (by decide +kernel)⟩
theorem mpq_6 : mj_okQ lw_tbl mj_CL mj_MS "UnbeatenHouse$Picker" mp_6 := ⟨List.forall_mem_cons.mpr ⟨mpF_6_0, List.forall_mem_cons.mpr ⟨mpF_6_1, List.forall_mem_cons.mpr ⟨mpF_6_2, List.forall_mem_cons.mpr ⟨mpF_6_3, List.forall_mem_cons.mpr ⟨mpF_6_4, List.forall_mem_cons.mpr ⟨mpF_6_5, fun _ h => absurd h List.not_mem_nil⟩⟩⟩⟩⟩⟩, List.forall_mem_cons.mpr ⟨mpV_6_0, List.forall_mem_cons.mpr ⟨mpV_6_1, List.forall_mem_cons.mpr ⟨mpV_6_2, List.forall_mem_cons.mpr ⟨mpV_6_3, List.forall_mem_cons.mpr ⟨mpV_6_4, fun _ h => absurd h List.not_mem_nil⟩⟩⟩⟩⟩, List.forall_mem_cons.mpr ⟨mpS_6_0, List.forall_mem_cons.mpr ⟨mpS_6_1, fun _ h => absurd h List.not_mem_nil⟩⟩, List.forall_mem_cons.mpr ⟨mpC_6_0, fun _ h => absurd h List.not_mem_nil⟩, fun _ h => absurd h List.not_mem_nil, List.forall_mem_cons.mpr ⟨mpA_6_0, fun _ h => absurd h List.not_mem_nil⟩⟩
def mp_7 : mj_Q := ([(9, 7, 0, true), (15, 7, 1, true), (19, 7, 2, true), (22, 7, 3, false), (26, 7, 4, false), (48, 2, 1, false)], [(35, 214, 1, 8), (53, 215, 3, 8), (60, 216, 3, 8), (57, 217, 3, 8), (38, 182, 2, 3), (44, 218, 4, 3), (49, 205, 4, 3)], [], [], [], [29])
theorem mpF_7_0 : mj_okF lw_tbl mj_CL "UnbeatenHouse$Pool" 9 7 0 ∧ (true = false → ∃ q, mj_CL[7]? = some q ∧ (q.2.1 0).2.2.2 = false) := ⟨⟨_, _, _, rfl, by decide, Or.inl (List.mem_of_getElem? (i := 368) (by decide +kernel))⟩, fun h => absurd h (by decide)⟩
theorem mpF_7_1 : mj_okF lw_tbl mj_CL "UnbeatenHouse$Pool" 15 7 1 ∧ (true = false → ∃ q, mj_CL[7]? = some q ∧ (q.2.1 1).2.2.2 = false) := ⟨⟨_, _, _, rfl, by decide, Or.inl (List.mem_of_getElem? (i := 369) (by decide +kernel))⟩, fun h => absurd h (by decide)⟩
theorem mpF_7_2 : mj_okF lw_tbl mj_CL "UnbeatenHouse$Pool" 19 7 2 ∧ (true = false → ∃ q, mj_CL[7]? = some q ∧ (q.2.1 2).2.2.2 = false) := ⟨⟨_, _, _, rfl, by decide, Or.inl (List.mem_of_getElem? (i := 370) (by decide +kernel))⟩, fun h => absurd h (by decide)⟩
theorem mpF_7_3 : mj_okF lw_tbl mj_CL "UnbeatenHouse$Pool" 22 7 3 ∧ (false = false → ∃ q, mj_CL[7]? = some q ∧ (q.2.1 3).2.2.2 = false) := ⟨⟨_, _, _, rfl, by decide, Or.inl (List.mem_of_getElem? (i := 371) (by decide +kernel))⟩, fun _ => ⟨_, rfl, by decide +kernel⟩⟩
theorem mpF_7_4 : mj_okF lw_tbl mj_CL "UnbeatenHouse$Pool" 26 7 4 ∧ (false = false → ∃ q, mj_CL[7]? = some q ∧ (q.2.1 4).2.2.2 = false) := ⟨⟨_, _, _, rfl, by decide, Or.inl (List.mem_of_getElem? (i := 372) (by decide +kernel))⟩, fun _ => ⟨_, rfl, by decide +kernel⟩⟩
theorem mpF_7_5 : mj_okF lw_tbl mj_CL "UnbeatenHouse$Pool" 48 2 1 ∧ (false = false → ∃ q, mj_CL[2]? = some q ∧ (q.2.1 1).2.2.2 = false) := ⟨⟨_, _, _, rfl, by decide, Or.inr ⟨"UnbeatenHouse", List.mem_of_getElem? (i := 423) (by decide +kernel)⟩⟩, fun _ => ⟨_, rfl, by decide +kernel⟩⟩
theorem mpV_7_0 : mj_okV lw_tbl mj_CL "UnbeatenHouse$Pool" 35 mm_214 1 8 := ⟨Or.inl (List.mem_of_getElem? (i := 949) (by decide +kernel)), List.mem_of_getElem? (i := 951) (by decide +kernel), List.mem_of_getElem? (i := 35) (by decide +kernel), ⟨7, _, _, rfl, rfl⟩, ⟨0, rfl, by decide +kernel⟩, my_214⟩
theorem mpV_7_1 : mj_okV lw_tbl mj_CL "UnbeatenHouse$Pool" 53 mm_215 3 8 := ⟨Or.inl (List.mem_of_getElem? (i := 953) (by decide +kernel)), List.mem_of_getElem? (i := 955) (by decide +kernel), List.mem_of_getElem? (i := 36) (by decide +kernel), ⟨7, _, _, rfl, rfl⟩, ⟨2, rfl, by decide +kernel⟩, my_215⟩
theorem mpV_7_2 : mj_okV lw_tbl mj_CL "UnbeatenHouse$Pool" 60 mm_216 3 8 := ⟨Or.inl (List.mem_of_getElem? (i := 957) (by decide +kernel)), List.mem_of_getElem? (i := 959) (by decide +kernel), List.mem_of_getElem? (i := 37) (by decide +kernel), ⟨7, _, _, rfl, rfl⟩, ⟨2, rfl, by decide +kernel⟩, my_216⟩
theorem mpV_7_3 : mj_okV lw_tbl mj_CL "UnbeatenHouse$Pool" 57 mm_217 3 8 := ⟨Or.inl (List.mem_of_getElem? (i := 961) (by decide +kernel)), List.mem_of_getElem? (i := 963) (by decide +kernel), List.mem_of_getElem? (i := 38) (by decide +kernel), ⟨7, _, _, rfl, rfl⟩, ⟨2, rfl, by decide +kernel⟩, my_217⟩
theorem mpV_7_4 : mj_okV lw_tbl mj_CL "UnbeatenHouse$Pool" 38 mm_182 2 3 := ⟨Or.inl (List.mem_of_getElem? (i := 965) (by decide +kernel)), List.mem_of_getElem? (i := 804) (by decide +kernel), List.mem_of_getElem? (i := 805) (by decide +kernel), ⟨2, _, _, rfl, rfl⟩, ⟨1, rfl, by decide +kernel⟩, my_182⟩
theorem mpV_7_5 : mj_okV lw_tbl mj_CL "UnbeatenHouse$Pool" 44 mm_218 4 3 := ⟨Or.inl (List.mem_of_getElem? (i := 966) (by decide +kernel)), List.mem_of_getElem? (i := 967) (by decide +kernel), List.mem_of_getElem? (i := 968) (by decide +kernel), ⟨2, _, _, rfl, rfl⟩, ⟨3, rfl, by decide +kernel⟩, my_218⟩
theorem mpV_7_6 : mj_okV lw_tbl mj_CL "UnbeatenHouse$Pool" 49 mm_205 4 3 := ⟨Or.inl (List.mem_of_getElem? (i := 971) (by decide +kernel)), List.mem_of_getElem? (i := 908) (by decide +kernel), List.mem_of_getElem? (i := 909) (by decide +kernel), ⟨2, _, _, rfl, rfl⟩, ⟨3, rfl, by decide +kernel⟩, my_205⟩
theorem mpA_7_0 : mj_okC lw_tbl "UnbeatenHouse$Pool" 29 := ⟨List.mem_of_getElem? (i := 939) (by decide +kernel), List.mem_of_getElem? (i := 913) (by decide +kernel), List.mem_of_getElem? (i := 912) (by decide +kernel), List.mem_of_getElem? (i := 154) (by decide +kernel)⟩
theorem mpq_7 : mj_okQ lw_tbl mj_CL mj_MS "UnbeatenHouse$Pool" mp_7 := ⟨List.forall_mem_cons.mpr ⟨mpF_7_0, List.forall_mem_cons.mpr ⟨mpF_7_1, List.forall_mem_cons.mpr ⟨mpF_7_2, List.forall_mem_cons.mpr ⟨mpF_7_3, List.forall_mem_cons.mpr ⟨mpF_7_4, List.forall_mem_cons.mpr ⟨mpF_7_5, fun _ h => absurd h List.not_mem_nil⟩⟩⟩⟩⟩⟩, List.forall_mem_cons.mpr ⟨mpV_7_0, List.forall_mem_cons.mpr ⟨mpV_7_1, List.forall_mem_cons.mpr ⟨mpV_7_2, List.forall_mem_cons.mpr ⟨mpV_7_3, List.forall_mem_cons.mpr ⟨mpV_7_4, List.forall_mem_cons.mpr ⟨mpV_7_5, List.forall_mem_cons.mpr ⟨mpV_7_6, fun _ h => absurd h List.not_mem_nil⟩⟩⟩⟩⟩⟩⟩, fun _ h => absurd h List.not_mem_nil, fun _ h => absurd h List.not_mem_nil, fun _ h => absurd h List.not_mem_nil, List.forall_mem_cons.mpr ⟨mpA_7_0, fun _ h => absurd h List.not_mem_nil⟩⟩
def mp_8 : mj_Q := ([(65, 11, 0, false), (111, 11, 1, true), (138, 11, 3, true), (154, 11, 4, true), (165, 11, 5, true), (142, 11, 6, true), (148, 11, 7, true), (174, 11, 9, false), (171, 11, 10, true), (9, 8, 0, true), (15, 8, 1, true), (37, 8, 2, false), (21, 8, 3, false), (43, 8, 4, false), (46, 8, 5, false), (74, 8, 6, false), (71, 8, 7, false), (68, 8, 8, false), (49, 8, 9, false), (52, 8, 10, false), (25, 8, 11, false)], [(40, 138, 1, 12), (55, 139, 1, 9), (87, 141, 2, 9), (58, 142, 1, 9), (94, 143, 2, 9), (117, 144, 2, 9), (120, 145, 1, 9), (123, 146, 2, 9), (97, 147, 1, 9), (101, 148, 2, 12), (104, 150, 3, 12), (126, 151, 1, 9), (145, 152, 3, 9), (108, 149, 3, 12), (151, 153, 3, 9), (161, 155, 1, 9), (129, 156, 1, 9), (168, 157, 1, 9), (177, 158, 1, 9), (183, 159, 1, 9), (90, 160, 2, 9), (186, 161, 2, 9), (189, 162, 2, 9), (61, 163, 2, 9), (180, 164, 3, 12), (192, 165, 1, 9), (195, 166, 1, 9), (198, 167, 1, 9), (201, 168, 1, 9), (204, 169, 2, 9), (132, 170, 1, 9), (135, 171, 1, 9)], [(77, 140, 1), (81, 0, 2), (157, 154, 3)], [], [], [])
theorem mpF_8_0 : mj_okF lw_tbl mj_CL "UnbeatenHouse$Reader" 65 11 0 ∧ (false = false → ∃ q, mj_CL[11]? = some q ∧ (q.2.1 0).2.2.2 = false) := ⟨⟨_, _, _, rfl, by decide, Or.inr ⟨"UnbeatenHouse", List.mem_of_getElem? (i := 171) (by decide +kernel)⟩⟩, fun _ => ⟨_, rfl, by decide +kernel⟩⟩
theorem mpF_8_1 : mj_okF lw_tbl mj_CL "UnbeatenHouse$Reader" 111 11 1 ∧ (true = false → ∃ q, mj_CL[11]? = some q ∧ (q.2.1 1).2.2.2 = false) := ⟨⟨_, _, _, rfl, by decide, Or.inr ⟨"UnbeatenHouse", List.mem_of_getElem? (i := 178) (by decide +kernel)⟩⟩, fun h => absurd h (by decide)⟩
theorem mpF_8_2 : mj_okF lw_tbl mj_CL "UnbeatenHouse$Reader" 138 11 3 ∧ (true = false → ∃ q, mj_CL[11]? = some q ∧ (q.2.1 3).2.2.2 = false) := ⟨⟨_, _, _, rfl, by decide, Or.inr ⟨"UnbeatenHouse", List.mem_of_getElem? (i := 182) (by decide +kernel)⟩⟩, fun h => absurd h (by decide)⟩
theorem mpF_8_3 : mj_okF lw_tbl mj_CL "UnbeatenHouse$Reader" 154 11 4 ∧ (true = false → ∃ q, mj_CL[11]? = some q ∧ (q.2.1 4).2.2.2 = false) := ⟨⟨_, _, _, rfl, by decide, Or.inr ⟨"UnbeatenHouse", List.mem_of_getElem? (i := 187) (by decide +kernel)⟩⟩, fun h => absurd h (by decide)⟩
theorem mpF_8_4 : mj_okF lw_tbl mj_CL "UnbeatenHouse$Reader" 165 11 5 ∧ (true = false → ∃ q, mj_CL[11]? = some q ∧ (q.2.1 5).2.2.2 = false) := ⟨⟨_, _, _, rfl, by decide, Or.inr ⟨"UnbeatenHouse", List.mem_of_getElem? (i := 191) (by decide +kernel)⟩⟩, fun h => absurd h (by decide)⟩
theorem mpF_8_5 : mj_okF lw_tbl mj_CL "UnbeatenHouse$Reader" 142 11 6 ∧ (true = false → ∃ q, mj_CL[11]? = some q ∧ (q.2.1 6).2.2.2 = false) := ⟨⟨_, _, _, rfl, by decide, Or.inr ⟨"UnbeatenHouse", List.mem_of_getElem? (i := 194) (by decide +kernel)⟩⟩, fun h => absurd h (by decide)⟩
theorem mpF_8_6 : mj_okF lw_tbl mj_CL "UnbeatenHouse$Reader" 148 11 7 ∧ (true = false → ∃ q, mj_CL[11]? = some q ∧ (q.2.1 7).2.2.2 = false) := ⟨⟨_, _, _, rfl, by decide, Or.inr ⟨"UnbeatenHouse", List.mem_of_getElem? (i := 197) (by decide +kernel)⟩⟩, fun h => absurd h (by decide)⟩
theorem mpF_8_7 : mj_okF lw_tbl mj_CL "UnbeatenHouse$Reader" 174 11 9 ∧ (false = false → ∃ q, mj_CL[11]? = some q ∧ (q.2.1 9).2.2.2 = false) := ⟨⟨_, _, _, rfl, by decide, Or.inr ⟨"UnbeatenHouse", List.mem_of_getElem? (i := 201) (by decide +kernel)⟩⟩, fun _ => ⟨_, rfl, by decide +kernel⟩⟩
theorem mpF_8_8 : mj_okF lw_tbl mj_CL "UnbeatenHouse$Reader" 171 11 10 ∧ (true = false → ∃ q, mj_CL[11]? = some q ∧ (q.2.1 10).2.2.2 = false) := ⟨⟨_, _, _, rfl, by decide, Or.inr ⟨"UnbeatenHouse", List.mem_of_getElem? (i := 204) (by decide +kernel)⟩⟩, fun h => absurd h (by decide)⟩
theorem mpF_8_9 : mj_okF lw_tbl mj_CL "UnbeatenHouse$Reader" 9 8 0 ∧ (true = false → ∃ q, mj_CL[8]? = some q ∧ (q.2.1 0).2.2.2 = false) := ⟨⟨_, _, _, rfl, by decide, Or.inl (List.mem_of_getElem? (i := 279) (by decide +kernel))⟩, fun h => absurd h (by decide)⟩
theorem mpF_8_10 : mj_okF lw_tbl mj_CL "UnbeatenHouse$Reader" 15 8 1 ∧ (true = false → ∃ q, mj_CL[8]? = some q ∧ (q.2.1 1).2.2.2 = false) := ⟨⟨_, _, _, rfl, by decide, Or.inl (List.mem_of_getElem? (i := 280) (by decide +kernel))⟩, fun h => absurd h (by decide)⟩
theorem mpF_8_11 : mj_okF lw_tbl mj_CL "UnbeatenHouse$Reader" 37 8 2 ∧ (false = false → ∃ q, mj_CL[8]? = some q ∧ (q.2.1 2).2.2.2 = false) := ⟨⟨_, _, _, rfl, by decide, Or.inl (List.mem_of_getElem? (i := 282) (by decide +kernel))⟩, fun _ => ⟨_, rfl, by decide +kernel⟩⟩
theorem mpF_8_12 : mj_okF lw_tbl mj_CL "UnbeatenHouse$Reader" 21 8 3 ∧ (false = false → ∃ q, mj_CL[8]? = some q ∧ (q.2.1 3).2.2.2 = false) := ⟨⟨_, _, _, rfl, by decide, Or.inl (List.mem_of_getElem? (i := 283) (by decide +kernel))⟩, fun _ => ⟨_, rfl, by decide +kernel⟩⟩
theorem mpF_8_13 : mj_okF lw_tbl mj_CL "UnbeatenHouse$Reader" 43 8 4 ∧ (false = false → ∃ q, mj_CL[8]? = some q ∧ (q.2.1 4).2.2.2 = false) := ⟨⟨_, _, _, rfl, by decide, Or.inl (List.mem_of_getElem? (i := 284) (by decide +kernel))⟩, fun _ => ⟨_, rfl, by decide +kernel⟩⟩
theorem mpF_8_14 : mj_okF lw_tbl mj_CL "UnbeatenHouse$Reader" 46 8 5 ∧ (false = false → ∃ q, mj_CL[8]? = some q ∧ (q.2.1 5).2.2.2 = false) := ⟨⟨_, _, _, rfl, by decide, Or.inl (List.mem_of_getElem? (i := 285) (by decide +kernel))⟩, fun _ => ⟨_, rfl, by decide +kernel⟩⟩
theorem mpF_8_15 : mj_okF lw_tbl mj_CL "UnbeatenHouse$Reader" 74 8 6 ∧ (false = false → ∃ q, mj_CL[8]? = some q ∧ (q.2.1 6).2.2.2 = false) := ⟨⟨_, _, _, rfl, by decide, Or.inl (List.mem_of_getElem? (i := 286) (by decide +kernel))⟩, fun _ => ⟨_, rfl, by decide +kernel⟩⟩
theorem mpF_8_16 : mj_okF lw_tbl mj_CL "UnbeatenHouse$Reader" 71 8 7 ∧ (false = false → ∃ q, mj_CL[8]? = some q ∧ (q.2.1 7).2.2.2 = false) := ⟨⟨_, _, _, rfl, by decide, Or.inl (List.mem_of_getElem? (i := 287) (by decide +kernel))⟩, fun _ => ⟨_, rfl, by decide +kernel⟩⟩
theorem mpF_8_17 : mj_okF lw_tbl mj_CL "UnbeatenHouse$Reader" 68 8 8 ∧ (false = false → ∃ q, mj_CL[8]? = some q ∧ (q.2.1 8).2.2.2 = false) := ⟨⟨_, _, _, rfl, by decide, Or.inl (List.mem_of_getElem? (i := 288) (by decide +kernel))⟩, fun _ => ⟨_, rfl, by decide +kernel⟩⟩
theorem mpF_8_18 : mj_okF lw_tbl mj_CL "UnbeatenHouse$Reader" 49 8 9 ∧ (false = false → ∃ q, mj_CL[8]? = some q ∧ (q.2.1 9).2.2.2 = false) := ⟨⟨_, _, _, rfl, by decide, Or.inl (List.mem_of_getElem? (i := 289) (by decide +kernel))⟩, fun _ => ⟨_, rfl, by decide +kernel⟩⟩
theorem mpF_8_19 : mj_okF lw_tbl mj_CL "UnbeatenHouse$Reader" 52 8 10 ∧ (false = false → ∃ q, mj_CL[8]? = some q ∧ (q.2.1 10).2.2.2 = false) := ⟨⟨_, _, _, rfl, by decide, Or.inl (List.mem_of_getElem? (i := 290) (by decide +kernel))⟩, fun _ => ⟨_, rfl, by decide +kernel⟩⟩
theorem mpF_8_20 : mj_okF lw_tbl mj_CL "UnbeatenHouse$Reader" 25 8 11 ∧ (false = false → ∃ q, mj_CL[8]? = some q ∧ (q.2.1 11).2.2.2 = false) := ⟨⟨_, _, _, rfl, by decide, Or.inl (List.mem_of_getElem? (i := 292) (by decide +kernel))⟩, fun _ => ⟨_, rfl, by decide +kernel⟩⟩
theorem mpV_8_0 : mj_okV lw_tbl mj_CL "UnbeatenHouse$Reader" 40 mm_138 1 12 := ⟨Or.inl (List.mem_of_getElem? (i := 621) (by decide +kernel)), List.mem_of_getElem? (i := 622) (by decide +kernel), List.mem_of_getElem? (i := 623) (by decide +kernel), ⟨11, _, _, rfl, rfl⟩, ⟨0, rfl, by decide +kernel⟩, my_138⟩
theorem mpV_8_1 : mj_okV lw_tbl mj_CL "UnbeatenHouse$Reader" 55 mm_139 1 9 := ⟨Or.inl (List.mem_of_getElem? (i := 625) (by decide +kernel)), List.mem_of_getElem? (i := 627) (by decide +kernel), List.mem_of_getElem? (i := 1) (by decide +kernel), ⟨8, _, _, rfl, rfl⟩, ⟨0, rfl, by decide +kernel⟩, my_139⟩
theorem mpV_8_2 : mj_okV lw_tbl mj_CL "UnbeatenHouse$Reader" 87 mm_141 2 9 := ⟨Or.inl (List.mem_of_getElem? (i := 635) (by decide +kernel)), List.mem_of_getElem? (i := 637) (by decide +kernel), List.mem_of_getElem? (i := 2) (by decide +kernel), ⟨8, _, _, rfl, rfl⟩, ⟨1, rfl, by decide +kernel⟩, my_141⟩
theorem mpV_8_3 : mj_okV lw_tbl mj_CL "UnbeatenHouse$Reader" 58 mm_142 1 9 := ⟨Or.inl (List.mem_of_getElem? (i := 639) (by decide +kernel)), List.mem_of_getElem? (i := 641) (by decide +kernel), List.mem_of_getElem? (i := 3) (by decide +kernel), ⟨8, _, _, rfl, rfl⟩, ⟨0, rfl, by decide +kernel⟩, my_142⟩
theorem mpV_8_4 : mj_okV lw_tbl mj_CL "UnbeatenHouse$Reader" 94 mm_143 2 9 := ⟨Or.inl (List.mem_of_getElem? (i := 643) (by decide +kernel)), List.mem_of_getElem? (i := 645) (by decide +kernel), List.mem_of_getElem? (i := 4) (by decide +kernel), ⟨8, _, _, rfl, rfl⟩, ⟨1, rfl, by decide +kernel⟩, my_143⟩
theorem mpV_8_5 : mj_okV lw_tbl mj_CL "UnbeatenHouse$Reader" 117 mm_144 2 9 := ⟨Or.inl (List.mem_of_getElem? (i := 649) (by decide +kernel)), List.mem_of_getElem? (i := 651) (by decide +kernel), List.mem_of_getElem? (i := 5) (by decide +kernel), ⟨8, _, _, rfl, rfl⟩, ⟨1, rfl, by decide +kernel⟩, my_144⟩
theorem mpV_8_6 : mj_okV lw_tbl mj_CL "UnbeatenHouse$Reader" 120 mm_145 1 9 := ⟨Or.inl (List.mem_of_getElem? (i := 653) (by decide +kernel)), List.mem_of_getElem? (i := 655) (by decide +kernel), List.mem_of_getElem? (i := 6) (by decide +kernel), ⟨8, _, _, rfl, rfl⟩, ⟨0, rfl, by decide +kernel⟩, my_145⟩
theorem mpV_8_7 : mj_okV lw_tbl mj_CL "UnbeatenHouse$Reader" 123 mm_146 2 9 := ⟨Or.inl (List.mem_of_getElem? (i := 657) (by decide +kernel)), List.mem_of_getElem? (i := 659) (by decide +kernel), List.mem_of_getElem? (i := 7) (by decide +kernel), ⟨8, _, _, rfl, rfl⟩, ⟨1, rfl, by decide +kernel⟩, my_146⟩
theorem mpV_8_8 : mj_okV lw_tbl mj_CL "UnbeatenHouse$Reader" 97 mm_147 1 9 := ⟨Or.inl (List.mem_of_getElem? (i := 661) (by decide +kernel)), List.mem_of_getElem? (i := 663) (by decide +kernel), List.mem_of_getElem? (i := 8) (by decide +kernel), ⟨8, _, _, rfl, rfl⟩, ⟨0, rfl, by decide +kernel⟩, my_147⟩
theorem mpV_8_9 : mj_okV lw_tbl mj_CL "UnbeatenHouse$Reader" 101 mm_148 2 12 := ⟨Or.inl (List.mem_of_getElem? (i := 665) (by decide +kernel)), List.mem_of_getElem? (i := 666) (by decide +kernel), List.mem_of_getElem? (i := 667) (by decide +kernel), ⟨11, _, _, rfl, rfl⟩, ⟨1, rfl, by decide +kernel⟩, my_148⟩
theorem mpV_8_10 : mj_okV lw_tbl mj_CL "UnbeatenHouse$Reader" 104 mm_150 3 12 := ⟨Or.inl (List.mem_of_getElem? (i := 673) (by decide +kernel)), List.mem_of_getElem? (i := 674) (by decide +kernel), List.mem_of_getElem? (i := 675) (by decide +kernel), ⟨11, _, _, rfl, rfl⟩, ⟨2, rfl, by decide +kernel⟩, my_150⟩
theorem mpV_8_11 : mj_okV lw_tbl mj_CL "UnbeatenHouse$Reader" 126 mm_151 1 9 := ⟨Or.inl (List.mem_of_getElem? (i := 677) (by decide +kernel)), List.mem_of_getElem? (i := 679) (by decide +kernel), List.mem_of_getElem? (i := 9) (by decide +kernel), ⟨8, _, _, rfl, rfl⟩, ⟨0, rfl, by decide +kernel⟩, my_151⟩
theorem mpV_8_12 : mj_okV lw_tbl mj_CL "UnbeatenHouse$Reader" 145 mm_152 3 9 := ⟨Or.inl (List.mem_of_getElem? (i := 681) (by decide +kernel)), List.mem_of_getElem? (i := 683) (by decide +kernel), List.mem_of_getElem? (i := 10) (by decide +kernel), ⟨8, _, _, rfl, rfl⟩, ⟨2, rfl, by decide +kernel⟩, my_152⟩
theorem mpV_8_13 : mj_okV lw_tbl mj_CL "UnbeatenHouse$Reader" 108 mm_149 3 12 := ⟨Or.inl (List.mem_of_getElem? (i := 685) (by decide +kernel)), List.mem_of_getElem? (i := 670) (by decide +kernel), List.mem_of_getElem? (i := 671) (by decide +kernel), ⟨11, _, _, rfl, rfl⟩, ⟨2, rfl, by decide +kernel⟩, my_149⟩
theorem mpV_8_14 : mj_okV lw_tbl mj_CL "UnbeatenHouse$Reader" 151 mm_153 3 9 := ⟨Or.inl (List.mem_of_getElem? (i := 686) (by decide +kernel)), List.mem_of_getElem? (i := 688) (by decide +kernel), List.mem_of_getElem? (i := 11) (by decide +kernel), ⟨8, _, _, rfl, rfl⟩, ⟨2, rfl, by decide +kernel⟩, my_153⟩
theorem mpV_8_15 : mj_okV lw_tbl mj_CL "UnbeatenHouse$Reader" 161 mm_155 1 9 := ⟨Or.inl (List.mem_of_getElem? (i := 693) (by decide +kernel)), List.mem_of_getElem? (i := 695) (by decide +kernel), List.mem_of_getElem? (i := 12) (by decide +kernel), ⟨8, _, _, rfl, rfl⟩, ⟨0, rfl, by decide +kernel⟩, my_155⟩
theorem mpV_8_16 : mj_okV lw_tbl mj_CL "UnbeatenHouse$Reader" 129 mm_156 1 9 := ⟨Or.inl (List.mem_of_getElem? (i := 697) (by decide +kernel)), List.mem_of_getElem? (i := 699) (by decide +kernel), List.mem_of_getElem? (i := 13) (by decide +kernel), ⟨8, _, _, rfl, rfl⟩, ⟨0, rfl, by decide +kernel⟩, my_156⟩
theorem mpV_8_17 : mj_okV lw_tbl mj_CL "UnbeatenHouse$Reader" 168 mm_157 1 9 := ⟨Or.inl (List.mem_of_getElem? (i := 701) (by decide +kernel)), List.mem_of_getElem? (i := 703) (by decide +kernel), List.mem_of_getElem? (i := 14) (by decide +kernel), ⟨8, _, _, rfl, rfl⟩, ⟨0, rfl, by decide +kernel⟩, my_157⟩
theorem mpV_8_18 : mj_okV lw_tbl mj_CL "UnbeatenHouse$Reader" 177 mm_158 1 9 := ⟨Or.inl (List.mem_of_getElem? (i := 705) (by decide +kernel)), List.mem_of_getElem? (i := 707) (by decide +kernel), List.mem_of_getElem? (i := 15) (by decide +kernel), ⟨8, _, _, rfl, rfl⟩, ⟨0, rfl, by decide +kernel⟩, my_158⟩
theorem mpV_8_19 : mj_okV lw_tbl mj_CL "UnbeatenHouse$Reader" 183 mm_159 1 9 := ⟨Or.inl (List.mem_of_getElem? (i := 709) (by decide +kernel)), List.mem_of_getElem? (i := 711) (by decide +kernel), List.mem_of_getElem? (i := 16) (by decide +kernel), ⟨8, _, _, rfl, rfl⟩, ⟨0, rfl, by decide +kernel⟩, my_159⟩
theorem mpV_8_20 : mj_okV lw_tbl mj_CL "UnbeatenHouse$Reader" 90 mm_160 2 9 := ⟨Or.inl (List.mem_of_getElem? (i := 713) (by decide +kernel)), List.mem_of_getElem? (i := 715) (by decide +kernel), List.mem_of_getElem? (i := 17) (by decide +kernel), ⟨8, _, _, rfl, rfl⟩, ⟨1, rfl, by decide +kernel⟩, my_160⟩
theorem mpV_8_21 : mj_okV lw_tbl mj_CL "UnbeatenHouse$Reader" 186 mm_161 2 9 := ⟨Or.inl (List.mem_of_getElem? (i := 717) (by decide +kernel)), List.mem_of_getElem? (i := 719) (by decide +kernel), List.mem_of_getElem? (i := 18) (by decide +kernel), ⟨8, _, _, rfl, rfl⟩, ⟨1, rfl, by decide +kernel⟩, my_161⟩
theorem mpV_8_22 : mj_okV lw_tbl mj_CL "UnbeatenHouse$Reader" 189 mm_162 2 9 := ⟨Or.inl (List.mem_of_getElem? (i := 721) (by decide +kernel)), List.mem_of_getElem? (i := 723) (by decide +kernel), List.mem_of_getElem? (i := 19) (by decide +kernel), ⟨8, _, _, rfl, rfl⟩, ⟨1, rfl, by decide +kernel⟩, my_162⟩
theorem mpV_8_23 : mj_okV lw_tbl mj_CL "UnbeatenHouse$Reader" 61 mm_163 2 9 := ⟨Or.inl (List.mem_of_getElem? (i := 725) (by decide +kernel)), List.mem_of_getElem? (i := 727) (by decide +kernel), List.mem_of_getElem? (i := 20) (by decide +kernel), ⟨8, _, _, rfl, rfl⟩, ⟨1, rfl, by decide +kernel⟩, my_163⟩
theorem mpV_8_24 : mj_okV lw_tbl mj_CL "UnbeatenHouse$Reader" 180 mm_164 3 12 := ⟨Or.inl (List.mem_of_getElem? (i := 729) (by decide +kernel)), List.mem_of_getElem? (i := 730) (by decide +kernel), List.mem_of_getElem? (i := 731) (by decide +kernel), ⟨11, _, _, rfl, rfl⟩, ⟨2, rfl, by decide +kernel⟩, my_164⟩
theorem mpV_8_25 : mj_okV lw_tbl mj_CL "UnbeatenHouse$Reader" 192 mm_165 1 9 := ⟨Or.inl (List.mem_of_getElem? (i := 736) (by decide +kernel)), List.mem_of_getElem? (i := 738) (by decide +kernel), List.mem_of_getElem? (i := 21) (by decide +kernel), ⟨8, _, _, rfl, rfl⟩, ⟨0, rfl, by decide +kernel⟩, my_165⟩
theorem mpV_8_26 : mj_okV lw_tbl mj_CL "UnbeatenHouse$Reader" 195 mm_166 1 9 := ⟨Or.inl (List.mem_of_getElem? (i := 740) (by decide +kernel)), List.mem_of_getElem? (i := 742) (by decide +kernel), List.mem_of_getElem? (i := 22) (by decide +kernel), ⟨8, _, _, rfl, rfl⟩, ⟨0, rfl, by decide +kernel⟩, my_166⟩
theorem mpV_8_27 : mj_okV lw_tbl mj_CL "UnbeatenHouse$Reader" 198 mm_167 1 9 := ⟨Or.inl (List.mem_of_getElem? (i := 744) (by decide +kernel)), List.mem_of_getElem? (i := 746) (by decide +kernel), List.mem_of_getElem? (i := 23) (by decide +kernel), ⟨8, _, _, rfl, rfl⟩, ⟨0, rfl, by decide +kernel⟩, my_167⟩
theorem mpV_8_28 : mj_okV lw_tbl mj_CL "UnbeatenHouse$Reader" 201 mm_168 1 9 := ⟨Or.inl (List.mem_of_getElem? (i := 748) (by decide +kernel)), List.mem_of_getElem? (i := 750) (by decide +kernel), List.mem_of_getElem? (i := 24) (by decide +kernel), ⟨8, _, _, rfl, rfl⟩, ⟨0, rfl, by decide +kernel⟩, my_168⟩
theorem mpV_8_29 : mj_okV lw_tbl mj_CL "UnbeatenHouse$Reader" 204 mm_169 2 9 := ⟨Or.inl (List.mem_of_getElem? (i := 752) (by decide +kernel)), List.mem_of_getElem? (i := 754) (by decide +kernel), List.mem_of_getElem? (i := 25) (by decide +kernel), ⟨8, _, _, rfl, rfl⟩, ⟨1, rfl, by decide +kernel⟩, my_169⟩
theorem mpV_8_30 : mj_okV lw_tbl mj_CL "UnbeatenHouse$Reader" 132 mm_170 1 9 := ⟨Or.inl (List.mem_of_getElem? (i := 756) (by decide +kernel)), List.mem_of_getElem? (i := 758) (by decide +kernel), List.mem_of_getElem? (i := 26) (by decide +kernel), ⟨8, _, _, rfl, rfl⟩, ⟨0, rfl, by decide +kernel⟩, my_170⟩
theorem mpV_8_31 : mj_okV lw_tbl mj_CL "UnbeatenHouse$Reader" 135 mm_171 1 9 := ⟨Or.inl (List.mem_of_getElem? (i := 760) (by decide +kernel)), List.mem_of_getElem? (i := 762) (by decide +kernel), List.mem_of_getElem? (i := 27) (by decide +kernel), ⟨8, _, _, rfl, rfl⟩, ⟨0, rfl, by decide +kernel⟩, my_171⟩
theorem mpS_8_0 : mj_okS lw_tbl "UnbeatenHouse$Reader" 77 mm_140 1 := ⟨Or.inl (List.mem_of_getElem? (i := 629) (by decide +kernel)), List.mem_of_getElem? (i := 630) (by decide +kernel), by decide +kernel, my_140⟩
theorem mpS_8_1 : mj_okS lw_tbl "UnbeatenHouse$Reader" 81 mm_0 2 := ⟨Or.inl (List.mem_of_getElem? (i := 632) (by decide +kernel)), List.mem_of_getElem? (i := 633) (by decide +kernel), by decide +kernel, my_0⟩
theorem mpS_8_2 : mj_okS lw_tbl "UnbeatenHouse$Reader" 157 mm_154 3 := ⟨Or.inl (List.mem_of_getElem? (i := 690) (by decide +kernel)), List.mem_of_getElem? (i := 691) (by decide +kernel), by decide +kernel, my_154⟩
theorem mpq_8 : mj_okQ lw_tbl mj_CL mj_MS "UnbeatenHouse$Reader" mp_8 := ⟨List.forall_mem_cons.mpr ⟨mpF_8_0, List.forall_mem_cons.mpr ⟨mpF_8_1, List.forall_mem_cons.mpr ⟨mpF_8_2, List.forall_mem_cons.mpr ⟨mpF_8_3, List.forall_mem_cons.mpr ⟨mpF_8_4, List.forall_mem_cons.mpr ⟨mpF_8_5, List.forall_mem_cons.mpr ⟨mpF_8_6, List.forall_mem_cons.mpr ⟨mpF_8_7, List.forall_mem_cons.mpr ⟨mpF_8_8, List.forall_mem_cons.mpr ⟨mpF_8_9, List.forall_mem_cons.mpr ⟨mpF_8_10, List.forall_mem_cons.mpr ⟨mpF_8_11, List.forall_mem_cons.mpr ⟨mpF_8_12, List.forall_mem_cons.mpr ⟨mpF_8_13, List.forall_mem_cons.mpr ⟨mpF_8_14, List.forall_mem_cons.mpr ⟨mpF_8_15, List.forall_mem_cons.mpr ⟨mpF_8_16, List.forall_mem_cons.mpr ⟨mpF_8_17, List.forall_mem_cons.mpr ⟨mpF_8_18, List.forall_mem_cons.mpr ⟨mpF_8_19, List.forall_mem_cons.mpr ⟨mpF_8_20, fun _ h => absurd h List.not_mem_nil⟩⟩⟩⟩⟩⟩⟩⟩⟩⟩⟩⟩⟩⟩⟩⟩⟩⟩⟩⟩⟩, List.forall_mem_cons.mpr ⟨mpV_8_0, List.forall_mem_cons.mpr ⟨mpV_8_1, List.forall_mem_cons.mpr ⟨mpV_8_2, List.forall_mem_cons.mpr ⟨mpV_8_3, List.forall_mem_cons.mpr ⟨mpV_8_4, List.forall_mem_cons.mpr ⟨mpV_8_5, List.forall_mem_cons.mpr ⟨mpV_8_6, List.forall_mem_cons.mpr ⟨mpV_8_7, List.forall_mem_cons.mpr ⟨mpV_8_8, List.forall_mem_cons.mpr ⟨mpV_8_9, List.forall_mem_cons.mpr ⟨mpV_8_10, List.forall_mem_cons.mpr ⟨mpV_8_11, List.forall_mem_cons.mpr ⟨mpV_8_12, List.forall_mem_cons.mpr ⟨mpV_8_13, List.forall_mem_cons.mpr ⟨mpV_8_14, List.forall_mem_cons.mpr ⟨mpV_8_15, List.forall_mem_cons.mpr ⟨mpV_8_16, List.forall_mem_cons.mpr ⟨mpV_8_17, List.forall_mem_cons.mpr ⟨mpV_8_18, List.forall_mem_cons.mpr ⟨mpV_8_19, List.forall_mem_cons.mpr ⟨mpV_8_20, List.forall_mem_cons.mpr ⟨mpV_8_21, List.forall_mem_cons.mpr ⟨mpV_8_22, List.forall_mem_cons.mpr ⟨mpV_8_23, List.forall_mem_cons.mpr ⟨mpV_8_24, List.forall_mem_cons.mpr ⟨mpV_8_25, List.forall_mem_cons.mpr ⟨mpV_8_26, List.forall_mem_cons.mpr ⟨mpV_8_27, List.forall_mem_cons.mpr ⟨mpV_8_28, List.forall_mem_cons.mpr ⟨mpV_8_29, List.forall_mem_cons.mpr ⟨mpV_8_30, List.forall_mem_cons.mpr ⟨mpV_8_31, fun _ h => absurd h List.not_mem_nil⟩⟩⟩⟩⟩⟩⟩⟩⟩⟩⟩⟩⟩⟩⟩⟩⟩⟩⟩⟩⟩⟩⟩⟩⟩⟩⟩⟩⟩⟩⟩⟩, List.forall_mem_cons.mpr ⟨mpS_8_0, List.forall_mem_cons.mpr ⟨mpS_8_1, List.forall_mem_cons.mpr ⟨mpS_8_2, fun _ h => absurd h List.not_mem_nil⟩⟩⟩, fun _ h => absurd h List.not_mem_nil, fun _ h => absurd h List.not_mem_nil, fun _ h => absurd h List.not_mem_nil⟩
def mp_9 : mj_Q := ([(24, 11, 1, true), (51, 11, 4, true), (62, 11, 5, true), (29, 9, 0, false), (33, 9, 1, false), (9, 9, 2, true), (15, 9, 3, true), (18, 9, 4, true), (36, 9, 5, false), (48, 9, 6, false), (21, 9, 7, true)], [(40, 174, 4, 10), (58, 175, 3, 12), (44, 176, 3, 10), (73, 177, 2, 10), (77, 179, 5, 10), (83, 182, 2, 3), (87, 205, 4, 3), (94, 239, 4, 13)], [(54, 154, 3), (65, 178, 2), (69, 180, 5), (100, 0, 2)], [(93, 2147483647)], [], [])
theorem mpF_9_0 : mj_okF lw_tbl mj_CL "UnbeatenHouse$Rows" 24 11 1 ∧ (true = false → ∃ q, mj_CL[11]? = some q ∧ (q.2.1 1).2.2.2 = false) := ⟨⟨_, _, _, rfl, by decide, Or.inr ⟨"UnbeatenHouse", List.mem_of_getElem? (i := 174) (by decide +kernel)⟩⟩, fun h => absurd h (by decide)⟩
theorem mpF_9_1 : mj_okF lw_tbl mj_CL "UnbeatenHouse$Rows" 51 11 4 ∧ (true = false → ∃ q, mj_CL[11]? = some q ∧ (q.2.1 4).2.2.2 = false) := ⟨⟨_, _, _, rfl, by decide, Or.inr ⟨"UnbeatenHouse", List.mem_of_getElem? (i := 184) (by decide +kernel)⟩⟩, fun h => absurd h (by decide)⟩
theorem mpF_9_2 : mj_okF lw_tbl mj_CL "UnbeatenHouse$Rows" 62 11 5 ∧ (true = false → ∃ q, mj_CL[11]? = some q ∧ (q.2.1 5).2.2.2 = false) := ⟨⟨_, _, _, rfl, by decide, Or.inr ⟨"UnbeatenHouse", List.mem_of_getElem? (i := 189) (by decide +kernel)⟩⟩, fun h => absurd h (by decide)⟩
theorem mpF_9_3 : mj_okF lw_tbl mj_CL "UnbeatenHouse$Rows" 29 9 0 ∧ (false = false → ∃ q, mj_CL[9]? = some q ∧ (q.2.1 0).2.2.2 = false) := ⟨⟨_, _, _, rfl, by decide, Or.inl (List.mem_of_getElem? (i := 326) (by decide +kernel))⟩, fun _ => ⟨_, rfl, by decide +kernel⟩⟩
theorem mpF_9_4 : mj_okF lw_tbl mj_CL "UnbeatenHouse$Rows" 33 9 1 ∧ (false = false → ∃ q, mj_CL[9]? = some q ∧ (q.2.1 1).2.2.2 = false) := ⟨⟨_, _, _, rfl, by decide, Or.inl (List.mem_of_getElem? (i := 329) (by decide +kernel))⟩, fun _ => ⟨_, rfl, by decide +kernel⟩⟩
theorem mpF_9_5 : mj_okF lw_tbl mj_CL "UnbeatenHouse$Rows" 9 9 2 ∧ (true = false → ∃ q, mj_CL[9]? = some q ∧ (q.2.1 2).2.2.2 = false) := ⟨⟨_, _, _, rfl, by decide, Or.inl (List.mem_of_getElem? (i := 331) (by decide +kernel))⟩, fun h => absurd h (by decide)⟩
theorem mpF_9_6 : mj_okF lw_tbl mj_CL "UnbeatenHouse$Rows" 15 9 3 ∧ (true = false → ∃ q, mj_CL[9]? = some q ∧ (q.2.1 3).2.2.2 = false) := ⟨⟨_, _, _, rfl, by decide, Or.inl (List.mem_of_getElem? (i := 334) (by decide +kernel))⟩, fun h => absurd h (by decide)⟩
theorem mpF_9_7 : mj_okF lw_tbl mj_CL "UnbeatenHouse$Rows" 18 9 4 ∧ (true = false → ∃ q, mj_CL[9]? = some q ∧ (q.2.1 4).2.2.2 = false) := ⟨⟨_, _, _, rfl, by decide, Or.inl (List.mem_of_getElem? (i := 336) (by decide +kernel))⟩, fun h => absurd h (by decide)⟩
theorem mpF_9_8 : mj_okF lw_tbl mj_CL "UnbeatenHouse$Rows" 36 9 5 ∧ (false = false → ∃ q, mj_CL[9]? = some q ∧ (q.2.1 5).2.2.2 = false) := ⟨⟨_, _, _, rfl, by decide, Or.inl (List.mem_of_getElem? (i := 338) (by decide +kernel))⟩, fun _ => ⟨_, rfl, by decide +kernel⟩⟩
theorem mpF_9_9 : mj_okF lw_tbl mj_CL "UnbeatenHouse$Rows" 48 9 6 ∧ (false = false → ∃ q, mj_CL[9]? = some q ∧ (q.2.1 6).2.2.2 = false) := ⟨⟨_, _, _, rfl, by decide, Or.inl (List.mem_of_getElem? (i := 339) (by decide +kernel))⟩, fun _ => ⟨_, rfl, by decide +kernel⟩⟩
theorem mpF_9_10 : mj_okF lw_tbl mj_CL "UnbeatenHouse$Rows" 21 9 7 ∧ (true = false → ∃ q, mj_CL[9]? = some q ∧ (q.2.1 7).2.2.2 = false) := ⟨⟨_, _, _, rfl, by decide, Or.inl (List.mem_of_getElem? (i := 343) (by decide +kernel))⟩, fun h => absurd h (by decide)⟩
theorem mpV_9_0 : mj_okV lw_tbl mj_CL "UnbeatenHouse$Rows" 40 mm_174 4 10 := ⟨Or.inl (List.mem_of_getElem? (i := 772) (by decide +kernel)), List.mem_of_getElem? (i := 774) (by decide +kernel), List.mem_of_getElem? (i := 28) (by decide +kernel), ⟨9, _, _, rfl, rfl⟩, ⟨3, rfl, by decide +kernel⟩, my_174⟩
theorem mpV_9_1 : mj_okV lw_tbl mj_CL "UnbeatenHouse$Rows" 58 mm_175 3 12 := ⟨Or.inl (List.mem_of_getElem? (i := 777) (by decide +kernel)), List.mem_of_getElem? (i := 778) (by decide +kernel), List.mem_of_getElem? (i := 779) (by decide +kernel), ⟨11, _, _, rfl, rfl⟩, ⟨2, rfl, by decide +kernel⟩, my_175⟩
theorem mpV_9_2 : mj_okV lw_tbl mj_CL "UnbeatenHouse$Rows" 44 mm_176 3 10 := ⟨Or.inl (List.mem_of_getElem? (i := 781) (by decide +kernel)), List.mem_of_getElem? (i := 782) (by decide +kernel), List.mem_of_getElem? (i := 783) (by decide +kernel), ⟨9, _, _, rfl, rfl⟩, ⟨2, rfl, by decide +kernel⟩, my_176⟩
theorem mpV_9_3 : mj_okV lw_tbl mj_CL "UnbeatenHouse$Rows" 73 mm_177 2 10 := ⟨Or.inl (List.mem_of_getElem? (i := 785) (by decide +kernel)), List.mem_of_getElem? (i := 786) (by decide +kernel), List.mem_of_getElem? (i := 787) (by decide +kernel), ⟨9, _, _, rfl, rfl⟩, ⟨1, rfl, by decide +kernel⟩, my_177⟩
theorem mpV_9_4 : mj_okV lw_tbl mj_CL "UnbeatenHouse$Rows" 77 mm_179 5 10 := ⟨Or.inl (List.mem_of_getElem? (i := 792) (by decide +kernel)), List.mem_of_getElem? (i := 793) (by decide +kernel), List.mem_of_getElem? (i := 794) (by decide +kernel), ⟨9, _, _, rfl, rfl⟩, ⟨4, rfl, by decide +kernel⟩, my_179⟩
theorem mpV_9_5 : mj_okV lw_tbl mj_CL "UnbeatenHouse$Rows" 83 mm_182 2 3 := ⟨Or.inl (List.mem_of_getElem? (i := 906) (by decide +kernel)), List.mem_of_getElem? (i := 804) (by decide +kernel), List.mem_of_getElem? (i := 805) (by decide +kernel), ⟨2, _, _, rfl, rfl⟩, ⟨1, rfl, by decide +kernel⟩, my_182⟩
theorem mpV_9_6 : mj_okV lw_tbl mj_CL "UnbeatenHouse$Rows" 87 mm_205 4 3 := ⟨Or.inl (List.mem_of_getElem? (i := 907) (by decide +kernel)), List.mem_of_getElem? (i := 908) (by decide +kernel), List.mem_of_getElem? (i := 909) (by decide +kernel), ⟨2, _, _, rfl, rfl⟩, ⟨3, rfl, by decide +kernel⟩, my_205⟩
theorem mpV_9_7 : mj_okV lw_tbl mj_CL "UnbeatenHouse$Rows" 94 mm_239 4 13 := ⟨Or.inl (List.mem_of_getElem? (i := 1179) (by decide +kernel)), List.mem_of_getElem? (i := 1070) (by decide +kernel), List.mem_of_getElem? (i := 1071) (by decide +kernel), ⟨12, _, _, rfl, rfl⟩, ⟨3, rfl, by decide +kernel⟩, my_239⟩
theorem mpS_9_0 : mj_okS lw_tbl "UnbeatenHouse$Rows" 54 mm_154 3 := ⟨Or.inl (List.mem_of_getElem? (i := 776) (by decide +kernel)), List.mem_of_getElem? (i := 691) (by decide +kernel), by decide +kernel, my_154⟩
theorem mpS_9_1 : mj_okS lw_tbl "UnbeatenHouse$Rows" 65 mm_178 2 := ⟨Or.inr ⟨"UnbeatenHouse", List.mem_of_getElem? (i := 789) (by decide +kernel)⟩, List.mem_of_getElem? (i := 790) (by decide +kernel), by decide +kernel, my_178⟩
theorem mpS_9_2 : mj_okS lw_tbl "UnbeatenHouse$Rows" 69 mm_180 5 := ⟨Or.inr ⟨"UnbeatenHouse", List.mem_of_getElem? (i := 796) (by decide +kernel)⟩, List.mem_of_getElem? (i := 797) (by decide +kernel), by decide +kernel, my_180⟩
theorem mpS_9_3 : mj_okS lw_tbl "UnbeatenHouse$Rows" 100 mm_0 2 := ⟨Or.inl (List.mem_of_getElem? (i := 1180) (by decide +kernel)), List.mem_of_getElem? (i := 633) (by decide +kernel), by decide +kernel, my_0⟩
theorem mpC_9_0 : Cond.constant "UnbeatenHouse$Rows" 93 2147483647 ∈ lw_tbl := List.mem_of_getElem? (i := 1178) (by decide +kernel)
theorem mpq_9 : mj_okQ lw_tbl mj_CL mj_MS "UnbeatenHouse$Rows" mp_9 := ⟨List.forall_mem_cons.mpr ⟨mpF_9_0, List.forall_mem_cons.mpr ⟨mpF_9_1, List.forall_mem_cons.mpr ⟨mpF_9_2, List.forall_mem_cons.mpr ⟨mpF_9_3, List.forall_mem_cons.mpr ⟨mpF_9_4, List.forall_mem_cons.mpr ⟨mpF_9_5, List.forall_mem_cons.mpr ⟨mpF_9_6, List.forall_mem_cons.mpr ⟨mpF_9_7, List.forall_mem_cons.mpr ⟨mpF_9_8, List.forall_mem_cons.mpr ⟨mpF_9_9, List.forall_mem_cons.mpr ⟨mpF_9_10, fun _ h => absurd h List.not_mem_nil⟩⟩⟩⟩⟩⟩⟩⟩⟩⟩⟩, List.forall_mem_cons.mpr ⟨mpV_9_0, List.forall_mem_cons.mpr ⟨mpV_9_1, List.forall_mem_cons.mpr ⟨mpV_9_2, List.forall_mem_cons.mpr ⟨mpV_9_3, List.forall_mem_cons.mpr ⟨mpV_9_4, List.forall_mem_cons.mpr ⟨mpV_9_5, List.forall_mem_cons.mpr ⟨mpV_9_6, List.forall_mem_cons.mpr ⟨mpV_9_7, fun _ h => absurd h List.not_mem_nil⟩⟩⟩⟩⟩⟩⟩⟩, List.forall_mem_cons.mpr ⟨mpS_9_0, List.forall_mem_cons.mpr ⟨mpS_9_1, List.forall_mem_cons.mpr ⟨mpS_9_2, List.forall_mem_cons.mpr ⟨mpS_9_3, fun _ h => absurd h List.not_mem_nil⟩⟩⟩⟩, List.forall_mem_cons.mpr ⟨mpC_9_0, fun _ h => absurd h List.not_mem_nil⟩, fun _ h => absurd h List.not_mem_nil, fun _ h => absurd h List.not_mem_nil⟩
def mp_10 : mj_Q := ([(65, 9, 0, false), (36, 9, 2, true), (66, 9, 6, false), (78, 9, 7, true), (49, 12, 2, false), (26, 10, 0, false), (9, 10, 1, true), (15, 10, 2, true), (18, 10, 3, true), (22, 10, 4, true), (93, 10, 5, false), (96, 10, 6, false), (62, 10, 7, false)], [(45, 261, 5, 11), (30, 177, 2, 10), (39, 239, 4, 13), (50, 260, 4, 11), (54, 263, 4, 10), (58, 266, 3, 11), (74, 267, 3, 11), (99, 270, 4, 11), (103, 271, 2, 11)], [(70, 178, 2), (81, 2, 1), (87, 1, 2), (107, 272, 2), (111, 3, 1)], [], [], [])
theorem mpF_10_0 : mj_okF lw_tbl mj_CL "UnbeatenHouse$Sayings" 65 9 0 ∧ (false = false → ∃ q, mj_CL[9]? = some q ∧ (q.2.1 0).2.2.2 = false) := ⟨⟨_, _, _, rfl, by decide, Or.inr ⟨"UnbeatenHouse", List.mem_of_getElem? (i := 328) (by decide +kernel)⟩⟩, fun _ => ⟨_, rfl, by decide +kernel⟩⟩
theorem mpF_10_1 : mj_okF lw_tbl mj_CL "UnbeatenHouse$Sayings" 36 9 2 ∧ (true = false → ∃ q, mj_CL[9]? = some q ∧ (q.2.1 2).2.2.2 = false) := ⟨⟨_, _, _, rfl, by decide, Or.inr ⟨"UnbeatenHouse", List.mem_of_getElem? (i := 332) (by decide +kernel)⟩⟩, fun h => absurd h (by decide)⟩
theorem mpF_10_2 : mj_okF lw_tbl mj_CL "UnbeatenHouse$Sayings" 66 9 6 ∧ (false = false → ∃ q, mj_CL[9]? = some q ∧ (q.2.1 6).2.2.2 = false) := ⟨⟨_, _, _, rfl, by decide, Or.inr ⟨"UnbeatenHouse", List.mem_of_getElem? (i := 341) (by decide +kernel)⟩⟩, fun _ => ⟨_, rfl, by decide +kernel⟩⟩
theorem mpF_10_3 : mj_okF lw_tbl mj_CL "UnbeatenHouse$Sayings" 78 9 7 ∧ (true = false → ∃ q, mj_CL[9]? = some q ∧ (q.2.1 7).2.2.2 = false) := ⟨⟨_, _, _, rfl, by decide, Or.inr ⟨"UnbeatenHouse", List.mem_of_getElem? (i := 344) (by decide +kernel)⟩⟩, fun h => absurd h (by decide)⟩
theorem mpF_10_4 : mj_okF lw_tbl mj_CL "UnbeatenHouse$Sayings" 49 12 2 ∧ (false = false → ∃ q, mj_CL[12]? = some q ∧ (q.2.1 2).2.2.2 = false) := ⟨⟨_, _, _, rfl, by decide, Or.inr ⟨"UnbeatenHouse", List.mem_of_getElem? (i := 475) (by decide +kernel)⟩⟩, fun _ => ⟨_, rfl, by decide +kernel⟩⟩
theorem mpF_10_5 : mj_okF lw_tbl mj_CL "UnbeatenHouse$Sayings" 26 10 0 ∧ (false = false → ∃ q, mj_CL[10]? = some q ∧ (q.2.1 0).2.2.2 = false) := ⟨⟨_, _, _, rfl, by decide, Or.inl (List.mem_of_getElem? (i := 494) (by decide +kernel))⟩, fun _ => ⟨_, rfl, by decide +kernel⟩⟩
theorem mpF_10_6 : mj_okF lw_tbl mj_CL "UnbeatenHouse$Sayings" 9 10 1 ∧ (true = false → ∃ q, mj_CL[10]? = some q ∧ (q.2.1 1).2.2.2 = false) := ⟨⟨_, _, _, rfl, by decide, Or.inl (List.mem_of_getElem? (i := 496) (by decide +kernel))⟩, fun h => absurd h (by decide)⟩
theorem mpF_10_7 : mj_okF lw_tbl mj_CL "UnbeatenHouse$Sayings" 15 10 2 ∧ (true = false → ∃ q, mj_CL[10]? = some q ∧ (q.2.1 2).2.2.2 = false) := ⟨⟨_, _, _, rfl, by decide, Or.inl (List.mem_of_getElem? (i := 497) (by decide +kernel))⟩, fun h => absurd h (by decide)⟩
theorem mpF_10_8 : mj_okF lw_tbl mj_CL "UnbeatenHouse$Sayings" 18 10 3 ∧ (true = false → ∃ q, mj_CL[10]? = some q ∧ (q.2.1 3).2.2.2 = false) := ⟨⟨_, _, _, rfl, by decide, Or.inl (List.mem_of_getElem? (i := 498) (by decide +kernel))⟩, fun h => absurd h (by decide)⟩
theorem mpF_10_9 : mj_okF lw_tbl mj_CL "UnbeatenHouse$Sayings" 22 10 4 ∧ (true = false → ∃ q, mj_CL[10]? = some q ∧ (q.2.1 4).2.2.2 = false) := ⟨⟨_, _, _, rfl, by decide, Or.inl (List.mem_of_getElem? (i := 499) (by decide +kernel))⟩, fun h => absurd h (by decide)⟩
theorem mpF_10_10 : mj_okF lw_tbl mj_CL "UnbeatenHouse$Sayings" 93 10 5 ∧ (false = false → ∃ q, mj_CL[10]? = some q ∧ (q.2.1 5).2.2.2 = false) := ⟨⟨_, _, _, rfl, by decide, Or.inl (List.mem_of_getElem? (i := 500) (by decide +kernel))⟩, fun _ => ⟨_, rfl, by decide +kernel⟩⟩
theorem mpF_10_11 : mj_okF lw_tbl mj_CL "UnbeatenHouse$Sayings" 96 10 6 ∧ (false = false → ∃ q, mj_CL[10]? = some q ∧ (q.2.1 6).2.2.2 = false) := ⟨⟨_, _, _, rfl, by decide, Or.inl (List.mem_of_getElem? (i := 502) (by decide +kernel))⟩, fun _ => ⟨_, rfl, by decide +kernel⟩⟩
theorem mpF_10_12 : mj_okF lw_tbl mj_CL "UnbeatenHouse$Sayings" 62 10 7 ∧ (false = false → ∃ q, mj_CL[10]? = some q ∧ (q.2.1 7).2.2.2 = false) := ⟨⟨_, _, _, rfl, by decide, Or.inl (List.mem_of_getElem? (i := 504) (by decide +kernel))⟩, fun _ => ⟨_, rfl, by decide +kernel⟩⟩
theorem mpV_10_0 : mj_okV lw_tbl mj_CL "UnbeatenHouse$Sayings" 45 mm_261 5 11 := ⟨Or.inl (List.mem_of_getElem? (i := 1164) (by decide +kernel)), List.mem_of_getElem? (i := 1166) (by decide +kernel), List.mem_of_getElem? (i := 48) (by decide +kernel), ⟨10, _, _, rfl, rfl⟩, ⟨4, rfl, by decide +kernel⟩, my_261⟩
theorem mpV_10_1 : mj_okV lw_tbl mj_CL "UnbeatenHouse$Sayings" 30 mm_177 2 10 := ⟨Or.inl (List.mem_of_getElem? (i := 1168) (by decide +kernel)), List.mem_of_getElem? (i := 786) (by decide +kernel), List.mem_of_getElem? (i := 787) (by decide +kernel), ⟨9, _, _, rfl, rfl⟩, ⟨1, rfl, by decide +kernel⟩, my_177⟩
theorem mpV_10_2 : mj_okV lw_tbl mj_CL "UnbeatenHouse$Sayings" 39 mm_239 4 13 := ⟨Or.inl (List.mem_of_getElem? (i := 1169) (by decide +kernel)), List.mem_of_getElem? (i := 1070) (by decide +kernel), List.mem_of_getElem? (i := 1071) (by decide +kernel), ⟨12, _, _, rfl, rfl⟩, ⟨3, rfl, by decide +kernel⟩, my_239⟩
theorem mpV_10_3 : mj_okV lw_tbl mj_CL "UnbeatenHouse$Sayings" 50 mm_260 4 11 := ⟨Or.inl (List.mem_of_getElem? (i := 1189) (by decide +kernel)), List.mem_of_getElem? (i := 1161) (by decide +kernel), List.mem_of_getElem? (i := 1162) (by decide +kernel), ⟨10, _, _, rfl, rfl⟩, ⟨3, rfl, by decide +kernel⟩, my_260⟩
theorem mpV_10_4 : mj_okV lw_tbl mj_CL "UnbeatenHouse$Sayings" 54 mm_263 4 10 := ⟨Or.inl (List.mem_of_getElem? (i := 1190) (by decide +kernel)), List.mem_of_getElem? (i := 1175) (by decide +kernel), List.mem_of_getElem? (i := 1176) (by decide +kernel), ⟨9, _, _, rfl, rfl⟩, ⟨3, rfl, by decide +kernel⟩, my_263⟩
theorem mpV_10_5 : mj_okV lw_tbl mj_CL "UnbeatenHouse$Sayings" 58 mm_266 3 11 := ⟨Or.inl (List.mem_of_getElem? (i := 1191) (by decide +kernel)), List.mem_of_getElem? (i := 1193) (by decide +kernel), List.mem_of_getElem? (i := 49) (by decide +kernel), ⟨10, _, _, rfl, rfl⟩, ⟨2, rfl, by decide +kernel⟩, my_266⟩
theorem mpV_10_6 : mj_okV lw_tbl mj_CL "UnbeatenHouse$Sayings" 74 mm_267 3 11 := ⟨Or.inl (List.mem_of_getElem? (i := 1196) (by decide +kernel)), List.mem_of_getElem? (i := 1198) (by decide +kernel), List.mem_of_getElem? (i := 50) (by decide +kernel), ⟨10, _, _, rfl, rfl⟩, ⟨2, rfl, by decide +kernel⟩, my_267⟩
theorem mpV_10_7 : mj_okV lw_tbl mj_CL "UnbeatenHouse$Sayings" 99 mm_270 4 11 := ⟨Or.inl (List.mem_of_getElem? (i := 1210) (by decide +kernel)), List.mem_of_getElem? (i := 1212) (by decide +kernel), List.mem_of_getElem? (i := 51) (by decide +kernel), ⟨10, _, _, rfl, rfl⟩, ⟨3, rfl, by decide +kernel⟩, my_270⟩
theorem mpV_10_8 : mj_okV lw_tbl mj_CL "UnbeatenHouse$Sayings" 103 mm_271 2 11 := ⟨Or.inl (List.mem_of_getElem? (i := 1214) (by decide +kernel)), List.mem_of_getElem? (i := 1216) (by decide +kernel), List.mem_of_getElem? (i := 52) (by decide +kernel), ⟨10, _, _, rfl, rfl⟩, ⟨1, rfl, by decide +kernel⟩, my_271⟩
theorem mpS_10_0 : mj_okS lw_tbl "UnbeatenHouse$Sayings" 70 mm_178 2 := ⟨Or.inr ⟨"UnbeatenHouse", List.mem_of_getElem? (i := 1195) (by decide +kernel)⟩, List.mem_of_getElem? (i := 790) (by decide +kernel), by decide +kernel, my_178⟩
theorem mpS_10_1 : mj_okS lw_tbl "UnbeatenHouse$Sayings" 81 mm_2 1 := ⟨Or.inl (List.mem_of_getElem? (i := 1200) (by decide +kernel)), List.mem_of_getElem? (i := 874) (by decide +kernel), by decide +kernel, my_2⟩
theorem mpS_10_2 : mj_okS lw_tbl "UnbeatenHouse$Sayings" 87 mm_1 2 := ⟨Or.inl (List.mem_of_getElem? (i := 1201) (by decide +kernel)), List.mem_of_getElem? (i := 734) (by decide +kernel), by decide +kernel, my_1⟩
theorem mpS_10_3 : mj_okS lw_tbl "UnbeatenHouse$Sayings" 107 mm_272 2 := ⟨Or.inl (List.mem_of_getElem? (i := 1218) (by decide +kernel)), List.mem_of_getElem? (i := 1219) (by decide +kernel), by decide +kernel, my_272⟩
theorem mpS_10_4 : mj_okS lw_tbl "UnbeatenHouse$Sayings" 111 mm_3 1 := ⟨Or.inl (List.mem_of_getElem? (i := 1221) (by decide +kernel)), List.mem_of_getElem? (i := 1002) (by decide +kernel), by decide +kernel, my_3⟩
theorem mpq_10 : mj_okQ lw_tbl mj_CL mj_MS "UnbeatenHouse$Sayings" mp_10 := ⟨List.forall_mem_cons.mpr ⟨mpF_10_0, List.forall_mem_cons.mpr ⟨mpF_10_1, List.forall_mem_cons.mpr ⟨mpF_10_2, List.forall_mem_cons.mpr ⟨mpF_10_3, List.forall_mem_cons.mpr ⟨mpF_10_4, List.forall_mem_cons.mpr ⟨mpF_10_5, List.forall_mem_cons.mpr ⟨mpF_10_6, List.forall_mem_cons.mpr ⟨mpF_10_7, List.forall_mem_cons.mpr ⟨mpF_10_8, List.forall_mem_cons.mpr ⟨mpF_10_9, List.forall_mem_cons.mpr ⟨mpF_10_10, List.forall_mem_cons.mpr ⟨mpF_10_11, List.forall_mem_cons.mpr ⟨mpF_10_12, fun _ h => absurd h List.not_mem_nil⟩⟩⟩⟩⟩⟩⟩⟩⟩⟩⟩⟩⟩, List.forall_mem_cons.mpr ⟨mpV_10_0, List.forall_mem_cons.mpr ⟨mpV_10_1, List.forall_mem_cons.mpr ⟨mpV_10_2, List.forall_mem_cons.mpr ⟨mpV_10_3, List.forall_mem_cons.mpr ⟨mpV_10_4, List.forall_mem_cons.mpr ⟨mpV_10_5, List.forall_mem_cons.mpr ⟨mpV_10_6, List.forall_mem_cons.mpr ⟨mpV_10_7, List.forall_mem_cons.mpr ⟨mpV_10_8, fun _ h => absurd h List.not_mem_nil⟩⟩⟩⟩⟩⟩⟩⟩⟩, List.forall_mem_cons.mpr ⟨mpS_10_0, List.forall_mem_cons.mpr ⟨mpS_10_1, List.forall_mem_cons.mpr ⟨mpS_10_2, List.forall_mem_cons.mpr ⟨mpS_10_3, List.forall_mem_cons.mpr ⟨mpS_10_4, fun _ h => absurd h List.not_mem_nil⟩⟩⟩⟩⟩, fun _ h => absurd h List.not_mem_nil, fun _ h => absurd h List.not_mem_nil, fun _ h => absurd h List.not_mem_nil⟩
def mp_11 : mj_Q := ([(40, 11, 0, false), (9, 11, 1, true), (15, 11, 2, true), (18, 11, 3, true), (22, 11, 4, true), (25, 11, 5, true), (28, 11, 6, true), (31, 11, 7, true), (34, 11, 8, true), (44, 11, 9, false), (37, 11, 10, true)], [(47, 149, 3, 12)], [(51, 1, 2)], [], [], [])
theorem mpF_11_0 : mj_okF lw_tbl mj_CL "UnbeatenHouse$Tale" 40 11 0 ∧ (false = false → ∃ q, mj_CL[11]? = some q ∧ (q.2.1 0).2.2.2 = false) := ⟨⟨_, _, _, rfl, by decide, Or.inl (List.mem_of_getElem? (i := 170) (by decide +kernel))⟩, fun _ => ⟨_, rfl, by decide +kernel⟩⟩
theorem mpF_11_1 : mj_okF lw_tbl mj_CL "UnbeatenHouse$Tale" 9 11 1 ∧ (true = false → ∃ q, mj_CL[11]? = some q ∧ (q.2.1 1).2.2.2 = false) := ⟨⟨_, _, _, rfl, by decide, Or.inl (List.mem_of_getElem? (i := 173) (by decide +kernel))⟩, fun h => absurd h (by decide)⟩
theorem mpF_11_2 : mj_okF lw_tbl mj_CL "UnbeatenHouse$Tale" 15 11 2 ∧ (true = false → ∃ q, mj_CL[11]? = some q ∧ (q.2.1 2).2.2.2 = false) := ⟨⟨_, _, _, rfl, by decide, Or.inl (List.mem_of_getElem? (i := 179) (by decide +kernel))⟩, fun h => absurd h (by decide)⟩
theorem mpF_11_3 : mj_okF lw_tbl mj_CL "UnbeatenHouse$Tale" 18 11 3 ∧ (true = false → ∃ q, mj_CL[11]? = some q ∧ (q.2.1 3).2.2.2 = false) := ⟨⟨_, _, _, rfl, by decide, Or.inl (List.mem_of_getElem? (i := 181) (by decide +kernel))⟩, fun h => absurd h (by decide)⟩
theorem mpF_11_4 : mj_okF lw_tbl mj_CL "UnbeatenHouse$Tale" 22 11 4 ∧ (true = false → ∃ q, mj_CL[11]? = some q ∧ (q.2.1 4).2.2.2 = false) := ⟨⟨_, _, _, rfl, by decide, Or.inl (List.mem_of_getElem? (i := 183) (by decide +kernel))⟩, fun h => absurd h (by decide)⟩
theorem mpF_11_5 : mj_okF lw_tbl mj_CL "UnbeatenHouse$Tale" 25 11 5 ∧ (true = false → ∃ q, mj_CL[11]? = some q ∧ (q.2.1 5).2.2.2 = false) := ⟨⟨_, _, _, rfl, by decide, Or.inl (List.mem_of_getElem? (i := 188) (by decide +kernel))⟩, fun h => absurd h (by decide)⟩
theorem mpF_11_6 : mj_okF lw_tbl mj_CL "UnbeatenHouse$Tale" 28 11 6 ∧ (true = false → ∃ q, mj_CL[11]? = some q ∧ (q.2.1 6).2.2.2 = false) := ⟨⟨_, _, _, rfl, by decide, Or.inl (List.mem_of_getElem? (i := 192) (by decide +kernel))⟩, fun h => absurd h (by decide)⟩
theorem mpF_11_7 : mj_okF lw_tbl mj_CL "UnbeatenHouse$Tale" 31 11 7 ∧ (true = false → ∃ q, mj_CL[11]? = some q ∧ (q.2.1 7).2.2.2 = false) := ⟨⟨_, _, _, rfl, by decide, Or.inl (List.mem_of_getElem? (i := 195) (by decide +kernel))⟩, fun h => absurd h (by decide)⟩
theorem mpF_11_8 : mj_okF lw_tbl mj_CL "UnbeatenHouse$Tale" 34 11 8 ∧ (true = false → ∃ q, mj_CL[11]? = some q ∧ (q.2.1 8).2.2.2 = false) := ⟨⟨_, _, _, rfl, by decide, Or.inl (List.mem_of_getElem? (i := 198) (by decide +kernel))⟩, fun h => absurd h (by decide)⟩
theorem mpF_11_9 : mj_okF lw_tbl mj_CL "UnbeatenHouse$Tale" 44 11 9 ∧ (false = false → ∃ q, mj_CL[11]? = some q ∧ (q.2.1 9).2.2.2 = false) := ⟨⟨_, _, _, rfl, by decide, Or.inl (List.mem_of_getElem? (i := 200) (by decide +kernel))⟩, fun _ => ⟨_, rfl, by decide +kernel⟩⟩
theorem mpF_11_10 : mj_okF lw_tbl mj_CL "UnbeatenHouse$Tale" 37 11 10 ∧ (true = false → ∃ q, mj_CL[11]? = some q ∧ (q.2.1 10).2.2.2 = false) := ⟨⟨_, _, _, rfl, by decide, Or.inl (List.mem_of_getElem? (i := 202) (by decide +kernel))⟩, fun h => absurd h (by decide)⟩
theorem mpV_11_0 : mj_okV lw_tbl mj_CL "UnbeatenHouse$Tale" 47 mm_149 3 12 := ⟨Or.inl (List.mem_of_getElem? (i := 669) (by decide +kernel)), List.mem_of_getElem? (i := 670) (by decide +kernel), List.mem_of_getElem? (i := 671) (by decide +kernel), ⟨11, _, _, rfl, rfl⟩, ⟨2, rfl, by decide +kernel⟩, my_149⟩
theorem mpS_11_0 : mj_okS lw_tbl "UnbeatenHouse$Tale" 51 mm_1 2 := ⟨Or.inl (List.mem_of_getElem? (i := 733) (by decide +kernel)), List.mem_of_getElem? (i := 734) (by decide +kernel), by decide +kernel, my_1⟩
theorem mpq_11 : mj_okQ lw_tbl mj_CL mj_MS "UnbeatenHouse$Tale" mp_11 := ⟨List.forall_mem_cons.mpr ⟨mpF_11_0, List.forall_mem_cons.mpr ⟨mpF_11_1, List.forall_mem_cons.mpr ⟨mpF_11_2, List.forall_mem_cons.mpr ⟨mpF_11_3, List.forall_mem_cons.mpr ⟨mpF_11_4, List.forall_mem_cons.mpr ⟨mpF_11_5, List.forall_mem_cons.mpr ⟨mpF_11_6, List.forall_mem_cons.mpr ⟨mpF_11_7, List.forall_mem_cons.mpr ⟨mpF_11_8, List.forall_mem_cons.mpr ⟨mpF_11_9, List.forall_mem_cons.mpr ⟨mpF_11_10, fun _ h => absurd h List.not_mem_nil⟩⟩⟩⟩⟩⟩⟩⟩⟩⟩⟩, List.forall_mem_cons.mpr ⟨mpV_11_0, fun _ h => absurd h List.not_mem_nil⟩, List.forall_mem_cons.mpr ⟨mpS_11_0, fun _ h => absurd h List.not_mem_nil⟩, fun _ h => absurd h List.not_mem_nil, fun _ h => absurd h List.not_mem_nil, fun _ h => absurd h List.not_mem_nil⟩
def mp_12 : mj_Q := ([(42, 2, 1, false), (33, 2, 2, true), (9, 12, 0, false), (19, 12, 1, false), (22, 12, 2, false), (15, 12, 3, true)], [(25, 187, 5, 13), (29, 188, 3, 13), (38, 239, 4, 13)], [], [], [], [])
theorem mpF_12_0 : mj_okF lw_tbl mj_CL "UnbeatenHouse$Weighings" 42 2 1 ∧ (false = false → ∃ q, mj_CL[2]? = some q ∧ (q.2.1 1).2.2.2 = false) := ⟨⟨_, _, _, rfl, by decide, Or.inr ⟨"UnbeatenHouse", List.mem_of_getElem? (i := 425) (by decide +kernel)⟩⟩, fun _ => ⟨_, rfl, by decide +kernel⟩⟩
theorem mpF_12_1 : mj_okF lw_tbl mj_CL "UnbeatenHouse$Weighings" 33 2 2 ∧ (true = false → ∃ q, mj_CL[2]? = some q ∧ (q.2.1 2).2.2.2 = false) := ⟨⟨_, _, _, rfl, by decide, Or.inr ⟨"UnbeatenHouse", List.mem_of_getElem? (i := 428) (by decide +kernel)⟩⟩, fun h => absurd h (by decide)⟩
theorem mpF_12_2 : mj_okF lw_tbl mj_CL "UnbeatenHouse$Weighings" 9 12 0 ∧ (false = false → ∃ q, mj_CL[12]? = some q ∧ (q.2.1 0).2.2.2 = false) := ⟨⟨_, _, _, rfl, by decide, Or.inl (List.mem_of_getElem? (i := 471) (by decide +kernel))⟩, fun _ => ⟨_, rfl, by decide +kernel⟩⟩
theorem mpF_12_3 : mj_okF lw_tbl mj_CL "UnbeatenHouse$Weighings" 19 12 1 ∧ (false = false → ∃ q, mj_CL[12]? = some q ∧ (q.2.1 1).2.2.2 = false) := ⟨⟨_, _, _, rfl, by decide, Or.inl (List.mem_of_getElem? (i := 473) (by decide +kernel))⟩, fun _ => ⟨_, rfl, by decide +kernel⟩⟩
theorem mpF_12_4 : mj_okF lw_tbl mj_CL "UnbeatenHouse$Weighings" 22 12 2 ∧ (false = false → ∃ q, mj_CL[12]? = some q ∧ (q.2.1 2).2.2.2 = false) := ⟨⟨_, _, _, rfl, by decide, Or.inl (List.mem_of_getElem? (i := 474) (by decide +kernel))⟩, fun _ => ⟨_, rfl, by decide +kernel⟩⟩
theorem mpF_12_5 : mj_okF lw_tbl mj_CL "UnbeatenHouse$Weighings" 15 12 3 ∧ (true = false → ∃ q, mj_CL[12]? = some q ∧ (q.2.1 3).2.2.2 = false) := ⟨⟨_, _, _, rfl, by decide, Or.inl (List.mem_of_getElem? (i := 477) (by decide +kernel))⟩, fun h => absurd h (by decide)⟩
theorem mpV_12_0 : mj_okV lw_tbl mj_CL "UnbeatenHouse$Weighings" 25 mm_187 5 13 := ⟨Or.inl (List.mem_of_getElem? (i := 823) (by decide +kernel)), List.mem_of_getElem? (i := 825) (by decide +kernel), List.mem_of_getElem? (i := 29) (by decide +kernel), ⟨12, _, _, rfl, rfl⟩, ⟨4, rfl, by decide +kernel⟩, my_187⟩
theorem mpV_12_1 : mj_okV lw_tbl mj_CL "UnbeatenHouse$Weighings" 29 mm_188 3 13 := ⟨Or.inl (List.mem_of_getElem? (i := 827) (by decide +kernel)), List.mem_of_getElem? (i := 829) (by decide +kernel), List.mem_of_getElem? (i := 30) (by decide +kernel), ⟨12, _, _, rfl, rfl⟩, ⟨2, rfl, by decide +kernel⟩, my_188⟩
theorem mpV_12_2 : mj_okV lw_tbl mj_CL "UnbeatenHouse$Weighings" 38 mm_239 4 13 := ⟨Or.inl (List.mem_of_getElem? (i := 1069) (by decide +kernel)), List.mem_of_getElem? (i := 1070) (by decide +kernel), List.mem_of_getElem? (i := 1071) (by decide +kernel), ⟨12, _, _, rfl, rfl⟩, ⟨3, rfl, by decide +kernel⟩, my_239⟩
theorem mpq_12 : mj_okQ lw_tbl mj_CL mj_MS "UnbeatenHouse$Weighings" mp_12 := ⟨List.forall_mem_cons.mpr ⟨mpF_12_0, List.forall_mem_cons.mpr ⟨mpF_12_1, List.forall_mem_cons.mpr ⟨mpF_12_2, List.forall_mem_cons.mpr ⟨mpF_12_3, List.forall_mem_cons.mpr ⟨mpF_12_4, List.forall_mem_cons.mpr ⟨mpF_12_5, fun _ h => absurd h List.not_mem_nil⟩⟩⟩⟩⟩⟩, List.forall_mem_cons.mpr ⟨mpV_12_0, List.forall_mem_cons.mpr ⟨mpV_12_1, List.forall_mem_cons.mpr ⟨mpV_12_2, fun _ h => absurd h List.not_mem_nil⟩⟩⟩, fun _ h => absurd h List.not_mem_nil, fun _ h => absurd h List.not_mem_nil, fun _ h => absurd h List.not_mem_nil, fun _ h => absurd h List.not_mem_nil⟩
def mp_13 : mj_Q := ([], [], [], [], [], [])
theorem mpq_13 : mj_okQ lw_tbl mj_CL mj_MS "java/lang/Math" mp_13 := ⟨fun _ h => absurd h List.not_mem_nil, fun _ h => absurd h List.not_mem_nil, fun _ h => absurd h List.not_mem_nil, fun _ h => absurd h List.not_mem_nil, fun _ h => absurd h List.not_mem_nil, fun _ h => absurd h List.not_mem_nil⟩
def mp_14 : mj_Q := ([], [], [], [(265, 1431655765), (266, 858993459), (267, 252645135), (264, 65536)], [], [])
theorem mpC_14_0 : Cond.constant "java/lang/Integer" 265 1431655765 ∈ lw_tbl := List.mem_of_getElem? (i := 1004) (by decide +kernel)
theorem mpC_14_1 : Cond.constant "java/lang/Integer" 266 858993459 ∈ lw_tbl := List.mem_of_getElem? (i := 1005) (by decide +kernel)
theorem mpC_14_2 : Cond.constant "java/lang/Integer" 267 252645135 ∈ lw_tbl := List.mem_of_getElem? (i := 1006) (by decide +kernel)
theorem mpC_14_3 : Cond.constant "java/lang/Integer" 264 65536 ∈ lw_tbl := List.mem_of_getElem? (i := 1232) (by decide +kernel)
theorem mpq_14 : mj_okQ lw_tbl mj_CL mj_MS "java/lang/Integer" mp_14 := ⟨fun _ h => absurd h List.not_mem_nil, fun _ h => absurd h List.not_mem_nil, fun _ h => absurd h List.not_mem_nil, List.forall_mem_cons.mpr ⟨mpC_14_0, List.forall_mem_cons.mpr ⟨mpC_14_1, List.forall_mem_cons.mpr ⟨mpC_14_2, List.forall_mem_cons.mpr ⟨mpC_14_3, fun _ h => absurd h List.not_mem_nil⟩⟩⟩⟩, fun _ h => absurd h List.not_mem_nil, fun _ h => absurd h List.not_mem_nil⟩
def mp_15 : mj_Q := ([], [], [(311, 8, 1)], [], [(314, 6148914691236517205), (316, 3689348814741910323), (318, 1085102592571150095)], [])
theorem mpS_15_0 : mj_okS lw_tbl "java/lang/Long" 311 mm_8 1 := ⟨Or.inl (List.mem_of_getElem? (i := 1229) (by decide +kernel)), List.mem_of_getElem? (i := 1230) (by decide +kernel), by decide +kernel, my_8⟩
theorem mpL_15_0 : Cond.constantLong "java/lang/Long" 314 6148914691236517205 ∈ lw_tbl := List.mem_of_getElem? (i := 876) (by decide +kernel)
theorem mpL_15_1 : Cond.constantLong "java/lang/Long" 316 3689348814741910323 ∈ lw_tbl := List.mem_of_getElem? (i := 877) (by decide +kernel)
theorem mpL_15_2 : Cond.constantLong "java/lang/Long" 318 1085102592571150095 ∈ lw_tbl := List.mem_of_getElem? (i := 878) (by decide +kernel)
theorem mpq_15 : mj_okQ lw_tbl mj_CL mj_MS "java/lang/Long" mp_15 := ⟨fun _ h => absurd h List.not_mem_nil, fun _ h => absurd h List.not_mem_nil, List.forall_mem_cons.mpr ⟨mpS_15_0, fun _ h => absurd h List.not_mem_nil⟩, fun _ h => absurd h List.not_mem_nil, List.forall_mem_cons.mpr ⟨mpL_15_0, List.forall_mem_cons.mpr ⟨mpL_15_1, List.forall_mem_cons.mpr ⟨mpL_15_2, fun _ h => absurd h List.not_mem_nil⟩⟩⟩, fun _ h => absurd h List.not_mem_nil⟩
end
section
/-! code tables, by program -/
-- java/lang/Math.min(II)I
def mt_0 : mj_C := ([(0, [o0 (.iload_n 0) 1, o0 (.iload_n 1) 1, oA (.if_icmp .gt 7) 3 9]), (5, [o0 (.iload_n 0) 1, oA (.goto 4) 3 10]), (9, [o0 (.iload_n 1) 1]), (10, [oA .ireturn 1 0])], [], 2)
theorem mk_0 : mj_ckM mj_TY mp_13 prog_17_method_69_code 2 (some .int) mt_0 = true := by decide +kernel
-- java/lang/Math.max(II)I
def mt_1 : mj_C := ([(0, [o0 (.iload_n 0) 1, o0 (.iload_n 1) 1, oA (.if_icmp .lt 7) 3 9]), (5, [o0 (.iload_n 0) 1, oA (.goto 4) 3 10]), (9, [o0 (.iload_n 1) 1]), (10, [oA .ireturn 1 0])], [], 2)
theorem mk_1 : mj_ckM mj_TY mp_13 prog_17_method_65_code 2 (some .int) mt_1 = true := by decide +kernel
-- java/lang/Long.bitCount(J)I
def mt_2 : mj_C := ([(0, [o0 (.lload_n 0) 1, o0 (.lload_n 0) 1, oV (.iconst 1) 1 1, o0 .lushr 1, oW (.ldc2_w 314) 3 6148914691236517205, o0 .land 1, o0 .lsub 1, o0 (.lstore_n 0) 1, o0 (.lload_n 0) 1, oW (.ldc2_w 316) 3 3689348814741910323, o0 .land 1, o0 (.lload_n 0) 1, oV (.iconst 2) 1 2, o0 .lushr 1, oW (.ldc2_w 316) 3 3689348814741910323, o0 .land 1, o0 .ladd 1, o0 (.lstore_n 0) 1, o0 (.lload_n 0) 1, o0 (.lload_n 0) 1, oV (.iconst 4) 1 4, o0 .lushr 1, o0 .ladd 1, oW (.ldc2_w 318) 3 1085102592571150095, o0 .land 1, o0 (.lstore_n 0) 1, o0 (.lload_n 0) 1, o0 (.lload_n 0) 1, oV (.bipush 8) 2 8, o0 .lushr 1, o0 .ladd 1, o0 (.lstore_n 0) 1, o0 (.lload_n 0) 1, o0 (.lload_n 0) 1, oV (.bipush 16) 2 16, o0 .lushr 1, o0 .ladd 1, o0 (.lstore_n 0) 1, o0 (.lload_n 0) 1, o0 (.lload_n 0) 1, oV (.bipush 32) 2 32, o0 .lushr 1, o0 .ladd 1, o0 (.lstore_n 0) 1, o0 (.lload_n 0) 1, o0 .l2i 1, oV (.bipush 127) 2 127, o0 .iand 1, oA .ireturn 1 0])], [], 2)
theorem mk_2 : mj_ckM mj_TY mp_15 prog_16_method_50_code 2 (some .int) mt_2 = true := by decide +kernel
-- java/lang/Integer.bitCount(I)I
def mt_3 : mj_C := ([(0, [o0 (.iload_n 0) 1, o0 (.iload_n 0) 1, oV (.iconst 1) 1 1, o0 .iushr 1, oV (.ldc_w 265) 3 1431655765, o0 .iand 1, o0 .isub 1, o0 (.istore_n 0) 1, o0 (.iload_n 0) 1, oV (.ldc_w 266) 3 858993459, o0 .iand 1, o0 (.iload_n 0) 1, oV (.iconst 2) 1 2, o0 .iushr 1, oV (.ldc_w 266) 3 858993459, o0 .iand 1, o0 .iadd 1, o0 (.istore_n 0) 1, o0 (.iload_n 0) 1, o0 (.iload_n 0) 1, oV (.iconst 4) 1 4, o0 .iushr 1, o0 .iadd 1, oV (.ldc_w 267) 3 252645135, o0 .iand 1, o0 (.istore_n 0) 1, o0 (.iload_n 0) 1, o0 (.iload_n 0) 1, oV (.bipush 8) 2 8, o0 .iushr 1, o0 .iadd 1, o0 (.istore_n 0) 1, o0 (.iload_n 0) 1, o0 (.iload_n 0) 1, oV (.bipush 16) 2 16, o0 .iushr 1, o0 .iadd 1, o0 (.istore_n 0) 1, o0 (.iload_n 0) 1, oV (.bipush 63) 2 63, o0 .iand 1, oA .ireturn 1 0])], [], 1)
theorem mk_3 : mj_ckM mj_TY mp_14 prog_15_method_49_code 1 (some .int) mt_3 = true := by decide +kernel
-- java/lang/Math.min(JJ)J
def mt_4 : mj_C := ([(0, [o0 (.lload_n 0) 1, o0 (.lload_n 2) 1, o0 .lcmp 1, oA (.ifCond .gt 7) 3 10]), (6, [o0 (.lload_n 0) 1, oA (.goto 4) 3 11]), (10, [o0 (.lload_n 2) 1]), (11, [o0 .lreturn 1])], [], 4)
theorem mk_4 : mj_ckM mj_TY mp_13 prog_17_method_70_code 4 (some .long) mt_4 = true := by decide +kernel
-- java/lang/Math.max(JJ)J
def mt_5 : mj_C := ([(0, [o0 (.lload_n 0) 1, o0 (.lload_n 2) 1, o0 .lcmp 1, oA (.ifCond .lt 7) 3 10]), (6, [o0 (.lload_n 0) 1, oA (.goto 4) 3 11]), (10, [o0 (.lload_n 2) 1]), (11, [o0 .lreturn 1])], [], 4)
theorem mk_5 : mj_ckM mj_TY mp_13 prog_17_method_66_code 4 (some .long) mt_5 = true := by decide +kernel
-- java/lang/Math.floorDiv(II)I
def mt_6 : mj_C := ([(0, [o0 (.iload_n 0) 1, o0 (.iload_n 1) 1, o0 .idiv 1, o0 (.istore_n 2) 1, o0 (.iload_n 0) 1, o0 (.iload_n 1) 1, o0 .ixor 1, oA (.ifCond .ge 14) 3 21]), (10, [o0 (.iload_n 2) 1, o0 (.iload_n 1) 1, o0 .imul 1, o0 (.iload_n 0) 1, oA (.if_icmp .eq 7) 3 21]), (17, [o0 (.iload_n 2) 1, oV (.iconst 1) 1 1, o0 .isub 1, oA .ireturn 1 0]), (21, [o0 (.iload_n 2) 1, oA .ireturn 1 0])], [], 3)
theorem mk_6 : mj_ckM mj_TY mp_13 prog_17_method_47_code 3 (some .int) mt_6 = true := by decide +kernel
-- java/lang/Long.numberOfTrailingZeros(J)I
def mt_7 : mj_C := ([(0, [o0 (.lload_n 0) 1, o0 .l2i 1, o0 (.istore_n 2) 1, o0 (.iload_n 2) 1, oA (.ifCond .ne 17) 3 21]), (7, [oV (.bipush 32) 2 32, o0 (.lload_n 0) 1, oV (.bipush 32) 2 32, o0 .lushr 1, o0 .l2i 1, oM (.invokestatic 311) 3 8 1 1 0, o0 .iadd 1, oA (.goto 7) 3 25]), (21, [o0 (.iload_n 2) 1, oM (.invokestatic 311) 3 8 1 1 0]), (25, [oA .ireturn 1 0])], [], 3)
theorem mk_7 : mj_ckM mj_TY mp_15 prog_16_method_49_code 3 (some .int) mt_7 = true := by decide +kernel
-- java/lang/Integer.numberOfTrailingZeros(I)I
def mt_8 : mj_C := ([(0, [o0 (.iload_n 0) 1, oV (.iconst (-1)) 1 (-1), o0 .ixor 1, o0 (.iload_n 0) 1, oV (.iconst 1) 1 1, o0 .isub 1, o0 .iand 1, o0 (.istore_n 0) 1, o0 (.iload_n 0) 1, oA (.ifCond .gt 8) 3 17]), (12, [o0 (.iload_n 0) 1, oV (.bipush 32) 2 32, o0 .iand 1, oA .ireturn 1 0]), (17, [oV (.iconst 1) 1 1, o0 (.istore_n 1) 1, o0 (.iload_n 0) 1, oV (.ldc_w 264) 3 65536, oA (.if_icmp .le 11) 3 34]), (26, [oV (.iinc 1 16) 3 16, o0 (.iload_n 0) 1, oV (.bipush 16) 2 16, o0 .iushr 1, o0 (.istore_n 0) 1]), (34, [o0 (.iload_n 0) 1, oV (.sipush 256) 3 256, oA (.if_icmp .le 11) 3 49]), (41, [oV (.iinc 1 8) 3 8, o0 (.iload_n 0) 1, oV (.bipush 8) 2 8, o0 .iushr 1, o0 (.istore_n 0) 1]), (49, [o0 (.iload_n 0) 1, oV (.bipush 16) 2 16, oA (.if_icmp .le 10) 3 62]), (55, [oV (.iinc 1 4) 3 4, o0 (.iload_n 0) 1, oV (.iconst 4) 1 4, o0 .iushr 1, o0 (.istore_n 0) 1]), (62, [o0 (.iload_n 0) 1, oV (.iconst 4) 1 4, oA (.if_icmp .le 10) 3 74]), (67, [oV (.iinc 1 2) 3 2, o0 (.iload_n 0) 1, oV (.iconst 2) 1 2, o0 .iushr 1, o0 (.istore_n 0) 1]), (74, [o0 (.iload_n 1) 1, o0 (.iload_n 0) 1, oV (.iconst 1) 1 1, o0 .iushr 1, o0 .iadd 1, oA .ireturn 1 0])], [(34, [0, 1]), (62, [0, 1])], 2)
theorem mk_8 : mj_ckM mj_TY mp_14 prog_15_method_48_code 2 (some .int) mt_8 = true := by decide +kernel
-- UnbeatenHouseModel.feed(IIIII)I
def mt_9 : mj_C := ([(0, [o0 (.aload_n 0) 1, oF (.getfield 13) 3 0 1 0, oV (.bipush 20) 2 20, o0 .iadd 1, oV (.sipush 900) 3 900, oA (.if_icmp .le 5) 3 15]), (13, [oV (.iconst (-1)) 1 (-1), oA .ireturn 1 0]), (15, [o0 (.aload_n 0) 1, o0 (.iload_n 1) 1, oM (.invokevirtual 248) 3 10 2 0 1, o0 (.aload_n 0) 1, o0 (.iload_n 2) 1, oM (.invokevirtual 248) 3 10 2 0 1, o0 (.aload_n 0) 1, o0 (.iload_n 3) 1, oM (.invokevirtual 248) 3 10 2 0 1, o0 (.aload_n 0) 1, o0 (.iload 4) 2, oM (.invokevirtual 248) 3 10 2 0 1, o0 (.aload_n 0) 1, o0 (.iload 5) 2, oM (.invokevirtual 248) 3 10 2 0 1, o0 (.aload_n 0) 1, oF (.getfield 13) 3 0 1 0, oA .ireturn 1 0])], [], 6)
theorem mk_9 : mj_ckM mj_TY mp_0 prog_14_method_4_code 6 (some .int) mt_9 = true := by decide +kernel
-- UnbeatenHouseModel.put(I)V
def mt_10 : mj_C := ([(0, [oV (.bipush 24) 2 24, o0 (.istore_n 2) 1]), (3, [o0 (.iload_n 2) 1, oA (.ifCond .lt 35) 3 39]), (7, [o0 (.aload_n 0) 1, oF (.getfield 7) 3 0 0 2, o0 (.aload_n 0) 1, oF (.getfield 13) 3 0 1 0, o0 (.iload_n 1) 1, o0 (.iload_n 2) 1, o0 .ishr 1, oV (.sipush 255) 3 255, o0 .iand 1, o0 .iastore 1, o0 (.aload_n 0) 1, o0 .dup 1, oF (.getfield 13) 3 0 1 0, oV (.iconst 1) 1 1, o0 .iadd 1, oF (.putfield 13) 3 0 1 0, oV (.iinc 2 (-8)) 3 (-8), oA (.goto (-33)) 3 3]), (39, [o0 .return_ 1])], [(3, [0, 1, 2])], 3)
theorem mk_10 : mj_ckM mj_TY mp_0 prog_14_method_3_code 3 none mt_10 = true := by decide +kernel
-- UnbeatenHouseModel.end(I)Z
def mt_11 : mj_C := ([(0, [o0 (.iload_n 1) 1, oA (.ifCond .lt 11) 3 12]), (4, [o0 (.iload_n 1) 1, o0 (.aload_n 0) 1, oF (.getfield 13) 3 0 1 0, oA (.if_icmp .le 5) 3 14]), (12, [oV (.iconst 0) 1 0, oA .ireturn 1 1]), (14, [o0 (.aload_n 0) 1, o0 (.iload_n 1) 1, oF (.putfield 13) 3 0 1 0, oV (.iconst 1) 1 1, oA .ireturn 1 1])], [], 2)
theorem mk_11 : mj_ckM mj_TY mp_0 prog_14_method_5_code 2 (some .boolean) mt_11 = true := by decide +kernel
-- UnbeatenHouseModel.text()I
def mt_12 : mj_C := ([(0, [o0 (.aload_n 0) 1, o0 (.aload_n 0) 1, oF (.getfield 13) 3 0 1 0, oF (.putfield 17) 3 0 2 0, o0 (.aload_n 0) 1, oV (.iconst 0) 1 0, oF (.putfield 13) 3 0 1 0, o0 (.aload_n 0) 1, oV (.iconst 0) 1 0, oF (.putfield 26) 3 0 5 0, o0 (.aload_n 0) 1, oV (.iconst 0) 1 0, oF (.putfield 36) 3 0 8 0]), (23, [o0 (.aload_n 0) 1, oV (.iconst (-1)) 1 (-1), oF (.putfield 39) 3 0 9 0, o0 (.aload_n 0) 1, oV (.iconst 1) 1 1, o0 (.aload_n 0) 1, oF (.getfield 48) 3 0 12 0, o0 .isub 1, oF (.putfield 119) 3 0 35 0, o0 (.aload_n 0) 1, oF (.getfield 51) 3 0 13 2, o0 (.aload_n 0) 1, oF (.getfield 119) 3 0 35 0, oV (.iconst 0) 1 0, o0 .iastore 1, o0 (.aload_n 0) 1, oF (.getfield 54) 3 0 14 2, o0 (.aload_n 0) 1, oF (.getfield 119) 3 0 35 0, oV (.iconst 0) 1 0, o0 .iastore 1]), (58, [o0 (.aload_n 0) 1, oF (.getfield 57) 3 0 15 2, o0 (.aload_n 0) 1, oF (.getfield 119) 3 0 35 0, oV (.iconst 0) 1 0, o0 .iastore 1, o0 (.aload_n 0) 1, oF (.getfield 60) 3 0 16 2, o0 (.aload_n 0) 1, oF (.getfield 119) 3 0 35 0, oV (.iconst 0) 1 0, o0 .iastore 1, o0 (.aload_n 0) 1, oF (.getfield 63) 3 0 17 2, o0 (.aload_n 0) 1, oF (.getfield 119) 3 0 35 0, oV (.iconst 0) 1 0, o0 .iastore 1, o0 (.aload_n 0) 1, oF (.getfield 66) 3 0 18 2, o0 (.aload_n 0) 1, oF (.getfield 119) 3 0 35 0, oV (.iconst 0) 1 0, o0 .iastore 1]), (98, [o0 (.aload_n 0) 1, oV (.iconst 0) 1 0, oF (.putfield 116) 3 0 34 0, oV (.iconst 0) 1 0, o0 (.istore_n 1) 1, o0 (.aload_n 0) 1, oM (.invokevirtual 266) 3 13 1 0 1]), (109, [o0 (.aload_n 0) 1, oF (.getfield 36) 3 0 8 0, oA (.ifCond .ne 20) 3 133]), (116, [o0 (.aload_n 0) 1, oF (.getfield 20) 3 0 3 0, oA (.ifCond .eq 13) 3 133]), (123, [o0 (.aload_n 0) 1, oM (.invokevirtual 388) 3 17 1 0 1, oV (.iinc 1 1) 3 1, oA (.goto (-21)) 3 109]), (133, [o0 (.aload_n 0) 1, o0 (.aload_n 0) 1, oF (.getfield 36) 3 0 8 0, oF (.putfield 42) 3 0 10 0, o0 (.aload_n 0) 1, o0 (.aload_n 0) 1, oF (.getfield 39) 3 0 9 0, oF (.putfield 45) 3 0 11 0, o0 (.aload_n 0) 1, oF (.getfield 36) 3 0 8 0, oA (.ifCond .le 5) 3 158]), (156, [oV (.iconst (-1)) 1 (-1), oA .ireturn 1 0]), (158, [o0 (.aload_n 0) 1, o0 (.aload_n 0) 1, oF (.getfield 119) 3 0 35 0, oF (.putfield 48) 3 0 12 0, o0 (.aload_n 0) 1, oV (.iconst (-1)) 1 (-1), oF (.putfield 191) 3 0 58 0, o0 (.aload_n 0) 1, oV (.iconst 0) 1 0, oF (.putfield 212) 3 0 65 0, o0 (.aload_n 0) 1, oW (.lconst 0) 1 0, oF (.putfield 153) 3 0 46 1]), (181, [o0 (.aload_n 0) 1, oW (.lconst 0) 1 0, oF (.putfield 156) 3 0 47 1, o0 (.aload_n 0) 1, oV (.iconst 0) 1 0, oF (.putfield 221) 3 0 68 0, oV (.iconst 0) 1 0, o0 (.istore_n 2) 1]), (193, [o0 (.iload_n 2) 1, oV (.bipush 6) 2 6, oA (.if_icmp .ge 40) 3 236]), (199, [o0 (.aload_n 0) 1, oF (.getfield 245) 3 0 76 2, o0 (.iload_n 2) 1, oW (.lconst 0) 1 0, o0 .lastore 1, oV (.iconst 0) 1 0, o0 (.istore_n 3) 1]), (208, [o0 (.iload_n 3) 1, oV (.iconst 4) 1 4, oA (.if_icmp .ge 20) 3 230]), (213, [o0 (.aload_n 0) 1, oF (.getfield 242) 3 0 75 2, oV (.iconst 4) 1 4, o0 (.iload_n 2) 1, o0 .imul 1, o0 (.iload_n 3) 1, o0 .iadd 1, oV (.iconst 0) 1 0, o0 .iastore 1, oV (.iinc 3 1) 3 1, oA (.goto (-19)) 3 208]), (230, [oV (.iinc 2 1) 3 1, oA (.goto (-40)) 3 193]), (236, [o0 (.iload_n 1) 1, oA .ireturn 1 0])], [(23, [0]), (58, [0]), (98, [0]), (109, [0, 1]), (133, [0, 1]), (181, [0, 1]), (193, [0, 1, 2]), (208, [0, 1, 2, 3])], 4)
theorem mk_12 : mj_ckM mj_TY mp_0 prog_14_method_38_code 4 (some .int) mt_12 = true := by decide +kernel
-- UnbeatenHouseModel.next()V
def mt_13 : mj_C := ([(0, [o0 (.aload_n 0) 1, oF (.getfield 26) 3 0 5 0, o0 (.istore_n 1) 1]), (5, [o0 (.iload_n 1) 1, o0 (.aload_n 0) 1, oF (.getfield 17) 3 0 2 0, oA (.if_icmp .ge 31) 3 41]), (13, [o0 (.aload_n 0) 1, oF (.getfield 7) 3 0 0 2, o0 (.iload_n 1) 1, o0 .iaload 1, oV (.bipush 32) 2 32, oA (.if_icmp .eq 14) 3 35]), (24, [o0 (.aload_n 0) 1, oF (.getfield 7) 3 0 0 2, o0 (.iload_n 1) 1, o0 .iaload 1, oV (.bipush 10) 2 10, oA (.if_icmp .ne 9) 3 41]), (35, [oV (.iinc 1 1) 3 1, oA (.goto (-33)) 3 5]), (41, [o0 (.aload_n 0) 1, o0 (.iload_n 1) 1, oF (.putfield 23) 3 0 4 0, o0 (.aload_n 0) 1, o0 (.iload_n 1) 1, oF (.putfield 26) 3 0 5 0, o0 (.aload_n 0) 1, oV (.iconst 0) 1 0, oF (.putfield 20) 3 0 3 0, o0 (.iload_n 1) 1, o0 (.aload_n 0) 1, oF (.getfield 17) 3 0 2 0, oA (.if_icmp .lt 4) 3 65]), (64, [o0 .return_ 1]), (65, [o0 (.aload_n 0) 1, oF (.getfield 7) 3 0 0 2, o0 (.iload_n 1) 1, o0 .iaload 1, oM (.invokestatic 252) 3 14 1 1 0, o0 (.istore_n 2) 1, o0 (.aload_n 0) 1, oF (.getfield 7) 3 0 0 2, o0 (.iload_n 1) 1, o0 .iaload 1, oM (.invokestatic 256) 3 15 1 1 0, o0 (.istore_n 3) 1, o0 (.iload_n 2) 1, oA (.ifCond .ne 7) 3 93]), (89, [o0 (.iload_n 3) 1, oA (.ifCond .eq 41) 3 131]), (93, [o0 (.iload_n 1) 1, oA (.ifCond .le 37) 3 131]), (97, [o0 (.aload_n 0) 1, oF (.getfield 7) 3 0 0 2, o0 (.iload_n 1) 1, oV (.iconst 1) 1 1, o0 .isub 1, o0 .iaload 1, oM (.invokestatic 252) 3 14 1 1 0, oA (.ifCond .ne 17) 3 125]), (111, [o0 (.aload_n 0) 1, oF (.getfield 7) 3 0 0 2, o0 (.iload_n 1) 1, oV (.iconst 1) 1 1, o0 .isub 1, o0 .iaload 1, oM (.invokestatic 256) 3 15 1 1 0, oA (.ifCond .eq 9) 3 131]), (125, [o0 (.aload_n 0) 1, oV (.iconst 1) 1 1, o0 (.iload_n 1) 1, oM (.invokevirtual 259) 3 16 3 0 1]), (131, [o0 (.aload_n 0) 1, oV (.iconst 0) 1 0, oF (.putfield 29) 3 0 6 0, o0 (.aload_n 0) 1, oW (.lconst 0) 1 0, oF (.putfield 32) 3 0 7 1, o0 (.aload_n 0) 1, oV (.iconst 3) 1 3, oF (.putfield 20) 3 0 3 0, o0 (.aload_n 0) 1, o0 (.iload_n 1) 1, oV (.iconst 1) 1 1, o0 .iadd 1, oF (.putfield 26) 3 0 5 0]), (153, [o0 (.iload_n 2) 1, oA (.ifCond .ne 18) 3 172]), (157, [o0 (.iload_n 3) 1, oA (.ifCond .ne 14) 3 172]), (161, [o0 (.aload_n 0) 1, o0 (.aload_n 0) 1, oF (.getfield 7) 3 0 0 2, o0 (.iload_n 1) 1, o0 .iaload 1, oF (.putfield 29) 3 0 6 0, o0 .return_ 1]), (172, [o0 (.aload_n 0) 1, o0 (.iload_n 2) 1, oA (.ifCond .eq 7) 3 181]), (177, [oV (.iconst 1) 1 1, oA (.goto 4) 3 182]), (181, [oV (.iconst 2) 1 2]), (182, [oF (.putfield 20) 3 0 3 0, o0 (.iload_n 2) 1, oA (.ifCond .eq 8) 3 194]), (189, [oV (.bipush 6) 2 6, oA (.goto 4) 3 195]), (194, [oV (.iconst 4) 1 4]), (195, [o0 (.istore 4) 2, oV (.iconst 0) 1 0, o0 (.istore 5) 2]), (200, [o0 (.iload_n 1) 1, o0 (.aload_n 0) 1, oF (.getfield 17) 3 0 2 0, oA (.if_icmp .ge 118) 3 323]), (208, [o0 (.iload_n 2) 1, oA (.ifCond .eq 18) 3 227]), (212, [o0 (.aload_n 0) 1, oF (.getfield 7) 3 0 0 2, o0 (.iload_n 1) 1, o0 .iaload 1, oM (.invokestatic 252) 3 14 1 1 0, oA (.ifCond .eq 102) 3 323]), (224, [oA (.goto 15) 3 239]), (227, [o0 (.aload_n 0) 1, oF (.getfield 7) 3 0 0 2, o0 (.iload_n 1) 1, o0 .iaload 1, oM (.invokestatic 256) 3 15 1 1 0, oA (.ifCond .eq 87) 3 323]), (239, [o0 (.iload 5) 2, o0 (.iload 4) 2, oA (.if_icmp .ne 9) 3 252]), (246, [o0 (.aload_n 0) 1, oV (.iconst 1) 1 1, o0 (.iload_n 1) 1, oM (.invokevirtual 259) 3 16 3 0 1]), (252, [o0 (.iload 5) 2, o0 (.iload 4) 2, oA (.if_icmp .ge 26) 3 282]), (259, [o0 (.iload_n 2) 1, oA (.ifCond .eq 22) 3 282]), (263, [o0 (.aload_n 0) 1, o0 (.aload_n 0) 1, oF (.getfield 32) 3 0 7 1, oV (.bipush 8) 2 8, o0 .lshl 1, o0 (.aload_n 0) 1, oF (.getfield 7) 3 0 0 2, o0 (.iload_n 1) 1, o0 .iaload 1, o0 .i2l 1, o0 .lor 1, oF (.putfield 32) 3 0 7 1]), (282, [o0 (.iload 5) 2, o0 (.iload 4) 2, oA (.if_icmp .ge 28) 3 314]), (289, [o0 (.iload_n 3) 1, oA (.ifCond .eq 24) 3 314]), (293, [o0 (.aload_n 0) 1, oV (.bipush 10) 2 10, o0 (.aload_n 0) 1, oF (.getfield 29) 3 0 6 0, o0 .imul 1, o0 (.aload_n 0) 1, oF (.getfield 7) 3 0 0 2, o0 (.iload_n 1) 1, o0 .iaload 1, o0 .iadd 1, oV (.bipush 48) 2 48, o0 .isub 1, oF (.putfield 29) 3 0 6 0]), (314, [oV (.iinc 5 1) 3 1, oV (.iinc 1 1) 3 1, oA (.goto (-120)) 3 200]), (323, [o0 (.aload_n 0) 1, o0 (.iload_n 1) 1, oF (.putfield 26) 3 0 5 0, o0 .return_ 1])], [(5, [0, 1]), (41, [0, 1]), (93, [0, 1, 2, 3]), (131, [0, 1, 2, 3]), (153, [0, 1, 2, 3]), (172, [0, 1, 2, 3]), (200, [0, 1, 2, 3, 4, 5]), (252, [0, 1, 2, 3, 4, 5]), (282, [0, 1, 2, 3, 4, 5])], 6)
theorem mk_13 : mj_ckM mj_TY mp_0 prog_14_method_9_code 6 none mt_13 = true := by decide +kernel
-- UnbeatenHouseModel.isLetter(I)Z
def mt_14 : mj_C := ([(0, [o0 (.iload_n 0) 1, oV (.bipush 97) 2 97, oA (.if_icmp .lt 13) 3 16]), (6, [o0 (.iload_n 0) 1, oV (.bipush 122) 2 122, oA (.if_icmp .gt 7) 3 16]), (12, [oV (.iconst 1) 1 1, oA (.goto 4) 3 17]), (16, [oV (.iconst 0) 1 0]), (17, [oA .ireturn 1 1])], [], 1)
theorem mk_14 : mj_ckM mj_TY mp_0 prog_14_method_7_code 1 (some .boolean) mt_14 = true := by decide +kernel
-- UnbeatenHouseModel.isDigit(I)Z
def mt_15 : mj_C := ([(0, [o0 (.iload_n 0) 1, oV (.bipush 48) 2 48, oA (.if_icmp .lt 13) 3 16]), (6, [o0 (.iload_n 0) 1, oV (.bipush 57) 2 57, oA (.if_icmp .gt 7) 3 16]), (12, [oV (.iconst 1) 1 1, oA (.goto 4) 3 17]), (16, [oV (.iconst 0) 1 0]), (17, [oA .ireturn 1 1])], [], 1)
theorem mk_15 : mj_ckM mj_TY mp_0 prog_14_method_8_code 1 (some .boolean) mt_15 = true := by decide +kernel
-- UnbeatenHouseModel.blame(II)V
def mt_16 : mj_C := ([(0, [o0 (.aload_n 0) 1, oF (.getfield 36) 3 0 8 0, oA (.ifCond .le 4) 3 8]), (7, [o0 .return_ 1]), (8, [o0 (.aload_n 0) 1, o0 (.iload_n 1) 1, oF (.putfield 36) 3 0 8 0, o0 (.aload_n 0) 1, o0 (.iload_n 2) 1, oF (.putfield 39) 3 0 9 0, o0 .return_ 1])], [], 3)
theorem mk_16 : mj_ckM mj_TY mp_0 prog_14_method_6_code 3 none mt_16 = true := by decide +kernel
-- UnbeatenHouseModel.statement()V
def mt_17 : mj_C := ([(0, [o0 (.aload_n 0) 1, oW (.ldc2_w 269) 3 2003399528, oM (.invokevirtual 333) 3 18 2 1 1, oA (.ifCond .eq 10) 3 17]), (10, [o0 (.aload_n 0) 1, oM (.invokevirtual 370) 3 19 1 0 1, oA (.goto 282) 3 296]), (17, [o0 (.aload_n 0) 1, oW (.ldc2_w 275) 3 7499639, oM (.invokevirtual 333) 3 18 2 1 1, oA (.ifCond .eq 10) 3 34]), (27, [o0 (.aload_n 0) 1, oM (.invokevirtual 373) 3 27 1 0 1, oA (.goto 265) 3 296]), (34, [o0 (.aload_n 0) 1, oW (.ldc2_w 277) 3 1802399604, oM (.invokevirtual 333) 3 18 2 1 1, oA (.ifCond .eq 85) 3 126]), (44, [o0 (.aload_n 0) 1, o0 (.aload_n 0) 1, oF (.getfield 57) 3 0 15 2, o0 (.aload_n 0) 1, oF (.getfield 119) 3 0 35 0, o0 .iaload 1, oV (.bipush 10) 2 10, oA (.if_icmp .ne 7) 3 63]), (59, [oV (.iconst 1) 1 1, oA (.goto 4) 3 64]), (63, [oV (.iconst 0) 1 0]), (64, [oV (.iconst 0) 1 0, oM (.invokevirtual 355) 3 20 3 0 1, o0 (.aload_n 0) 1, oM (.invokevirtual 359) 3 21 1 2 1, o0 (.lstore_n 1) 1, o0 (.aload_n 0) 1, oF (.getfield 36) 3 0 8 0, oA (.ifCond .ne 26) 3 103]), (80, [o0 (.aload_n 0) 1, oF (.getfield 86) 3 0 24 2, oV (.bipush 10) 2 10, o0 (.aload_n 0) 1, oF (.getfield 119) 3 0 35 0, o0 .imul 1, o0 (.aload_n 0) 1, oF (.getfield 57) 3 0 15 2, o0 (.aload_n 0) 1, oF (.getfield 119) 3 0 35 0, o0 .iaload 1, o0 .iadd 1, o0 (.lload_n 1) 1, o0 .lastore 1]), (103, [o0 (.aload_n 0) 1, oF (.getfield 36) 3 0 8 0, oA (.ifCond .ne 16) 3 123]), (110, [o0 (.aload_n 0) 1, oF (.getfield 57) 3 0 15 2, o0 (.aload_n 0) 1, oF (.getfield 119) 3 0 35 0, o0 .dup2 1, o0 .iaload 1, oV (.iconst 1) 1 1, o0 .iadd 1, o0 .iastore 1]), (123, [oA (.goto 173) 3 296]), (126, [o0 (.aload_n 0) 1, oW (.ldc2_w 279) 3 7629157, oM (.invokevirtual 333) 3 18 2 1 1, oA (.ifCond .eq 10) 3 143]), (136, [o0 (.aload_n 0) 1, oM (.invokevirtual 376) 3 30 1 0 1, oA (.goto 156) 3 296]), (143, [o0 (.aload_n 0) 1, oW (.ldc2_w 281) 3 499967946343, oM (.invokevirtual 333) 3 18 2 1 1, oA (.ifCond .eq 10) 3 160]), (153, [o0 (.aload_n 0) 1, oM (.invokevirtual 379) 3 32 1 0 1, oA (.goto 139) 3 296]), (160, [o0 (.aload_n 0) 1, oW (.ldc2_w 283) 3 1920298085, oM (.invokevirtual 333) 3 18 2 1 1, oA (.ifCond .eq 120) 3 287]), (170, [o0 (.aload_n 0) 1, o0 (.aload_n 0) 1, oF (.getfield 66) 3 0 18 2, o0 (.aload_n 0) 1, oF (.getfield 119) 3 0 35 0, o0 .iaload 1, oV (.bipush 12) 2 12, oA (.if_icmp .ne 7) 3 189]), (185, [oV (.iconst 1) 1 1, oA (.goto 4) 3 190]), (189, [oV (.iconst 0) 1 0]), (190, [oV (.iconst 0) 1 0, oM (.invokevirtual 355) 3 20 3 0 1, o0 (.aload_n 0) 1, oF (.getfield 36) 3 0 8 0, oA (.ifCond .ne 29) 3 227]), (201, [o0 (.aload_n 0) 1, oF (.getfield 104) 3 0 30 2, oV (.bipush 12) 2 12, o0 (.aload_n 0) 1, oF (.getfield 119) 3 0 35 0, o0 .imul 1, o0 (.aload_n 0) 1, oF (.getfield 66) 3 0 18 2, o0 (.aload_n 0) 1, oF (.getfield 119) 3 0 35 0, o0 .iaload 1, o0 .iadd 1, o0 (.aload_n 0) 1, oF (.getfield 116) 3 0 34 0, o0 .iastore 1]), (227, [o0 (.aload_n 0) 1, oM (.invokevirtual 382) 3 33 1 0 1, o0 (.aload_n 0) 1, oF (.getfield 36) 3 0 8 0, oA (.ifCond .ne 29) 3 264]), (238, [o0 (.aload_n 0) 1, oF (.getfield 107) 3 0 31 2, oV (.bipush 12) 2 12, o0 (.aload_n 0) 1, oF (.getfield 119) 3 0 35 0, o0 .imul 1, o0 (.aload_n 0) 1, oF (.getfield 66) 3 0 18 2, o0 (.aload_n 0) 1, oF (.getfield 119) 3 0 35 0, o0 .iaload 1, o0 .iadd 1, o0 (.aload_n 0) 1, oF (.getfield 116) 3 0 34 0, o0 .iastore 1]), (264, [o0 (.aload_n 0) 1, oF (.getfield 36) 3 0 8 0, oA (.ifCond .ne 28) 3 296]), (271, [o0 (.aload_n 0) 1, oF (.getfield 66) 3 0 18 2, o0 (.aload_n 0) 1, oF (.getfield 119) 3 0 35 0, o0 .dup2 1, o0 .iaload 1, oV (.iconst 1) 1 1, o0 .iadd 1, o0 .iastore 1, oA (.goto 12) 3 296]), (287, [o0 (.aload_n 0) 1, oV (.iconst 1) 1 1, o0 (.aload_n 0) 1, oF (.getfield 23) 3 0 4 0, oM (.invokevirtual 259) 3 16 3 0 1]), (296, [o0 (.aload_n 0) 1, oF (.getfield 36) 3 0 8 0, oA (.ifCond .ne 9) 3 309]), (303, [o0 (.aload_n 0) 1, oV (.bipush 59) 2 59, oM (.invokevirtual 385) 3 44 2 0 1]), (309, [o0 .return_ 1])], [(103, [0]), (227, [0]), (264, [0])], 3)
theorem mk_17 : mj_ckM mj_TY mp_0 prog_14_method_37_code 3 none mt_17 = true := by decide +kernel
-- UnbeatenHouseModel.isWord(J)Z
def mt_18 : mj_C := ([(0, [o0 (.aload_n 0) 1, oF (.getfield 20) 3 0 3 0, oV (.iconst 1) 1 1, oA (.if_icmp .ne 16) 3 21]), (8, [o0 (.aload_n 0) 1, oF (.getfield 32) 3 0 7 1, o0 (.lload_n 1) 1, o0 .lcmp 1, oA (.ifCond .ne 7) 3 21]), (17, [oV (.iconst 1) 1 1, oA (.goto 4) 3 22]), (21, [oV (.iconst 0) 1 0]), (22, [oA .ireturn 1 1])], [], 3)
theorem mk_18 : mj_ckM mj_TY mp_0 prog_14_method_11_code 3 (some .boolean) mt_18 = true := by decide +kernel
-- UnbeatenHouseModel.wish()V
def mt_19 : mj_C := ([(0, [o0 (.aload_n 0) 1, o0 (.aload_n 0) 1, oF (.getfield 51) 3 0 13 2, o0 (.aload_n 0) 1, oF (.getfield 119) 3 0 35 0, o0 .iaload 1, oV (.iconst 4) 1 4, oA (.if_icmp .ne 7) 3 18]), (14, [oV (.iconst 1) 1 1, oA (.goto 4) 3 19]), (18, [oV (.iconst 0) 1 0]), (19, [o0 (.aload_n 0) 1, oF (.getfield 54) 3 0 14 2, o0 (.aload_n 0) 1, oF (.getfield 119) 3 0 35 0, o0 .iaload 1, o0 (.aload_n 0) 1, oF (.getfield 60) 3 0 16 2, o0 (.aload_n 0) 1, oF (.getfield 119) 3 0 35 0, o0 .iaload 1, o0 .iadd 1, o0 (.aload_n 0) 1, oF (.getfield 63) 3 0 17 2, o0 (.aload_n 0) 1, oF (.getfield 119) 3 0 35 0, o0 .iaload 1, o0 .iadd 1, oA (.ifCond .le 7) 3 55]), (51, [oV (.iconst 1) 1 1, oA (.goto 4) 3 56]), (55, [oV (.iconst 0) 1 0]), (56, [oM (.invokevirtual 355) 3 20 3 0 1, o0 (.aload_n 0) 1, oM (.invokevirtual 359) 3 21 1 2 1, o0 (.lstore_n 1) 1, o0 (.aload_n 0) 1, oF (.getfield 36) 3 0 8 0, oA (.ifCond .ne 32) 3 100]), (71, [o0 (.aload_n 0) 1, oW (.ldc2_w 271) 3 1818588019, oM (.invokevirtual 333) 3 18 2 1 1, oA (.ifCond .ne 22) 3 100]), (81, [o0 (.aload_n 0) 1, oW (.ldc2_w 273) 3 1836020325, oM (.invokevirtual 333) 3 18 2 1 1, oA (.ifCond .ne 12) 3 100]), (91, [o0 (.aload_n 0) 1, oV (.iconst 1) 1 1, o0 (.aload_n 0) 1, oF (.getfield 23) 3 0 4 0, oM (.invokevirtual 259) 3 16 3 0 1]), (100, [o0 (.aload_n 0) 1, oF (.getfield 36) 3 0 8 0, oA (.ifCond .le 4) 3 108]), (107, [o0 .return_ 1]), (108, [o0 (.aload_n 0) 1, oF (.getfield 69) 3 0 19 2, oV (.iconst 4) 1 4, o0 (.aload_n 0) 1, oF (.getfield 119) 3 0 35 0, o0 .imul 1, o0 (.aload_n 0) 1, oF (.getfield 51) 3 0 13 2, o0 (.aload_n 0) 1, oF (.getfield 119) 3 0 35 0, o0 .iaload 1, o0 .iadd 1, o0 (.lload_n 1) 1, o0 .lastore 1, o0 (.aload_n 0) 1, oF (.getfield 73) 3 0 20 2, oV (.iconst 4) 1 4, o0 (.aload_n 0) 1, oF (.getfield 119) 3 0 35 0, o0 .imul 1, o0 (.aload_n 0) 1, oF (.getfield 51) 3 0 13 2, o0 (.aload_n 0) 1, oF (.getfield 119) 3 0 35 0, o0 .iaload 1, o0 .iadd 1, o0 (.aload_n 0) 1, oW (.ldc2_w 273) 3 1836020325, oM (.invokevirtual 333) 3 18 2 1 1, o0 .bastore 1, o0 (.aload_n 0) 1, oF (.getfield 51) 3 0 13 2, o0 (.aload_n 0) 1, oF (.getfield 119) 3 0 35 0, o0 .dup2 1, o0 .iaload 1, oV (.iconst 1) 1 1, o0 .iadd 1, o0 .iastore 1, o0 (.aload_n 0) 1, oM (.invokevirtual 266) 3 13 1 0 1, o0 .return_ 1])], [(100, [0, 1])], 3)
theorem mk_19 : mj_ckM mj_TY mp_0 prog_14_method_33_code 3 none mt_19 = true := by decide +kernel
-- UnbeatenHouseModel.counts(ZZ)V
def mt_20 : mj_C := ([(0, [o0 (.iload_n 1) 1, oA (.ifCond .eq 12) 3 13]), (4, [o0 (.aload_n 0) 1, oV (.iconst 5) 1 5, o0 (.aload_n 0) 1, oF (.getfield 23) 3 0 4 0, oM (.invokevirtual 259) 3 16 3 0 1]), (13, [o0 (.iload_n 2) 1, oA (.ifCond .eq 13) 3 27]), (17, [o0 (.aload_n 0) 1, oV (.bipush 6) 2 6, o0 (.aload_n 0) 1, oF (.getfield 23) 3 0 4 0, oM (.invokevirtual 259) 3 16 3 0 1]), (27, [o0 (.aload_n 0) 1, oF (.getfield 36) 3 0 8 0, oA (.ifCond .ne 7) 3 38]), (34, [o0 (.aload_n 0) 1, oM (.invokevirtual 266) 3 13 1 0 1]), (38, [o0 .return_ 1])], [(13, [0, 2])], 3)
theorem mk_20 : mj_ckM mj_TY mp_0 prog_14_method_32_code 3 none mt_20 = true := by decide +kernel
-- UnbeatenHouseModel.fresh()J
def mt_21 : mj_C := ([(0, [o0 (.aload_n 0) 1, oF (.getfield 36) 3 0 8 0, oA (.ifCond .le 5) 3 9]), (7, [oW (.lconst 0) 1 0, o0 .lreturn 1]), (9, [o0 (.aload_n 0) 1, oF (.getfield 20) 3 0 3 0, oV (.iconst 1) 1 1, oA (.if_icmp .ne 14) 3 28]), (17, [o0 (.aload_n 0) 1, o0 (.aload_n 0) 1, oF (.getfield 32) 3 0 7 1, oM (.invokevirtual 313) 3 22 2 1 1, oA (.ifCond .eq 12) 3 37]), (28, [o0 (.aload_n 0) 1, oV (.iconst 1) 1 1, o0 (.aload_n 0) 1, oF (.getfield 23) 3 0 4 0, oM (.invokevirtual 259) 3 16 3 0 1]), (37, [o0 (.aload_n 0) 1, oF (.getfield 36) 3 0 8 0, oA (.ifCond .ne 23) 3 64]), (44, [o0 (.aload_n 0) 1, o0 (.aload_n 0) 1, oF (.getfield 32) 3 0 7 1, oM (.invokevirtual 317) 3 23 2 1 1, oA (.ifCond .eq 12) 3 64]), (55, [o0 (.aload_n 0) 1, oV (.iconst 2) 1 2, o0 (.aload_n 0) 1, oF (.getfield 23) 3 0 4 0, oM (.invokevirtual 259) 3 16 3 0 1]), (64, [o0 (.aload_n 0) 1, oF (.getfield 32) 3 0 7 1, o0 (.lstore_n 1) 1, o0 (.aload_n 0) 1, oF (.getfield 36) 3 0 8 0, oA (.ifCond .ne 7) 3 80]), (76, [o0 (.aload_n 0) 1, oM (.invokevirtual 266) 3 13 1 0 1]), (80, [o0 (.lload_n 1) 1, o0 .lreturn 1])], [(37, [0]), (64, [0])], 3)
theorem mk_21 : mj_ckM mj_TY mp_0 prog_14_method_18_code 3 (some .long) mt_21 = true := by decide +kernel
-- UnbeatenHouseModel.isOwn(J)Z
def mt_22 : mj_C := ([(0, [o0 (.lload_n 1) 1, oW (.ldc2_w 269) 3 2003399528, o0 .lcmp 1, oA (.ifCond .eq 35) 3 40]), (8, [o0 (.lload_n 1) 1, oW (.ldc2_w 271) 3 1818588019, o0 .lcmp 1, oA (.ifCond .eq 27) 3 40]), (16, [o0 (.lload_n 1) 1, oW (.ldc2_w 273) 3 1836020325, o0 .lcmp 1, oA (.ifCond .eq 19) 3 40]), (24, [o0 (.lload_n 1) 1, oW (.ldc2_w 275) 3 7499639, o0 .lcmp 1, oA (.ifCond .eq 11) 3 40]), (32, [o0 (.lload_n 1) 1, oW (.ldc2_w 277) 3 1802399604, o0 .lcmp 1, oA (.ifCond .ne 5) 3 42]), (40, [oV (.iconst 1) 1 1, oA .ireturn 1 1]), (42, [o0 (.lload_n 1) 1, oW (.ldc2_w 279) 3 7629157, o0 .lcmp 1, oA (.ifCond .eq 35) 3 82]), (50, [o0 (.lload_n 1) 1, oW (.ldc2_w 281) 3 499967946343, o0 .lcmp 1, oA (.ifCond .eq 27) 3 82]), (58, [o0 (.lload_n 1) 1, oW (.ldc2_w 283) 3 1920298085, o0 .lcmp 1, oA (.ifCond .eq 19) 3 82]), (66, [o0 (.lload_n 1) 1, oW (.ldc2_w 285) 3 28530, o0 .lcmp 1, oA (.ifCond .eq 11) 3 82]), (74, [o0 (.lload_n 1) 1, oW (.ldc2_w 287) 3 6385252, o0 .lcmp 1, oA (.ifCond .ne 5) 3 84]), (82, [oV (.iconst 1) 1 1, oA .ireturn 1 1]), (84, [o0 (.lload_n 1) 1, oW (.ldc2_w 289) 3 7237492, o0 .lcmp 1, oA (.ifCond .eq 35) 3 124]), (92, [o0 (.lload_n 1) 1, oW (.ldc2_w 291) 3 6384748, o0 .lcmp 1, oA (.ifCond .eq 27) 3 124]), (100, [o0 (.lload_n 1) 1, oW (.ldc2_w 293) 3 6840691, o0 .lcmp 1, oA (.ifCond .eq 19) 3 124]), (108, [o0 (.lload_n 1) 1, oW (.ldc2_w 295) 3 1835101817, o0 .lcmp 1, oA (.ifCond .eq 11) 3 124]), (116, [o0 (.lload_n 1) 1, oW (.ldc2_w 297) 3 28518, o0 .lcmp 1, oA (.ifCond .ne 5) 3 126]), (124, [oV (.iconst 1) 1 1, oA .ireturn 1 1]), (126, [o0 (.lload_n 1) 1, oW (.ldc2_w 299) 3 7170414, o0 .lcmp 1, oA (.ifCond .eq 11) 3 142]), (134, [o0 (.lload_n 1) 1, oW (.ldc2_w 301) 3 7168376, o0 .lcmp 1, oA (.ifCond .ne 5) 3 144]), (142, [oV (.iconst 1) 1 1, oA .ireturn 1 1]), (144, [oV (.iconst 0) 1 0, oA .ireturn 1 1])], [], 3)
theorem mk_22 : mj_ckM mj_TY mp_0 prog_14_method_13_code 3 (some .boolean) mt_22 = true := by decide +kernel
-- UnbeatenHouseModel.isName(J)Z
def mt_23 : mj_C := ([(0, [o0 (.aload_n 0) 1, o0 (.aload_n 0) 1, oF (.getfield 119) 3 0 35 0, o0 (.lload_n 1) 1, oM (.invokevirtual 303) 3 24 3 1 1, oV (.iconst (-1)) 1 (-1), oA (.if_icmp .ne 29) 3 39]), (13, [o0 (.aload_n 0) 1, o0 (.aload_n 0) 1, oF (.getfield 119) 3 0 35 0, o0 (.lload_n 1) 1, oM (.invokevirtual 307) 3 25 3 1 1, oV (.iconst (-1)) 1 (-1), oA (.if_icmp .ne 16) 3 39]), (26, [o0 (.aload_n 0) 1, o0 (.aload_n 0) 1, oF (.getfield 119) 3 0 35 0, o0 (.lload_n 1) 1, oM (.invokevirtual 310) 3 26 3 1 1, oV (.iconst (-1)) 1 (-1), oA (.if_icmp .eq 5) 3 41]), (39, [oV (.iconst 1) 1 1, oA .ireturn 1 1]), (41, [oV (.iconst 0) 1 0, o0 (.istore_n 3) 1]), (43, [o0 (.iload_n 3) 1, o0 (.aload_n 0) 1, oF (.getfield 54) 3 0 14 2, o0 (.aload_n 0) 1, oF (.getfield 119) 3 0 35 0, o0 .iaload 1, oA (.if_icmp .ge 30) 3 83]), (56, [o0 (.aload_n 0) 1, oF (.getfield 77) 3 0 21 2, oV (.bipush 40) 2 40, o0 (.aload_n 0) 1, oF (.getfield 119) 3 0 35 0, o0 .imul 1, o0 (.iload_n 3) 1, o0 .iadd 1, o0 .laload 1, o0 (.lload_n 1) 1, o0 .lcmp 1, oA (.ifCond .ne 5) 3 77]), (75, [oV (.iconst 1) 1 1, oA .ireturn 1 1]), (77, [oV (.iinc 3 1) 3 1, oA (.goto (-37)) 3 43]), (83, [oV (.iconst 0) 1 0, oA .ireturn 1 1])], [(43, [0, 1, 3])], 4)
theorem mk_23 : mj_ckM mj_TY mp_0 prog_14_method_17_code 4 (some .boolean) mt_23 = true := by decide +kernel
-- UnbeatenHouseModel.wishOf(IJ)I
def mt_24 : mj_C := ([(0, [oV (.iconst 0) 1 0, o0 (.istore 4) 2]), (3, [o0 (.iload 4) 2, o0 (.aload_n 0) 1, oF (.getfield 51) 3 0 13 2, o0 (.iload_n 1) 1, o0 .iaload 1, oA (.if_icmp .ge 28) 3 39]), (14, [o0 (.aload_n 0) 1, oF (.getfield 69) 3 0 19 2, oV (.iconst 4) 1 4, o0 (.iload_n 1) 1, o0 .imul 1, o0 (.iload 4) 2, o0 .iadd 1, o0 .laload 1, o0 (.lload_n 2) 1, o0 .lcmp 1, oA (.ifCond .ne 6) 3 33]), (30, [o0 (.iload 4) 2, oA .ireturn 1 0]), (33, [oV (.iinc 4 1) 3 1, oA (.goto (-33)) 3 3]), (39, [oV (.iconst (-1)) 1 (-1), oA .ireturn 1 0])], [(3, [0, 1, 2, 4])], 5)
theorem mk_24 : mj_ckM mj_TY mp_0 prog_14_method_14_code 5 (some .int) mt_24 = true := by decide +kernel
-- UnbeatenHouseModel.knotOf(IJ)I
def mt_25 : mj_C := ([(0, [oV (.iconst 0) 1 0, o0 (.istore 4) 2]), (3, [o0 (.iload 4) 2, o0 (.aload_n 0) 1, oF (.getfield 57) 3 0 15 2, o0 (.iload_n 1) 1, o0 .iaload 1, oA (.if_icmp .ge 29) 3 40]), (14, [o0 (.aload_n 0) 1, oF (.getfield 86) 3 0 24 2, oV (.bipush 10) 2 10, o0 (.iload_n 1) 1, o0 .imul 1, o0 (.iload 4) 2, o0 .iadd 1, o0 .laload 1, o0 (.lload_n 2) 1, o0 .lcmp 1, oA (.ifCond .ne 6) 3 34]), (31, [o0 (.iload 4) 2, oA .ireturn 1 0]), (34, [oV (.iinc 4 1) 3 1, oA (.goto (-34)) 3 3]), (40, [oV (.iconst (-1)) 1 (-1), oA .ireturn 1 0])], [(3, [0, 1, 2, 4])], 5)
theorem mk_25 : mj_ckM mj_TY mp_0 prog_14_method_15_code 5 (some .int) mt_25 = true := by decide +kernel
-- UnbeatenHouseModel.thingOf(IJ)I
def mt_26 : mj_C := ([(0, [oV (.iconst 0) 1 0, o0 (.istore 4) 2]), (3, [o0 (.iload 4) 2, o0 (.aload_n 0) 1, oF (.getfield 63) 3 0 17 2, o0 (.iload_n 1) 1, o0 .iaload 1, oA (.if_icmp .ge 29) 3 40]), (14, [o0 (.aload_n 0) 1, oF (.getfield 98) 3 0 28 2, oV (.bipush 12) 2 12, o0 (.iload_n 1) 1, o0 .imul 1, o0 (.iload 4) 2, o0 .iadd 1, o0 .laload 1, o0 (.lload_n 2) 1, o0 .lcmp 1, oA (.ifCond .ne 6) 3 34]), (31, [o0 (.iload 4) 2, oA .ireturn 1 0]), (34, [oV (.iinc 4 1) 3 1, oA (.goto (-34)) 3 3]), (40, [oV (.iconst (-1)) 1 (-1), oA .ireturn 1 0])], [(3, [0, 1, 2, 4])], 5)
theorem mk_26 : mj_ckM mj_TY mp_0 prog_14_method_16_code 5 (some .int) mt_26 = true := by decide +kernel
-- UnbeatenHouseModel.row()V
def mt_27 : mj_C := ([(0, [o0 (.aload_n 0) 1, o0 (.aload_n 0) 1, oF (.getfield 54) 3 0 14 2, o0 (.aload_n 0) 1, oF (.getfield 119) 3 0 35 0, o0 .iaload 1, oV (.bipush 40) 2 40, oA (.if_icmp .ne 7) 3 19]), (15, [oV (.iconst 1) 1 1, oA (.goto 4) 3 20]), (19, [oV (.iconst 0) 1 0]), (20, [o0 (.aload_n 0) 1, oF (.getfield 51) 3 0 13 2, o0 (.aload_n 0) 1, oF (.getfield 119) 3 0 35 0, o0 .iaload 1, oA (.ifCond .ne 7) 3 36]), (32, [oV (.iconst 1) 1 1, oA (.goto 4) 3 37]), (36, [oV (.iconst 0) 1 0]), (37, [oM (.invokevirtual 355) 3 20 3 0 1, o0 (.aload_n 0) 1, oF (.getfield 36) 3 0 8 0, oA (.ifCond .le 4) 3 48]), (47, [o0 .return_ 1]), (48, [oV (.bipush 40) 2 40, o0 (.aload_n 0) 1, oF (.getfield 119) 3 0 35 0, o0 .imul 1, o0 (.aload_n 0) 1, oF (.getfield 54) 3 0 14 2, o0 (.aload_n 0) 1, oF (.getfield 119) 3 0 35 0, o0 .iaload 1, o0 .iadd 1, o0 (.istore_n 1) 1, o0 (.aload_n 0) 1, oF (.getfield 77) 3 0 21 2, o0 (.iload_n 1) 1, o0 (.aload_n 0) 1, oM (.invokevirtual 359) 3 21 1 2 1, o0 .lastore 1, oV (.iconst 0) 1 0, o0 (.istore_n 2) 1]), (78, [o0 (.iload_n 2) 1, o0 (.aload_n 0) 1, oF (.getfield 51) 3 0 13 2, o0 (.aload_n 0) 1, oF (.getfield 119) 3 0 35 0, o0 .iaload 1, oA (.if_icmp .ge 105) 3 193]), (91, [o0 (.aload_n 0) 1, oF (.getfield 36) 3 0 8 0, oA (.ifCond .ne 98) 3 193]), (98, [o0 (.aload_n 0) 1, oF (.getfield 83) 3 0 23 2, oV (.iconst 4) 1 4, o0 (.iload_n 1) 1, o0 .imul 1, o0 (.iload_n 2) 1, o0 .iadd 1, oV (.iconst 0) 1 0, o0 .iastore 1, o0 (.aload_n 0) 1, oV (.bipush 63) 2 63, oM (.invokevirtual 263) 3 28 2 1 1, oA (.ifCond .eq 21) 3 136]), (118, [o0 (.aload_n 0) 1, oF (.getfield 80) 3 0 22 2, oV (.iconst 4) 1 4, o0 (.iload_n 1) 1, o0 .imul 1, o0 (.iload_n 2) 1, o0 .iadd 1, oV (.iconst (-1)) 1 (-1), o0 .iastore 1, o0 (.aload_n 0) 1, oM (.invokevirtual 266) 3 13 1 0 1, oA (.goto 54) 3 187]), (136, [o0 (.aload_n 0) 1, oF (.getfield 80) 3 0 22 2, oV (.iconst 4) 1 4, o0 (.iload_n 1) 1, o0 .imul 1, o0 (.iload_n 2) 1, o0 .iadd 1, o0 (.aload_n 0) 1, oM (.invokevirtual 363) 3 29 1 1 1, o0 .iastore 1, o0 (.aload_n 0) 1, oF (.getfield 36) 3 0 8 0, oA (.ifCond .gt 33) 3 187]), (157, [o0 (.aload_n 0) 1, oV (.bipush 126) 2 126, oM (.invokevirtual 263) 3 28 2 1 1, oA (.ifCond .ne 6) 3 169]), (166, [oA (.goto 21) 3 187]), (169, [o0 (.aload_n 0) 1, oM (.invokevirtual 266) 3 13 1 0 1, o0 (.aload_n 0) 1, oF (.getfield 83) 3 0 23 2, oV (.iconst 4) 1 4, o0 (.iload_n 1) 1, o0 .imul 1, o0 (.iload_n 2) 1, o0 .iadd 1, o0 (.aload_n 0) 1, oM (.invokevirtual 363) 3 29 1 1 1, o0 .iastore 1]), (187, [oV (.iinc 2 1) 3 1, oA (.goto (-112)) 3 78]), (193, [o0 (.aload_n 0) 1, oF (.getfield 36) 3 0 8 0, oA (.ifCond .ne 16) 3 213]), (200, [o0 (.aload_n 0) 1, oF (.getfield 54) 3 0 14 2, o0 (.aload_n 0) 1, oF (.getfield 119) 3 0 35 0, o0 .dup2 1, o0 .iaload 1, oV (.iconst 1) 1 1, o0 .iadd 1, o0 .iastore 1]), (213, [o0 .return_ 1])], [(78, [0, 1, 2]), (193, [0])], 3)
theorem mk_27 : mj_ckM mj_TY mp_0 prog_14_method_34_code 3 none mt_27 = true := by decide +kernel
-- UnbeatenHouseModel.isSign(I)Z
def mt_28 : mj_C := ([(0, [o0 (.aload_n 0) 1, oF (.getfield 20) 3 0 3 0, oV (.iconst 3) 1 3, oA (.if_icmp .ne 15) 3 20]), (8, [o0 (.aload_n 0) 1, oF (.getfield 29) 3 0 6 0, o0 (.iload_n 1) 1, oA (.if_icmp .ne 7) 3 20]), (16, [oV (.iconst 1) 1 1, oA (.goto 4) 3 21]), (20, [oV (.iconst 0) 1 0]), (21, [oA .ireturn 1 1])], [], 2)
theorem mk_28 : mj_ckM mj_TY mp_0 prog_14_method_10_code 2 (some .boolean) mt_28 = true := by decide +kernel
-- UnbeatenHouseModel.number()I
def mt_29 : mj_C := ([(0, [o0 (.aload_n 0) 1, oF (.getfield 36) 3 0 8 0, oA (.ifCond .le 5) 3 9]), (7, [oV (.iconst 0) 1 0, oA .ireturn 1 0]), (9, [o0 (.aload_n 0) 1, oF (.getfield 20) 3 0 3 0, oV (.iconst 2) 1 2, oA (.if_icmp .eq 12) 3 26]), (17, [o0 (.aload_n 0) 1, oV (.iconst 1) 1 1, o0 (.aload_n 0) 1, oF (.getfield 23) 3 0 4 0, oM (.invokevirtual 259) 3 16 3 0 1]), (26, [o0 (.aload_n 0) 1, oF (.getfield 29) 3 0 6 0, o0 (.istore_n 1) 1, o0 (.aload_n 0) 1, oF (.getfield 36) 3 0 8 0, oA (.ifCond .ne 7) 3 42]), (38, [o0 (.aload_n 0) 1, oM (.invokevirtual 266) 3 13 1 0 1]), (42, [o0 (.iload_n 1) 1, oA .ireturn 1 0])], [(26, [0])], 2)
theorem mk_29 : mj_ckM mj_TY mp_0 prog_14_method_20_code 2 (some .int) mt_29 = true := by decide +kernel
-- UnbeatenHouseModel.tie()V
def mt_30 : mj_C := ([(0, [o0 (.aload_n 0) 1, o0 (.aload_n 0) 1, oF (.getfield 60) 3 0 16 2, o0 (.aload_n 0) 1, oF (.getfield 119) 3 0 35 0, o0 .iaload 1, oV (.bipush 24) 2 24, oA (.if_icmp .ne 7) 3 19]), (15, [oV (.iconst 1) 1 1, oA (.goto 4) 3 20]), (19, [oV (.iconst 0) 1 0]), (20, [o0 (.aload_n 0) 1, oF (.getfield 51) 3 0 13 2, o0 (.aload_n 0) 1, oF (.getfield 119) 3 0 35 0, o0 .iaload 1, oA (.ifCond .ne 7) 3 36]), (32, [oV (.iconst 1) 1 1, oA (.goto 4) 3 37]), (36, [oV (.iconst 0) 1 0]), (37, [oM (.invokevirtual 355) 3 20 3 0 1, o0 (.aload_n 0) 1, oF (.getfield 36) 3 0 8 0, oA (.ifCond .le 4) 3 48]), (47, [o0 .return_ 1]), (48, [oV (.bipush 24) 2 24, o0 (.aload_n 0) 1, oF (.getfield 119) 3 0 35 0, o0 .imul 1, o0 (.aload_n 0) 1, oF (.getfield 60) 3 0 16 2, o0 (.aload_n 0) 1, oF (.getfield 119) 3 0 35 0, o0 .iaload 1, o0 .iadd 1, o0 (.istore_n 1) 1, o0 (.aload_n 0) 1, oF (.getfield 89) 3 0 25 2, o0 (.iload_n 1) 1, o0 (.aload_n 0) 1, oV (.iconst (-1)) 1 (-1), oM (.invokevirtual 367) 3 31 2 1 1, o0 .iastore 1, o0 (.aload_n 0) 1, oF (.getfield 92) 3 0 26 2, o0 (.iload_n 1) 1, o0 (.aload_n 0) 1, o0 (.aload_n 0) 1, oF (.getfield 89) 3 0 25 2, o0 (.iload_n 1) 1, o0 .iaload 1, oM (.invokevirtual 367) 3 31 2 1 1, o0 .iastore 1, oV (.iconst 0) 1 0, o0 (.istore_n 2) 1]), (95, [o0 (.iload_n 2) 1, o0 (.aload_n 0) 1, oF (.getfield 51) 3 0 13 2, o0 (.aload_n 0) 1, oF (.getfield 119) 3 0 35 0, o0 .iaload 1, oA (.if_icmp .ge 30) 3 135]), (108, [o0 (.aload_n 0) 1, oF (.getfield 36) 3 0 8 0, oA (.ifCond .ne 23) 3 135]), (115, [o0 (.aload_n 0) 1, oF (.getfield 95) 3 0 27 2, oV (.iconst 4) 1 4, o0 (.iload_n 1) 1, o0 .imul 1, o0 (.iload_n 2) 1, o0 .iadd 1, o0 (.aload_n 0) 1, oM (.invokevirtual 363) 3 29 1 1 1, o0 .iastore 1, oV (.iinc 2 1) 3 1, oA (.goto (-37)) 3 95]), (135, [o0 (.aload_n 0) 1, oF (.getfield 36) 3 0 8 0, oA (.ifCond .ne 16) 3 155]), (142, [o0 (.aload_n 0) 1, oF (.getfield 60) 3 0 16 2, o0 (.aload_n 0) 1, oF (.getfield 119) 3 0 35 0, o0 .dup2 1, o0 .iaload 1, oV (.iconst 1) 1 1, o0 .iadd 1, o0 .iastore 1]), (155, [o0 .return_ 1])], [(95, [0, 1, 2]), (135, [0])], 3)
theorem mk_30 : mj_ckM mj_TY mp_0 prog_14_method_35_code 3 none mt_30 = true := by decide +kernel
-- UnbeatenHouseModel.knotRead(I)I
def mt_31 : mj_C := ([(0, [o0 (.aload_n 0) 1, oF (.getfield 36) 3 0 8 0, oA (.ifCond .le 5) 3 9]), (7, [oV (.iconst 0) 1 0, oA .ireturn 1 0]), (9, [o0 (.aload_n 0) 1, oF (.getfield 20) 3 0 3 0, oV (.iconst 1) 1 1, oA (.if_icmp .ne 14) 3 28]), (17, [o0 (.aload_n 0) 1, o0 (.aload_n 0) 1, oF (.getfield 32) 3 0 7 1, oM (.invokevirtual 313) 3 22 2 1 1, oA (.ifCond .eq 12) 3 37]), (28, [o0 (.aload_n 0) 1, oV (.iconst 1) 1 1, o0 (.aload_n 0) 1, oF (.getfield 23) 3 0 4 0, oM (.invokevirtual 259) 3 16 3 0 1]), (37, [o0 (.aload_n 0) 1, oF (.getfield 36) 3 0 8 0, oA (.ifCond .le 7) 3 48]), (44, [oV (.iconst 0) 1 0, oA (.goto 15) 3 60]), (48, [o0 (.aload_n 0) 1, o0 (.aload_n 0) 1, oF (.getfield 119) 3 0 35 0, o0 (.aload_n 0) 1, oF (.getfield 32) 3 0 7 1, oM (.invokevirtual 307) 3 25 3 1 1]), (60, [o0 (.istore_n 2) 1, o0 (.aload_n 0) 1, oF (.getfield 36) 3 0 8 0, oA (.ifCond .ne 22) 3 87]), (68, [o0 (.iload_n 2) 1, oV (.iconst (-1)) 1 (-1), oA (.if_icmp .eq 8) 3 78]), (73, [o0 (.iload_n 2) 1, o0 (.iload_n 1) 1, oA (.if_icmp .ne 12) 3 87]), (78, [o0 (.aload_n 0) 1, oV (.iconst 3) 1 3, o0 (.aload_n 0) 1, oF (.getfield 23) 3 0 4 0, oM (.invokevirtual 259) 3 16 3 0 1]), (87, [o0 (.aload_n 0) 1, oF (.getfield 36) 3 0 8 0, oA (.ifCond .ne 7) 3 98]), (94, [o0 (.aload_n 0) 1, oM (.invokevirtual 266) 3 13 1 0 1]), (98, [o0 (.iload_n 2) 1, oA .ireturn 1 0])], [(37, [0, 1]), (78, [0, 2])], 3)
theorem mk_31 : mj_ckM mj_TY mp_0 prog_14_method_19_code 3 (some .int) mt_31 = true := by decide +kernel
-- UnbeatenHouseModel.thing()V
def mt_32 : mj_C := ([(0, [o0 (.aload_n 0) 1, o0 (.aload_n 0) 1, oF (.getfield 63) 3 0 17 2, o0 (.aload_n 0) 1, oF (.getfield 119) 3 0 35 0, o0 .iaload 1, oV (.bipush 12) 2 12, oA (.if_icmp .ne 7) 3 19]), (15, [oV (.iconst 1) 1 1, oA (.goto 4) 3 20]), (19, [oV (.iconst 0) 1 0]), (20, [o0 (.aload_n 0) 1, oF (.getfield 51) 3 0 13 2, o0 (.aload_n 0) 1, oF (.getfield 119) 3 0 35 0, o0 .iaload 1, oA (.ifCond .ne 7) 3 36]), (32, [oV (.iconst 1) 1 1, oA (.goto 4) 3 37]), (36, [oV (.iconst 0) 1 0]), (37, [oM (.invokevirtual 355) 3 20 3 0 1, o0 (.aload_n 0) 1, oF (.getfield 36) 3 0 8 0, oA (.ifCond .le 4) 3 48]), (47, [o0 .return_ 1]), (48, [oV (.bipush 12) 2 12, o0 (.aload_n 0) 1, oF (.getfield 119) 3 0 35 0, o0 .imul 1, o0 (.aload_n 0) 1, oF (.getfield 63) 3 0 17 2, o0 (.aload_n 0) 1, oF (.getfield 119) 3 0 35 0, o0 .iaload 1, o0 .iadd 1, o0 (.istore_n 1) 1, o0 (.aload_n 0) 1, oM (.invokevirtual 359) 3 21 1 2 1, o0 (.lstore_n 2) 1, oV (.iconst 0) 1 0, o0 (.istore 4) 2]), (74, [o0 (.iload 4) 2, o0 (.aload_n 0) 1, oF (.getfield 51) 3 0 13 2, o0 (.aload_n 0) 1, oF (.getfield 119) 3 0 35 0, o0 .iaload 1, oA (.if_icmp .ge 31) 3 116]), (88, [o0 (.aload_n 0) 1, oF (.getfield 36) 3 0 8 0, oA (.ifCond .ne 24) 3 116]), (95, [o0 (.aload_n 0) 1, oF (.getfield 101) 3 0 29 2, oV (.iconst 4) 1 4, o0 (.iload_n 1) 1, o0 .imul 1, o0 (.iload 4) 2, o0 .iadd 1, o0 (.aload_n 0) 1, oM (.invokevirtual 363) 3 29 1 1 1, o0 .iastore 1, oV (.iinc 4 1) 3 1, oA (.goto (-39)) 3 74]), (116, [o0 (.aload_n 0) 1, oF (.getfield 98) 3 0 28 2, o0 (.iload_n 1) 1, o0 (.lload_n 2) 1, o0 .lastore 1, o0 (.aload_n 0) 1, oF (.getfield 36) 3 0 8 0, oA (.ifCond .ne 16) 3 143]), (130, [o0 (.aload_n 0) 1, oF (.getfield 63) 3 0 17 2, o0 (.aload_n 0) 1, oF (.getfield 119) 3 0 35 0, o0 .dup2 1, o0 .iaload 1, oV (.iconst 1) 1 1, o0 .iadd 1, o0 .iastore 1]), (143, [o0 .return_ 1])], [(74, [0, 1, 2, 4]), (116, [0, 1, 2])], 5)
theorem mk_32 : mj_ckM mj_TY mp_0 prog_14_method_36_code 5 none mt_32 = true := by decide +kernel
-- UnbeatenHouseModel.readsTest()V
def mt_33 : mj_C := ([(0, [o0 (.aload_n 0) 1, oF (.getfield 36) 3 0 8 0, oA (.ifCond .le 4) 3 8]), (7, [o0 .return_ 1]), (8, [o0 (.aload_n 0) 1, oV (.iconst 0) 1 0, oF (.putfield 137) 3 0 41 0, o0 (.aload_n 0) 1, oV (.iconst 0) 1 0, oF (.putfield 140) 3 0 42 0, o0 (.aload_n 0) 1, oV (.iconst 0) 1 0, oF (.putfield 146) 3 0 44 0, o0 (.aload_n 0) 1, oV (.iconst 0) 1 0, oF (.putfield 149) 3 0 45 3]), (28, [o0 (.aload_n 0) 1, oV (.iconst 1) 1 1, oM (.invokevirtual 327) 3 34 2 0 1, oV (.iconst 1) 1 1, o0 (.istore_n 1) 1]), (35, [o0 (.iload_n 1) 1, oA (.ifCond .eq 46) 3 82]), (39, [o0 (.aload_n 0) 1, oF (.getfield 149) 3 0 45 3, oA (.ifCond .ne 14) 3 57]), (46, [o0 (.aload_n 0) 1, o0 (.aload_n 0) 1, oM (.invokevirtual 348) 3 35 1 1 1, oF (.putfield 149) 3 0 45 3, oA (.goto 8) 3 62]), (57, [o0 (.aload_n 0) 1, oM (.invokevirtual 352) 3 41 1 1 1, o0 (.istore_n 1) 1]), (62, [o0 (.iload_n 1) 1, oA (.ifCond .eq 14) 3 77]), (66, [o0 (.aload_n 0) 1, oF (.getfield 36) 3 0 8 0, oA (.ifCond .ne 7) 3 77]), (73, [oV (.iconst 1) 1 1, oA (.goto 4) 3 78]), (77, [oV (.iconst 0) 1 0]), (78, [o0 (.istore_n 1) 1, oA (.goto (-44)) 3 35]), (82, [o0 .return_ 1])], [(28, [0]), (35, [0, 1]), (62, [0, 1])], 2)
theorem mk_33 : mj_ckM mj_TY mp_0 prog_14_method_31_code 2 none mt_33 = true := by decide +kernel
-- UnbeatenHouseModel.pushes(I)V
def mt_34 : mj_C := ([(0, [o0 (.aload_n 0) 1, oF (.getfield 122) 3 0 36 2, o0 (.aload_n 0) 1, oF (.getfield 137) 3 0 41 0, o0 (.iload_n 1) 1, o0 .iastore 1, o0 (.aload_n 0) 1, oF (.getfield 125) 3 0 37 2, o0 (.aload_n 0) 1, oF (.getfield 137) 3 0 41 0, oV (.iconst 0) 1 0, o0 .iastore 1, o0 (.aload_n 0) 1, oF (.getfield 128) 3 0 38 2, o0 (.aload_n 0) 1, oF (.getfield 137) 3 0 41 0, oV (.iconst 1) 1 1, o0 .bastore 1, o0 (.aload_n 0) 1, oF (.getfield 134) 3 0 40 2, o0 (.aload_n 0) 1, oF (.getfield 137) 3 0 41 0, o0 (.aload_n 0) 1, oF (.getfield 146) 3 0 44 0, o0 .iastore 1]), (43, [o0 (.aload_n 0) 1, o0 .dup 1, oF (.getfield 137) 3 0 41 0, oV (.iconst 1) 1 1, o0 .iadd 1, oF (.putfield 137) 3 0 41 0, o0 .return_ 1])], [(43, [0])], 2)
theorem mk_34 : mj_ckM mj_TY mp_0 prog_14_method_25_code 2 none mt_34 = true := by decide +kernel
-- UnbeatenHouseModel.part()Z
def mt_35 : mj_C := ([(0, [o0 (.aload_n 0) 1, oF (.getfield 137) 3 0 41 0, oV (.iconst 1) 1 1, o0 .isub 1, o0 (.istore_n 1) 1, o0 (.aload_n 0) 1, oF (.getfield 122) 3 0 36 2, o0 (.iload_n 1) 1, o0 .iaload 1, oM (.invokestatic 330) 3 36 1 1 0, oA (.ifCond .eq 16) 3 32]), (19, [o0 (.aload_n 0) 1, oF (.getfield 128) 3 0 38 2, o0 (.iload_n 1) 1, o0 .baload 1, oA (.ifCond .eq 7) 3 32]), (28, [oV (.iconst 1) 1 1, oA (.goto 4) 3 33]), (32, [oV (.iconst 0) 1 0]), (33, [o0 (.istore_n 2) 1, o0 (.iload_n 2) 1, oA (.ifCond .eq 25) 3 60]), (38, [o0 (.aload_n 0) 1, oW (.ldc2_w 289) 3 7237492, oM (.invokevirtual 333) 3 18 2 1 1, oA (.ifCond .eq 15) 3 60]), (48, [o0 (.aload_n 0) 1, oV (.bipush 16) 2 16, oM (.invokevirtual 336) 3 37 2 0 1, o0 (.aload_n 0) 1, oM (.invokevirtual 266) 3 13 1 0 1, oV (.iconst 0) 1 0, oA .ireturn 1 1]), (60, [o0 (.aload_n 0) 1, oF (.getfield 128) 3 0 38 2, o0 (.iload_n 1) 1, oV (.iconst 0) 1 0, o0 .bastore 1, o0 (.iload_n 2) 1, oA (.ifCond .eq 19) 3 87]), (71, [o0 (.aload_n 0) 1, oV (.bipush 91) 2 91, oM (.invokevirtual 263) 3 28 2 1 1, oA (.ifCond .eq 10) 3 87]), (80, [o0 (.aload_n 0) 1, oV (.iconst 5) 1 5, oM (.invokevirtual 339) 3 38 2 0 1, oV (.iconst 0) 1 0, oA .ireturn 1 1]), (87, [o0 (.iload_n 2) 1, oA (.ifCond .eq 32) 3 120]), (91, [o0 (.aload_n 0) 1, oW (.ldc2_w 291) 3 6384748, oM (.invokevirtual 333) 3 18 2 1 1, oA (.ifCond .eq 22) 3 120]), (101, [o0 (.aload_n 0) 1, oV (.iconst 3) 1 3, oV (.iconst 0) 1 0, oM (.invokevirtual 324) 3 39 3 0 1, o0 (.aload_n 0) 1, oF (.getfield 125) 3 0 37 2, o0 (.iload_n 1) 1, oV (.iconst 2) 1 2, o0 .iastore 1, o0 (.aload_n 0) 1, oM (.invokevirtual 266) 3 13 1 0 1, oV (.iconst 1) 1 1, oA .ireturn 1 1]), (120, [o0 (.iload_n 2) 1, oA (.ifCond .eq 27) 3 148]), (124, [o0 (.aload_n 0) 1, oW (.ldc2_w 293) 3 6840691, oM (.invokevirtual 333) 3 18 2 1 1, oA (.ifCond .eq 17) 3 148]), (134, [o0 (.aload_n 0) 1, oF (.getfield 125) 3 0 37 2, o0 (.iload_n 1) 1, oV (.iconst 2) 1 2, o0 .iastore 1, o0 (.aload_n 0) 1, oV (.iconst 4) 1 4, oM (.invokevirtual 342) 3 40 2 0 1, oV (.iconst 1) 1 1, oA .ireturn 1 1]), (148, [o0 (.aload_n 0) 1, oV (.bipush 40) 2 40, oM (.invokevirtual 263) 3 28 2 1 1, oA (.ifCond .eq 10) 3 164]), (157, [o0 (.aload_n 0) 1, oV (.iconst 2) 1 2, oM (.invokevirtual 339) 3 38 2 0 1, oV (.iconst 0) 1 0, oA .ireturn 1 1]), (164, [o0 (.aload_n 0) 1, oW (.ldc2_w 299) 3 7170414, oM (.invokevirtual 333) 3 18 2 1 1, oA (.ifCond .ne 13) 3 184]), (174, [o0 (.aload_n 0) 1, oW (.ldc2_w 301) 3 7168376, oM (.invokevirtual 333) 3 18 2 1 1, oA (.ifCond .eq 69) 3 250]), (184, [o0 (.aload_n 0) 1, oW (.ldc2_w 299) 3 7170414, oM (.invokevirtual 333) 3 18 2 1 1, oA (.ifCond .eq 8) 3 199]), (194, [oV (.bipush 9) 2 9, oA (.goto 5) 3 201]), (199, [oV (.bipush 10) 2 10]), (201, [o0 (.istore_n 3) 1, o0 (.aload_n 0) 1, oM (.invokevirtual 266) 3 13 1 0 1, o0 (.aload_n 0) 1, oV (.bipush 40) 2 40, oM (.invokevirtual 263) 3 28 2 1 1, oA (.ifCond .ne 12) 3 224]), (215, [o0 (.aload_n 0) 1, oV (.iconst 1) 1 1, o0 (.aload_n 0) 1, oF (.getfield 23) 3 0 4 0, oM (.invokevirtual 259) 3 16 3 0 1]), (224, [o0 (.aload_n 0) 1, oV (.iconst 3) 1 3, oM (.invokevirtual 339) 3 38 2 0 1, o0 (.aload_n 0) 1, oF (.getfield 36) 3 0 8 0, oA (.ifCond .ne 15) 3 248]), (236, [o0 (.aload_n 0) 1, oF (.getfield 131) 3 0 39 2, o0 (.aload_n 0) 1, oF (.getfield 137) 3 0 41 0, oV (.iconst 1) 1 1, o0 .isub 1, o0 (.iload_n 3) 1, o0 .iastore 1]), (248, [oV (.iconst 0) 1 0, oA .ireturn 1 1]), (250, [o0 (.aload_n 0) 1, oW (.ldc2_w 297) 3 28518, oM (.invokevirtual 333) 3 18 2 1 1, oA (.ifCond .eq 10) 3 267]), (260, [o0 (.aload_n 0) 1, oV (.iconst 2) 1 2, oM (.invokevirtual 342) 3 40 2 0 1, oV (.iconst 1) 1 1, oA .ireturn 1 1]), (267, [o0 (.aload_n 0) 1, oF (.getfield 20) 3 0 3 0, oV (.iconst 2) 1 2, oA (.if_icmp .ne 15) 3 287]), (275, [o0 (.aload_n 0) 1, oV (.iconst 0) 1 0, o0 (.aload_n 0) 1, oF (.getfield 29) 3 0 6 0, oM (.invokevirtual 324) 3 39 3 0 1, oA (.goto 31) 3 315]), (287, [o0 (.aload_n 0) 1, oW (.ldc2_w 295) 3 1835101817, oM (.invokevirtual 333) 3 18 2 1 1, oA (.ifCond .eq 12) 3 306]), (297, [o0 (.aload_n 0) 1, oV (.iconst 1) 1 1, oV (.iconst 0) 1 0, oM (.invokevirtual 324) 3 39 3 0 1, oA (.goto 12) 3 315]), (306, [o0 (.aload_n 0) 1, oV (.iconst 1) 1 1, o0 (.aload_n 0) 1, oF (.getfield 23) 3 0 4 0, oM (.invokevirtual 259) 3 16 3 0 1]), (315, [o0 (.aload_n 0) 1, oF (.getfield 36) 3 0 8 0, oA (.ifCond .ne 7) 3 326]), (322, [o0 (.aload_n 0) 1, oM (.invokevirtual 266) 3 13 1 0 1]), (326, [oV (.iconst 1) 1 1, oA .ireturn 1 1])], [(32, [0, 1]), (60, [0, 1, 2]), (87, [0, 1, 2]), (120, [0, 1, 2]), (148, [0]), (184, [0]), (224, [0, 3])], 4)
theorem mk_35 : mj_ckM mj_TY mp_0 prog_14_method_29_code 4 (some .boolean) mt_35 = true := by decide +kernel
-- UnbeatenHouseModel.isTest(I)Z
def mt_36 : mj_C := ([(0, [o0 (.iload_n 0) 1, oV (.iconst 1) 1 1, oA (.if_icmp .eq 8) 3 10]), (5, [o0 (.iload_n 0) 1, oV (.iconst 5) 1 5, oA (.if_icmp .ne 7) 3 14]), (10, [oV (.iconst 1) 1 1, oA (.goto 4) 3 15]), (14, [oV (.iconst 0) 1 0]), (15, [oA .ireturn 1 1])], [], 1)
theorem mk_36 : mj_ckM mj_TY mp_0 prog_14_method_27_code 1 (some .boolean) mt_36 = true := by decide +kernel
-- UnbeatenHouseModel.holdsBack(I)V
def mt_37 : mj_C := ([(0, [o0 (.aload_n 0) 1, oF (.getfield 143) 3 0 43 2, o0 (.aload_n 0) 1, oF (.getfield 146) 3 0 44 0, o0 (.iload_n 1) 1, o0 .iastore 1, o0 (.aload_n 0) 1, o0 .dup 1, oF (.getfield 146) 3 0 44 0, oV (.iconst 1) 1 1, o0 .iadd 1, oF (.putfield 146) 3 0 44 0, o0 .return_ 1])], [], 2)
theorem mk_37 : mj_ckM mj_TY mp_0 prog_14_method_24_code 2 none mt_37 = true := by decide +kernel
-- UnbeatenHouseModel.opens(I)V
def mt_38 : mj_C := ([(0, [o0 (.aload_n 0) 1, oF (.getfield 140) 3 0 42 0, oV (.bipush 8) 2 8, oA (.if_icmp .ne 12) 3 18]), (9, [o0 (.aload_n 0) 1, oV (.iconst 5) 1 5, o0 (.aload_n 0) 1, oF (.getfield 23) 3 0 4 0, oM (.invokevirtual 259) 3 16 3 0 1]), (18, [o0 (.aload_n 0) 1, oF (.getfield 36) 3 0 8 0, oA (.ifCond .le 4) 3 26]), (25, [o0 .return_ 1]), (26, [o0 (.aload_n 0) 1, o0 .dup 1, oF (.getfield 140) 3 0 42 0, oV (.iconst 1) 1 1, o0 .iadd 1, oF (.putfield 140) 3 0 42 0, o0 (.aload_n 0) 1, oM (.invokevirtual 266) 3 13 1 0 1, o0 (.aload_n 0) 1, o0 (.iload_n 1) 1, oM (.invokevirtual 327) 3 34 2 0 1, o0 .return_ 1])], [(18, [0, 1])], 2)
theorem mk_38 : mj_ckM mj_TY mp_0 prog_14_method_26_code 2 none mt_38 = true := by decide +kernel
-- UnbeatenHouseModel.add(II)V
def mt_39 : mj_C := ([(0, [o0 (.aload_n 0) 1, oF (.getfield 110) 3 0 32 2, oV (.sipush 900) 3 900, o0 (.aload_n 0) 1, oF (.getfield 119) 3 0 35 0, o0 .imul 1, o0 (.aload_n 0) 1, oF (.getfield 116) 3 0 34 0, o0 .iadd 1, o0 (.iload_n 1) 1, o0 .iastore 1, o0 (.aload_n 0) 1, oF (.getfield 113) 3 0 33 2, oV (.sipush 900) 3 900, o0 (.aload_n 0) 1, oF (.getfield 119) 3 0 35 0, o0 .imul 1, o0 (.aload_n 0) 1, oF (.getfield 116) 3 0 34 0, o0 .iadd 1, o0 (.iload_n 2) 1, o0 .iastore 1, o0 (.aload_n 0) 1, o0 .dup 1, oF (.getfield 116) 3 0 34 0, oV (.iconst 1) 1 1, o0 .iadd 1, oF (.putfield 116) 3 0 34 0, o0 .return_ 1])], [], 3)
theorem mk_39 : mj_ckM mj_TY mp_0 prog_14_method_21_code 3 none mt_39 = true := by decide +kernel
-- UnbeatenHouseModel.named(I)V
def mt_40 : mj_C := ([(0, [o0 (.aload_n 0) 1, oM (.invokevirtual 266) 3 13 1 0 1, o0 (.aload_n 0) 1, oF (.getfield 36) 3 0 8 0, oA (.ifCond .ne 31) 3 39]), (11, [o0 (.aload_n 0) 1, oF (.getfield 20) 3 0 3 0, oV (.iconst 1) 1 1, oA (.if_icmp .ne 14) 3 30]), (19, [o0 (.aload_n 0) 1, o0 (.aload_n 0) 1, oF (.getfield 32) 3 0 7 1, oM (.invokevirtual 313) 3 22 2 1 1, oA (.ifCond .eq 12) 3 39]), (30, [o0 (.aload_n 0) 1, oV (.iconst 1) 1 1, o0 (.aload_n 0) 1, oF (.getfield 23) 3 0 4 0, oM (.invokevirtual 259) 3 16 3 0 1]), (39, [o0 (.aload_n 0) 1, oF (.getfield 36) 3 0 8 0, oA (.ifCond .le 7) 3 50]), (46, [oV (.iconst 0) 1 0, oA (.goto 35) 3 82]), (50, [o0 (.iload_n 1) 1, oV (.iconst 2) 1 2, oA (.if_icmp .ne 18) 3 70]), (55, [o0 (.aload_n 0) 1, o0 (.aload_n 0) 1, oF (.getfield 119) 3 0 35 0, o0 (.aload_n 0) 1, oF (.getfield 32) 3 0 7 1, oM (.invokevirtual 303) 3 24 3 1 1, oA (.goto 15) 3 82]), (70, [o0 (.aload_n 0) 1, o0 (.aload_n 0) 1, oF (.getfield 119) 3 0 35 0, o0 (.aload_n 0) 1, oF (.getfield 32) 3 0 7 1, oM (.invokevirtual 310) 3 26 3 1 1]), (82, [o0 (.istore_n 2) 1, o0 (.aload_n 0) 1, oF (.getfield 36) 3 0 8 0, oA (.ifCond .ne 17) 3 104]), (90, [o0 (.iload_n 2) 1, oV (.iconst (-1)) 1 (-1), oA (.if_icmp .ne 12) 3 104]), (95, [o0 (.aload_n 0) 1, oV (.iconst 3) 1 3, o0 (.aload_n 0) 1, oF (.getfield 23) 3 0 4 0, oM (.invokevirtual 259) 3 16 3 0 1]), (104, [o0 (.aload_n 0) 1, oF (.getfield 36) 3 0 8 0, oA (.ifCond .le 4) 3 112]), (111, [o0 .return_ 1]), (112, [o0 (.aload_n 0) 1, o0 (.iload_n 1) 1, o0 (.iload_n 2) 1, oM (.invokevirtual 324) 3 39 3 0 1, o0 (.aload_n 0) 1, oM (.invokevirtual 266) 3 13 1 0 1, o0 .return_ 1])], [(39, [0, 1]), (104, [0, 1, 2])], 3)
theorem mk_40 : mj_ckM mj_TY mp_0 prog_14_method_28_code 3 none mt_40 = true := by decide +kernel
-- UnbeatenHouseModel.goesOn()Z
def mt_41 : mj_C := ([(0, [o0 (.aload_n 0) 1, oF (.getfield 137) 3 0 41 0, oV (.iconst 1) 1 1, o0 .isub 1, o0 (.istore_n 1) 1, o0 (.aload_n 0) 1, oF (.getfield 122) 3 0 36 2, o0 (.iload_n 1) 1, o0 .iaload 1, o0 (.istore_n 2) 1, o0 (.iload_n 2) 1, oM (.invokestatic 330) 3 36 1 1 0, o0 (.istore_n 3) 1, o0 (.aload_n 0) 1, oF (.getfield 125) 3 0 37 2, o0 (.iload_n 1) 1, o0 .iaload 1, oV (.iconst 2) 1 2, oA (.if_icmp .ge 125) 3 151]), (29, [o0 (.aload_n 0) 1, oV (.bipush 43) 2 43, oM (.invokevirtual 263) 3 28 2 1 1, oA (.ifCond .ne 30) 3 65]), (38, [o0 (.aload_n 0) 1, oV (.bipush 45) 2 45, oM (.invokevirtual 263) 3 28 2 1 1, oA (.ifCond .ne 21) 3 65]), (47, [o0 (.aload_n 0) 1, oV (.bipush 42) 2 42, oM (.invokevirtual 263) 3 28 2 1 1, oA (.ifCond .ne 12) 3 65]), (56, [o0 (.aload_n 0) 1, oV (.bipush 47) 2 47, oM (.invokevirtual 263) 3 28 2 1 1, oA (.ifCond .eq 89) 3 151]), (65, [o0 (.aload_n 0) 1, o0 (.aload_n 0) 1, oV (.bipush 43) 2 43, oM (.invokevirtual 263) 3 28 2 1 1, oA (.ifCond .ne 12) 3 84]), (75, [o0 (.aload_n 0) 1, oV (.bipush 45) 2 45, oM (.invokevirtual 263) 3 28 2 1 1, oA (.ifCond .eq 7) 3 88]), (84, [oV (.iconst 5) 1 5, oA (.goto 5) 3 90]), (88, [oV (.bipush 6) 2 6]), (90, [oM (.invokevirtual 345) 3 42 2 0 1, o0 (.aload_n 0) 1, o0 (.aload_n 0) 1, oV (.bipush 43) 2 43, oM (.invokevirtual 263) 3 28 2 1 1, oA (.ifCond .eq 7) 3 107]), (103, [oV (.iconst 5) 1 5, oA (.goto 33) 3 137]), (107, [o0 (.aload_n 0) 1, oV (.bipush 45) 2 45, oM (.invokevirtual 263) 3 28 2 1 1, oA (.ifCond .eq 8) 3 121]), (116, [oV (.bipush 6) 2 6, oA (.goto 19) 3 137]), (121, [o0 (.aload_n 0) 1, oV (.bipush 42) 2 42, oM (.invokevirtual 263) 3 28 2 1 1, oA (.ifCond .eq 8) 3 135]), (130, [oV (.bipush 7) 2 7, oA (.goto 5) 3 137]), (135, [oV (.bipush 8) 2 8]), (137, [oM (.invokevirtual 336) 3 37 2 0 1, o0 (.aload_n 0) 1, oM (.invokevirtual 266) 3 13 1 0 1, o0 (.aload_n 0) 1, oV (.iconst 0) 1 0, oF (.putfield 149) 3 0 45 3, oV (.iconst 1) 1 1, oA .ireturn 1 1]), (151, [o0 (.iload_n 3) 1, oA (.ifCond .eq 96) 3 248]), (155, [o0 (.aload_n 0) 1, oF (.getfield 125) 3 0 37 2, o0 (.iload_n 1) 1, o0 .iaload 1, oA (.ifCond .ne 87) 3 248]), (164, [o0 (.aload_n 0) 1, oV (.bipush 60) 2 60, oM (.invokevirtual 263) 3 28 2 1 1, oA (.ifCond .ne 21) 3 191]), (173, [o0 (.aload_n 0) 1, oV (.bipush 62) 2 62, oM (.invokevirtual 263) 3 28 2 1 1, oA (.ifCond .ne 12) 3 191]), (182, [o0 (.aload_n 0) 1, oV (.bipush 61) 2 61, oM (.invokevirtual 263) 3 28 2 1 1, oA (.ifCond .eq 60) 3 248]), (191, [o0 (.aload_n 0) 1, oV (.iconst 5) 1 5, oM (.invokevirtual 345) 3 42 2 0 1, o0 (.aload_n 0) 1, o0 (.aload_n 0) 1, oV (.bipush 60) 2 60, oM (.invokevirtual 263) 3 28 2 1 1, oA (.ifCond .eq 8) 3 211]), (206, [oV (.bipush 11) 2 11, oA (.goto 19) 3 227]), (211, [o0 (.aload_n 0) 1, oV (.bipush 62) 2 62, oM (.invokevirtual 263) 3 28 2 1 1, oA (.ifCond .eq 8) 3 225]), (220, [oV (.bipush 12) 2 12, oA (.goto 5) 3 227]), (225, [oV (.bipush 13) 2 13]), (227, [oM (.invokevirtual 336) 3 37 2 0 1, o0 (.aload_n 0) 1, oF (.getfield 125) 3 0 37 2, o0 (.iload_n 1) 1, oV (.iconst 1) 1 1, o0 .iastore 1, o0 (.aload_n 0) 1, oM (.invokevirtual 266) 3 13 1 0 1, o0 (.aload_n 0) 1, oV (.iconst 0) 1 0, oF (.putfield 149) 3 0 45 3, oV (.iconst 1) 1 1, oA .ireturn 1 1]), (248, [o0 (.iload_n 3) 1, oA (.ifCond .eq 114) 3 363]), (252, [o0 (.aload_n 0) 1, oW (.ldc2_w 287) 3 6385252, oM (.invokevirtual 333) 3 18 2 1 1, oA (.ifCond .ne 13) 3 272]), (262, [o0 (.aload_n 0) 1, oW (.ldc2_w 285) 3 28530, oM (.invokevirtual 333) 3 18 2 1 1, oA (.ifCond .eq 94) 3 363]), (272, [o0 (.aload_n 0) 1, oF (.getfield 125) 3 0 37 2, o0 (.iload_n 1) 1, o0 .iaload 1, oA (.ifCond .ne 12) 3 290]), (281, [o0 (.aload_n 0) 1, oV (.iconst 1) 1 1, o0 (.aload_n 0) 1, oF (.getfield 23) 3 0 4 0, oM (.invokevirtual 259) 3 16 3 0 1]), (290, [o0 (.aload_n 0) 1, oF (.getfield 36) 3 0 8 0, oA (.ifCond .le 5) 3 299]), (297, [oV (.iconst 0) 1 0, oA .ireturn 1 1]), (299, [o0 (.aload_n 0) 1, oW (.ldc2_w 287) 3 6385252, oM (.invokevirtual 333) 3 18 2 1 1, o0 (.istore 4) 2, o0 (.aload_n 0) 1, o0 (.iload 4) 2, oA (.ifCond .eq 7) 3 318]), (314, [oV (.iconst 2) 1 2, oA (.goto 4) 3 319]), (318, [oV (.iconst 1) 1 1]), (319, [oM (.invokevirtual 345) 3 42 2 0 1, o0 (.aload_n 0) 1, o0 (.iload 4) 2, oA (.ifCond .eq 8) 3 333]), (328, [oV (.bipush 14) 2 14, oA (.goto 5) 3 335]), (333, [oV (.bipush 15) 2 15]), (335, [oM (.invokevirtual 336) 3 37 2 0 1, o0 (.aload_n 0) 1, oF (.getfield 125) 3 0 37 2, o0 (.iload_n 1) 1, oV (.iconst 0) 1 0, o0 .iastore 1, o0 (.aload_n 0) 1, oF (.getfield 128) 3 0 38 2, o0 (.iload_n 1) 1, oV (.iconst 1) 1 1, o0 .bastore 1, o0 (.aload_n 0) 1, oM (.invokevirtual 266) 3 13 1 0 1, o0 (.aload_n 0) 1, oV (.iconst 0) 1 0, oF (.putfield 149) 3 0 45 3, oV (.iconst 1) 1 1, oA .ireturn 1 1]), (363, [o0 (.iload_n 3) 1, oA (.ifCond .eq 21) 3 385]), (367, [o0 (.aload_n 0) 1, oF (.getfield 125) 3 0 37 2, o0 (.iload_n 1) 1, o0 .iaload 1, oA (.ifCond .ne 12) 3 385]), (376, [o0 (.aload_n 0) 1, oV (.iconst 1) 1 1, o0 (.aload_n 0) 1, oF (.getfield 23) 3 0 4 0, oM (.invokevirtual 259) 3 16 3 0 1]), (385, [o0 (.iload_n 2) 1, oV (.iconst 1) 1 1, oA (.if_icmp .ne 17) 3 404]), (390, [o0 (.aload_n 0) 1, oF (.getfield 36) 3 0 8 0, oA (.ifCond .ne 8) 3 402]), (397, [o0 (.aload_n 0) 1, oV (.iconst 1) 1 1, oM (.invokevirtual 345) 3 42 2 0 1]), (402, [oV (.iconst 0) 1 0, oA .ireturn 1 1]), (404, [o0 (.iload_n 2) 1, oV (.iconst 3) 1 3, oA (.if_icmp .ne 53) 3 459]), (409, [o0 (.aload_n 0) 1, oV (.bipush 44) 2 44, oM (.invokevirtual 263) 3 28 2 1 1, oA (.ifCond .ne 12) 3 427]), (418, [o0 (.aload_n 0) 1, oV (.iconst 1) 1 1, o0 (.aload_n 0) 1, oF (.getfield 23) 3 0 4 0, oM (.invokevirtual 259) 3 16 3 0 1]), (427, [o0 (.aload_n 0) 1, oF (.getfield 36) 3 0 8 0, oA (.ifCond .le 5) 3 436]), (434, [oV (.iconst 0) 1 0, oA .ireturn 1 1]), (436, [o0 (.aload_n 0) 1, oV (.iconst 1) 1 1, oM (.invokevirtual 345) 3 42 2 0 1, o0 (.aload_n 0) 1, oF (.getfield 122) 3 0 36 2, o0 (.iload_n 1) 1, oV (.iconst 4) 1 4, o0 .iastore 1, o0 (.aload_n 0) 1, oM (.invokevirtual 266) 3 13 1 0 1, o0 (.aload_n 0) 1, oV (.iconst 0) 1 0, oF (.putfield 149) 3 0 45 3, oV (.iconst 1) 1 1, oA .ireturn 1 1]), (459, [o0 (.aload_n 0) 1, o0 (.iload_n 2) 1, oV (.iconst 5) 1 5, oA (.if_icmp .ne 8) 3 470]), (465, [oV (.bipush 93) 2 93, oA (.goto 5) 3 472]), (470, [oV (.bipush 41) 2 41]), (472, [oM (.invokevirtual 263) 3 28 2 1 1, oA (.ifCond .ne 12) 3 487]), (478, [o0 (.aload_n 0) 1, oV (.iconst 1) 1 1, o0 (.aload_n 0) 1, oF (.getfield 23) 3 0 4 0, oM (.invokevirtual 259) 3 16 3 0 1]), (487, [o0 (.aload_n 0) 1, oF (.getfield 36) 3 0 8 0, oA (.ifCond .le 5) 3 496]), (494, [oV (.iconst 0) 1 0, oA .ireturn 1 1]), (496, [o0 (.aload_n 0) 1, oV (.iconst 1) 1 1, oM (.invokevirtual 345) 3 42 2 0 1, o0 (.aload_n 0) 1, o0 .dup 1, oF (.getfield 137) 3 0 41 0, oV (.iconst 1) 1 1, o0 .isub 1, oF (.putfield 137) 3 0 41 0, o0 (.aload_n 0) 1, o0 .dup 1, oF (.getfield 140) 3 0 42 0, oV (.iconst 1) 1 1, o0 .isub 1, oF (.putfield 140) 3 0 42 0, o0 (.iload_n 2) 1, oV (.iconst 4) 1 4, oA (.if_icmp .ne 14) 3 537]), (526, [o0 (.aload_n 0) 1, o0 (.aload_n 0) 1, oF (.getfield 131) 3 0 39 2, o0 (.iload_n 1) 1, o0 .iaload 1, oV (.iconst 0) 1 0, oM (.invokevirtual 324) 3 39 3 0 1]), (537, [o0 (.iload_n 2) 1, oV (.iconst 5) 1 5, oA (.if_icmp .ne 15) 3 554]), (542, [o0 (.aload_n 0) 1, oF (.getfield 125) 3 0 37 2, o0 (.aload_n 0) 1, oF (.getfield 137) 3 0 41 0, oV (.iconst 1) 1 1, o0 .isub 1, oV (.iconst 2) 1 2, o0 .iastore 1]), (554, [o0 (.aload_n 0) 1, oM (.invokevirtual 266) 3 13 1 0 1, oV (.iconst 1) 1 1, oA .ireturn 1 1])], [(65, [0]), (151, [0, 1, 2, 3]), (191, [0, 1]), (248, [0, 1, 2, 3]), (272, [0, 1]), (290, [0, 1]), (363, [0, 1, 2, 3]), (385, [0, 1, 2]), (427, [0, 1]), (487, [0, 1, 2]), (537, [0, 2])], 5)
theorem mk_41 : mj_ckM mj_TY mp_0 prog_14_method_30_code 5 (some .boolean) mt_41 = true := by decide +kernel
-- UnbeatenHouseModel.joins(I)V
def mt_42 : mj_C := ([(0, [o0 (.aload_n 0) 1, oF (.getfield 146) 3 0 44 0, o0 (.aload_n 0) 1, oF (.getfield 134) 3 0 40 2, o0 (.aload_n 0) 1, oF (.getfield 137) 3 0 41 0, oV (.iconst 1) 1 1, o0 .isub 1, o0 .iaload 1, oA (.if_icmp .le 48) 3 63]), (18, [o0 (.aload_n 0) 1, oF (.getfield 143) 3 0 43 2, o0 (.aload_n 0) 1, oF (.getfield 146) 3 0 44 0, oV (.iconst 1) 1 1, o0 .isub 1, o0 .iaload 1, oM (.invokestatic 320) 3 43 1 1 0, o0 (.iload_n 1) 1, oA (.if_icmp .lt 30) 3 63]), (36, [o0 (.aload_n 0) 1, o0 .dup 1, oF (.getfield 146) 3 0 44 0, oV (.iconst 1) 1 1, o0 .isub 1, oF (.putfield 146) 3 0 44 0, o0 (.aload_n 0) 1, o0 (.aload_n 0) 1, oF (.getfield 143) 3 0 43 2, o0 (.aload_n 0) 1, oF (.getfield 146) 3 0 44 0, o0 .iaload 1, oV (.iconst 0) 1 0, oM (.invokevirtual 324) 3 39 3 0 1, oA (.goto (-60)) 3 0]), (63, [o0 .return_ 1])], [(0, [0, 1])], 2)
theorem mk_42 : mj_ckM mj_TY mp_0 prog_14_method_23_code 2 none mt_42 = true := by decide +kernel
-- UnbeatenHouseModel.rank(I)I
def mt_43 : mj_C := ([(0, [o0 (.iload_n 0) 1, oV (.bipush 15) 2 15, oA (.if_icmp .ne 7) 3 10]), (6, [oV (.iconst 1) 1 1, oA (.goto 62) 3 69]), (10, [o0 (.iload_n 0) 1, oV (.bipush 14) 2 14, oA (.if_icmp .ne 7) 3 20]), (16, [oV (.iconst 2) 1 2, oA (.goto 52) 3 69]), (20, [o0 (.iload_n 0) 1, oV (.bipush 16) 2 16, oA (.if_icmp .ne 7) 3 30]), (26, [oV (.iconst 3) 1 3, oA (.goto 42) 3 69]), (30, [o0 (.iload_n 0) 1, oV (.bipush 11) 2 11, oA (.if_icmp .eq 15) 3 48]), (36, [o0 (.iload_n 0) 1, oV (.bipush 12) 2 12, oA (.if_icmp .eq 9) 3 48]), (42, [o0 (.iload_n 0) 1, oV (.bipush 13) 2 13, oA (.if_icmp .ne 7) 3 52]), (48, [oV (.iconst 4) 1 4, oA (.goto 20) 3 69]), (52, [o0 (.iload_n 0) 1, oV (.iconst 5) 1 5, oA (.if_icmp .eq 9) 3 63]), (57, [o0 (.iload_n 0) 1, oV (.bipush 6) 2 6, oA (.if_icmp .ne 7) 3 67]), (63, [oV (.iconst 5) 1 5, oA (.goto 5) 3 69]), (67, [oV (.bipush 6) 2 6]), (69, [oA .ireturn 1 0])], [], 1)
theorem mk_43 : mj_ckM mj_TY mp_0 prog_14_method_22_code 1 (some .int) mt_43 = true := by decide +kernel
-- UnbeatenHouseModel.must(I)V
def mt_44 : mj_C := ([(0, [o0 (.aload_n 0) 1, o0 (.iload_n 1) 1, oM (.invokevirtual 263) 3 28 2 1 1, oA (.ifCond .ne 12) 3 17]), (8, [o0 (.aload_n 0) 1, oV (.iconst 1) 1 1, o0 (.aload_n 0) 1, oF (.getfield 23) 3 0 4 0, oM (.invokevirtual 259) 3 16 3 0 1]), (17, [o0 (.aload_n 0) 1, oF (.getfield 36) 3 0 8 0, oA (.ifCond .ne 7) 3 28]), (24, [o0 (.aload_n 0) 1, oM (.invokevirtual 266) 3 13 1 0 1]), (28, [o0 .return_ 1])], [], 2)
theorem mk_44 : mj_ckM mj_TY mp_0 prog_14_method_12_code 2 none mt_44 = true := by decide +kernel
-- UnbeatenHouseModel.fault(I)I
def mt_45 : mj_C := ([(0, [o0 (.iload_n 1) 1, oA (.ifCond .ne 10) 3 11]), (4, [o0 (.aload_n 0) 1, oF (.getfield 42) 3 0 10 0, oA (.goto 16) 3 24]), (11, [o0 (.iload_n 1) 1, oV (.iconst 1) 1 1, oA (.if_icmp .ne 10) 3 23]), (16, [o0 (.aload_n 0) 1, oF (.getfield 45) 3 0 11 0, oA (.goto 4) 3 24]), (23, [oV (.iconst (-1)) 1 (-1)]), (24, [oA .ireturn 1 0])], [], 2)
theorem mk_45 : mj_ckM mj_TY mp_0 prog_14_method_39_code 2 (some .int) mt_45 = true := by decide +kernel
-- UnbeatenHouseModel.has(I)I
def mt_46 : mj_C := ([(0, [o0 (.iload_n 1) 1, oT (.tableswitch 117 0 7 #[47, 57, 67, 77, 87, 97, 107, 112]) 47 118 [(0, 48), (1, 58), (2, 68), (3, 78), (4, 88), (5, 98), (6, 108), (7, 113)]]), (48, [o0 (.aload_n 0) 1, oF (.getfield 51) 3 0 13 2, o0 (.aload_n 0) 1, oF (.getfield 48) 3 0 12 0, o0 .iaload 1, oA .ireturn 1 0]), (58, [o0 (.aload_n 0) 1, oF (.getfield 54) 3 0 14 2, o0 (.aload_n 0) 1, oF (.getfield 48) 3 0 12 0, o0 .iaload 1, oA .ireturn 1 0]), (68, [o0 (.aload_n 0) 1, oF (.getfield 57) 3 0 15 2, o0 (.aload_n 0) 1, oF (.getfield 48) 3 0 12 0, o0 .iaload 1, oA .ireturn 1 0]), (78, [o0 (.aload_n 0) 1, oF (.getfield 60) 3 0 16 2, o0 (.aload_n 0) 1, oF (.getfield 48) 3 0 12 0, o0 .iaload 1, oA .ireturn 1 0]), (88, [o0 (.aload_n 0) 1, oF (.getfield 63) 3 0 17 2, o0 (.aload_n 0) 1, oF (.getfield 48) 3 0 12 0, o0 .iaload 1, oA .ireturn 1 0]), (98, [o0 (.aload_n 0) 1, oF (.getfield 66) 3 0 18 2, o0 (.aload_n 0) 1, oF (.getfield 48) 3 0 12 0, o0 .iaload 1, oA .ireturn 1 0]), (108, [o0 (.aload_n 0) 1, oF (.getfield 221) 3 0 68 0, oA .ireturn 1 0]), (113, [o0 (.aload_n 0) 1, oF (.getfield 206) 3 0 63 0, oA .ireturn 1 0]), (118, [oV (.iconst (-1)) 1 (-1), oA .ireturn 1 0])], [], 2)
theorem mk_46 : mj_ckM mj_TY mp_0 prog_14_method_40_code 2 (some .int) mt_46 = true := by decide +kernel
-- UnbeatenHouseModel.letter(III)I
def mt_47 : mj_C := ([(0, [o0 (.iload_n 1) 1, oA (.ifCond .ne 29) 3 30]), (4, [o0 (.aload_n 0) 1, o0 (.iload_n 2) 1, oM (.invokevirtual 393) 3 48 2 1 1, oA (.ifCond .eq 21) 3 30]), (12, [o0 (.aload_n 0) 1, oF (.getfield 69) 3 0 19 2, oV (.iconst 4) 1 4, o0 (.aload_n 0) 1, oF (.getfield 48) 3 0 12 0, o0 .imul 1, o0 (.iload_n 2) 1, o0 .iadd 1, o0 .laload 1, o0 (.iload_n 3) 1, oM (.invokestatic 396) 3 50 2 1 0, oA .ireturn 1 0]), (30, [o0 (.iload_n 1) 1, oV (.iconst 1) 1 1, oA (.if_icmp .ne 30) 3 62]), (35, [o0 (.aload_n 0) 1, o0 (.iload_n 2) 1, oM (.invokevirtual 400) 3 51 2 1 1, oA (.ifCond .eq 22) 3 62]), (43, [o0 (.aload_n 0) 1, oF (.getfield 77) 3 0 21 2, oV (.bipush 40) 2 40, o0 (.aload_n 0) 1, oF (.getfield 48) 3 0 12 0, o0 .imul 1, o0 (.iload_n 2) 1, o0 .iadd 1, o0 .laload 1, o0 (.iload_n 3) 1, oM (.invokestatic 396) 3 50 2 1 0, oA .ireturn 1 0]), (62, [o0 (.iload_n 1) 1, oV (.iconst 2) 1 2, oA (.if_icmp .ne 41) 3 105]), (67, [o0 (.iload_n 2) 1, oV (.iconst 0) 1 0, o0 (.aload_n 0) 1, oF (.getfield 57) 3 0 15 2, o0 (.aload_n 0) 1, oF (.getfield 48) 3 0 12 0, o0 .iaload 1, oV (.iconst 1) 1 1, o0 .isub 1, oM (.invokestatic 403) 3 49 3 1 0, oA (.ifCond .eq 22) 3 105]), (86, [o0 (.aload_n 0) 1, oF (.getfield 86) 3 0 24 2, oV (.bipush 10) 2 10, o0 (.aload_n 0) 1, oF (.getfield 48) 3 0 12 0, o0 .imul 1, o0 (.iload_n 2) 1, o0 .iadd 1, o0 .laload 1, o0 (.iload_n 3) 1, oM (.invokestatic 396) 3 50 2 1 0, oA .ireturn 1 0]), (105, [o0 (.iload_n 1) 1, oV (.iconst 3) 1 3, oA (.if_icmp .ne 41) 3 148]), (110, [o0 (.iload_n 2) 1, oV (.iconst 0) 1 0, o0 (.aload_n 0) 1, oF (.getfield 63) 3 0 17 2, o0 (.aload_n 0) 1, oF (.getfield 48) 3 0 12 0, o0 .iaload 1, oV (.iconst 1) 1 1, o0 .isub 1, oM (.invokestatic 403) 3 49 3 1 0, oA (.ifCond .eq 22) 3 148]), (129, [o0 (.aload_n 0) 1, oF (.getfield 98) 3 0 28 2, oV (.bipush 12) 2 12, o0 (.aload_n 0) 1, oF (.getfield 48) 3 0 12 0, o0 .imul 1, o0 (.iload_n 2) 1, o0 .iadd 1, o0 .laload 1, o0 (.iload_n 3) 1, oM (.invokestatic 396) 3 50 2 1 0, oA .ireturn 1 0]), (148, [oV (.iconst (-1)) 1 (-1), oA .ireturn 1 0])], [(30, [0, 1, 2, 3]), (62, [0, 1, 2, 3]), (105, [0, 1, 2, 3])], 4)
theorem mk_47 : mj_ckM mj_TY mp_0 prog_14_method_42_code 4 (some .int) mt_47 = true := by decide +kernel
-- UnbeatenHouseModel.isWish(I)Z
def mt_48 : mj_C := ([(0, [o0 (.iload_n 1) 1, oV (.iconst 0) 1 0, o0 (.aload_n 0) 1, oF (.getfield 51) 3 0 13 2, o0 (.aload_n 0) 1, oF (.getfield 48) 3 0 12 0, o0 .iaload 1, oV (.iconst 1) 1 1, o0 .isub 1, oM (.invokestatic 403) 3 49 3 1 0, oA .ireturn 1 1])], [], 2)
theorem mk_48 : mj_ckM mj_TY mp_0 prog_14_method_43_code 2 (some .boolean) mt_48 = true := by decide +kernel
-- UnbeatenHouseModel.is(III)Z
def mt_49 : mj_C := ([(0, [o0 (.iload_n 0) 1, o0 (.iload_n 1) 1, oA (.if_icmp .lt 12) 3 14]), (5, [o0 (.iload_n 0) 1, o0 (.iload_n 2) 1, oA (.if_icmp .gt 7) 3 14]), (10, [oV (.iconst 1) 1 1, oA (.goto 4) 3 15]), (14, [oV (.iconst 0) 1 0]), (15, [oA .ireturn 1 1])], [], 3)
theorem mk_49 : mj_ckM mj_TY mp_0 prog_14_method_2_code 3 (some .boolean) mt_49 = true := by decide +kernel
-- UnbeatenHouseModel.letterOf(JI)I
def mt_50 : mj_C := ([(0, [oV (.iconst 0) 1 0, o0 (.istore_n 3) 1, o0 (.lload_n 0) 1, o0 (.lstore 4) 2]), (5, [o0 (.lload 4) 2, oW (.lconst 0) 1 0, o0 .lcmp 1, oA (.ifCond .eq 16) 3 25]), (12, [oV (.iinc 3 1) 3 1, o0 (.lload 4) 2, oV (.bipush 8) 2 8, o0 .lushr 1, o0 (.lstore 4) 2, oA (.goto (-17)) 3 5]), (25, [o0 (.iload_n 2) 1, oA (.ifCond .lt 8) 3 34]), (29, [o0 (.iload_n 2) 1, o0 (.iload_n 3) 1, oA (.if_icmp .lt 7) 3 38]), (34, [oV (.iconst (-1)) 1 (-1), oA (.goto 18) 3 53]), (38, [o0 (.lload_n 0) 1, oV (.bipush 8) 2 8, o0 (.iload_n 3) 1, oV (.iconst 1) 1 1, o0 .isub 1, o0 (.iload_n 2) 1, o0 .isub 1, o0 .imul 1, o0 .lushr 1, oW (.ldc2_w 391) 3 255, o0 .land 1, o0 .l2i 1]), (53, [oA .ireturn 1 0])], [(5, [0, 2, 3, 4])], 6)
theorem mk_50 : mj_ckM mj_TY mp_0 prog_14_method_41_code 6 (some .int) mt_50 = true := by decide +kernel
-- UnbeatenHouseModel.isRow(I)Z
def mt_51 : mj_C := ([(0, [o0 (.iload_n 1) 1, oV (.iconst 0) 1 0, o0 (.aload_n 0) 1, oF (.getfield 54) 3 0 14 2, o0 (.aload_n 0) 1, oF (.getfield 48) 3 0 12 0, o0 .iaload 1, oV (.iconst 1) 1 1, o0 .isub 1, oM (.invokestatic 403) 3 49 3 1 0, oA .ireturn 1 1])], [], 2)
theorem mk_51 : mj_ckM mj_TY mp_0 prog_14_method_44_code 2 (some .boolean) mt_51 = true := by decide +kernel
-- UnbeatenHouseModel.price(IIZ)I
def mt_52 : mj_C := ([(0, [o0 (.aload_n 0) 1, o0 (.iload_n 1) 1, oM (.invokevirtual 400) 3 51 2 1 1, oA (.ifCond .eq 26) 3 31]), (8, [o0 (.aload_n 0) 1, o0 (.iload_n 2) 1, oM (.invokevirtual 393) 3 48 2 1 1, oA (.ifCond .eq 18) 3 31]), (16, [o0 (.aload_n 0) 1, oF (.getfield 80) 3 0 22 2, o0 (.aload_n 0) 1, o0 (.iload_n 1) 1, o0 (.iload_n 2) 1, oM (.invokevirtual 407) 3 53 3 1 1, o0 .iaload 1, oV (.iconst (-1)) 1 (-1), oA (.if_icmp .ne 5) 3 33]), (31, [oV (.iconst (-1)) 1 (-1), oA .ireturn 1 0]), (33, [o0 (.iload_n 3) 1, oA (.ifCond .eq 17) 3 51]), (37, [o0 (.aload_n 0) 1, oF (.getfield 83) 3 0 23 2, o0 (.aload_n 0) 1, o0 (.iload_n 1) 1, o0 (.iload_n 2) 1, oM (.invokevirtual 407) 3 53 3 1 1, o0 .iaload 1, oA (.goto 14) 3 62]), (51, [o0 (.aload_n 0) 1, oF (.getfield 80) 3 0 22 2, o0 (.aload_n 0) 1, o0 (.iload_n 1) 1, o0 (.iload_n 2) 1, oM (.invokevirtual 407) 3 53 3 1 1, o0 .iaload 1]), (62, [oA .ireturn 1 0])], [], 4)
theorem mk_52 : mj_ckM mj_TY mp_0 prog_14_method_49_code 4 (some .int) mt_52 = true := by decide +kernel
-- UnbeatenHouseModel.rowAt(II)I
def mt_53 : mj_C := ([(0, [oV (.iconst 4) 1 4, oV (.bipush 40) 2 40, o0 (.aload_n 0) 1, oF (.getfield 48) 3 0 12 0, o0 .imul 1, o0 (.iload_n 1) 1, o0 .iadd 1, o0 .imul 1, o0 (.iload_n 2) 1, o0 .iadd 1, oA .ireturn 1 0])], [], 3)
theorem mk_53 : mj_ckM mj_TY mp_0 prog_14_method_45_code 3 (some .int) mt_53 = true := by decide +kernel
-- UnbeatenHouseModel.beats(II)I
def mt_54 : mj_C := ([(0, [o0 (.aload_n 0) 1, o0 (.iload_n 1) 1, oM (.invokevirtual 400) 3 51 2 1 1, oA (.ifCond .eq 11) 3 16]), (8, [o0 (.aload_n 0) 1, o0 (.iload_n 2) 1, oM (.invokevirtual 400) 3 51 2 1 1, oA (.ifCond .ne 7) 3 20]), (16, [oV (.iconst (-1)) 1 (-1), oA (.goto 17) 3 34]), (20, [o0 (.aload_n 0) 1, o0 (.iload_n 1) 1, o0 (.iload_n 2) 1, oM (.invokevirtual 420) 3 55 3 1 1, oA (.ifCond .eq 7) 3 33]), (29, [oV (.iconst 1) 1 1, oA (.goto 4) 3 34]), (33, [oV (.iconst 0) 1 0]), (34, [oA .ireturn 1 0])], [], 3)
theorem mk_54 : mj_ckM mj_TY mp_0 prog_14_method_51_code 3 (some .int) mt_54 = true := by decide +kernel
-- UnbeatenHouseModel.doesBeat(II)Z
def mt_55 : mj_C := ([(0, [o0 (.aload_n 0) 1, o0 (.iload_n 1) 1, oM (.invokevirtual 414) 3 56 2 1 1, oA (.ifCond .ne 11) 3 16]), (8, [o0 (.aload_n 0) 1, o0 (.iload_n 2) 1, oM (.invokevirtual 414) 3 56 2 1 1, oA (.ifCond .eq 5) 3 18]), (16, [oV (.iconst 0) 1 0, oA .ireturn 1 1]), (18, [oV (.iconst 0) 1 0, o0 (.istore_n 3) 1, oV (.iconst 0) 1 0, o0 (.istore 4) 2]), (23, [o0 (.iload 4) 2, o0 (.aload_n 0) 1, oF (.getfield 51) 3 0 13 2, o0 (.aload_n 0) 1, oF (.getfield 48) 3 0 12 0, o0 .iaload 1, oA (.if_icmp .ge 55) 3 89]), (37, [o0 (.aload_n 0) 1, o0 (.iload_n 1) 1, o0 (.iload 4) 2, oM (.invokevirtual 417) 3 57 3 1 1, o0 (.aload_n 0) 1, o0 (.iload_n 2) 1, o0 (.iload 4) 2, oM (.invokevirtual 417) 3 57 3 1 1, oA (.if_icmp .le 5) 3 56]), (54, [oV (.iconst 0) 1 0, oA .ireturn 1 1]), (56, [o0 (.iload_n 3) 1, oA (.ifCond .ne 20) 3 77]), (60, [o0 (.aload_n 0) 1, o0 (.iload_n 1) 1, o0 (.iload 4) 2, oM (.invokevirtual 417) 3 57 3 1 1, o0 (.aload_n 0) 1, o0 (.iload_n 2) 1, o0 (.iload 4) 2, oM (.invokevirtual 417) 3 57 3 1 1, oA (.if_icmp .ge 7) 3 81]), (77, [oV (.iconst 1) 1 1, oA (.goto 4) 3 82]), (81, [oV (.iconst 0) 1 0]), (82, [o0 (.istore_n 3) 1, oV (.iinc 4 1) 3 1, oA (.goto (-63)) 3 23]), (89, [o0 (.iload_n 3) 1, oA .ireturn 1 1])], [(23, [0, 1, 2, 3, 4])], 5)
theorem mk_55 : mj_ckM mj_TY mp_0 prog_14_method_50_code 5 (some .boolean) mt_55 = true := by decide +kernel
-- UnbeatenHouseModel.isAside(I)Z
def mt_56 : mj_C := ([(0, [oV (.iconst 0) 1 0, o0 (.istore_n 2) 1]), (2, [o0 (.iload_n 2) 1, o0 (.aload_n 0) 1, oF (.getfield 51) 3 0 13 2, o0 (.aload_n 0) 1, oF (.getfield 48) 3 0 12 0, o0 .iaload 1, oA (.if_icmp .ge 26) 3 38]), (15, [o0 (.aload_n 0) 1, oF (.getfield 80) 3 0 22 2, o0 (.aload_n 0) 1, o0 (.iload_n 1) 1, o0 (.iload_n 2) 1, oM (.invokevirtual 407) 3 53 3 1 1, o0 .iaload 1, oV (.iconst (-1)) 1 (-1), oA (.if_icmp .ne 5) 3 32]), (30, [oV (.iconst 1) 1 1, oA .ireturn 1 1]), (32, [oV (.iinc 2 1) 3 1, oA (.goto (-33)) 3 2]), (38, [oV (.iconst 0) 1 0, oA .ireturn 1 1])], [(2, [0, 1, 2])], 3)
theorem mk_56 : mj_ckM mj_TY mp_0 prog_14_method_48_code 3 (some .boolean) mt_56 = true := by decide +kernel
-- UnbeatenHouseModel.rowLoss(II)I
def mt_57 : mj_C := ([(0, [o0 (.aload_n 0) 1, o0 (.iload_n 2) 1, o0 (.aload_n 0) 1, oF (.getfield 80) 3 0 22 2, o0 (.aload_n 0) 1, o0 (.iload_n 1) 1, o0 (.iload_n 2) 1, oM (.invokevirtual 407) 3 53 3 1 1, o0 .iaload 1, oM (.invokevirtual 411) 3 58 3 1 1, oA .ireturn 1 0])], [], 3)
theorem mk_57 : mj_ckM mj_TY mp_0 prog_14_method_47_code 3 (some .int) mt_57 = true := by decide +kernel
-- UnbeatenHouseModel.lossOf(II)I
def mt_58 : mj_C := ([(0, [o0 (.aload_n 0) 1, oF (.getfield 73) 3 0 20 2, oV (.iconst 4) 1 4, o0 (.aload_n 0) 1, oF (.getfield 48) 3 0 12 0, o0 .imul 1, o0 (.iload_n 1) 1, o0 .iadd 1, o0 .baload 1, oA (.ifCond .eq 8) 3 21]), (16, [o0 (.iload_n 2) 1, o0 .ineg 1, oA (.goto 4) 3 22]), (21, [o0 (.iload_n 2) 1]), (22, [oA .ireturn 1 0])], [], 3)
theorem mk_58 : mj_ckM mj_TY mp_0 prog_14_method_46_code 3 (some .int) mt_58 = true := by decide +kernel
-- UnbeatenHouseModel.rows()J
def mt_59 : mj_C := ([(0, [o0 (.aload_n 0) 1, oM (.invokevirtual 424) 3 60 1 2 1, o0 .lreturn 1])], [], 1)
theorem mk_59 : mj_ckM mj_TY mp_0 prog_14_method_53_code 1 (some .long) mt_59 = true := by decide +kernel
-- UnbeatenHouseModel.rowFront()J
def mt_60 : mj_C := ([(0, [oW (.lconst 0) 1 0, o0 (.lstore_n 1) 1, oV (.iconst 0) 1 0, o0 (.istore_n 3) 1]), (4, [o0 (.iload_n 3) 1, o0 (.aload_n 0) 1, oF (.getfield 54) 3 0 14 2, o0 (.aload_n 0) 1, oF (.getfield 48) 3 0 12 0, o0 .iaload 1, oA (.if_icmp .ge 84) 3 98]), (17, [o0 (.aload_n 0) 1, o0 (.iload_n 3) 1, oM (.invokevirtual 414) 3 56 2 1 1, oA (.ifCond .ne 7) 3 29]), (25, [oV (.iconst 1) 1 1, oA (.goto 4) 3 30]), (29, [oV (.iconst 0) 1 0]), (30, [o0 (.istore 4) 2, oV (.iconst 0) 1 0, o0 (.istore 5) 2]), (35, [o0 (.iload 5) 2, o0 (.aload_n 0) 1, oF (.getfield 54) 3 0 14 2, o0 (.aload_n 0) 1, oF (.getfield 48) 3 0 12 0, o0 .iaload 1, oA (.if_icmp .ge 31) 3 77]), (49, [o0 (.iload 4) 2, oA (.ifCond .eq 26) 3 77]), (54, [o0 (.aload_n 0) 1, o0 (.iload 5) 2, o0 (.iload_n 3) 1, oM (.invokevirtual 420) 3 55 3 1 1, oA (.ifCond .ne 7) 3 68]), (64, [oV (.iconst 1) 1 1, oA (.goto 4) 3 69]), (68, [oV (.iconst 0) 1 0]), (69, [o0 (.istore 4) 2, oV (.iinc 5 1) 3 1, oA (.goto (-39)) 3 35]), (77, [o0 (.lload_n 1) 1, o0 (.iload 4) 2, oA (.ifCond .eq 9) 3 89]), (83, [oW (.lconst 1) 1 1, o0 (.iload_n 3) 1, o0 .lshl 1, oA (.goto 4) 3 90]), (89, [oW (.lconst 0) 1 0]), (90, [o0 .lor 1, o0 (.lstore_n 1) 1, oV (.iinc 3 1) 3 1, oA (.goto (-91)) 3 4]), (98, [o0 (.lload_n 1) 1, o0 .lreturn 1])], [(4, [0, 1, 3]), (35, [0, 1, 3, 4, 5]), (77, [0, 1, 3, 4])], 6)
theorem mk_60 : mj_ckM mj_TY mp_0 prog_14_method_52_code 6 (some .long) mt_60 = true := by decide +kernel
-- UnbeatenHouseModel.leads(I)I
def mt_61 : mj_C := ([(0, [o0 (.aload_n 0) 1, o0 (.iload_n 1) 1, oM (.invokevirtual 400) 3 51 2 1 1, oA (.ifCond .ne 5) 3 10]), (8, [oV (.iconst (-1)) 1 (-1), oA .ireturn 1 0]), (10, [o0 (.aload_n 0) 1, oM (.invokevirtual 424) 3 60 1 2 1, o0 (.lstore_n 2) 1, oV (.iconst 0) 1 0, o0 (.istore 4) 2]), (18, [o0 (.iload 4) 2, o0 (.aload_n 0) 1, oF (.getfield 54) 3 0 14 2, o0 (.aload_n 0) 1, oF (.getfield 48) 3 0 12 0, o0 .iaload 1, oA (.if_icmp .ge 33) 3 62]), (32, [o0 (.lload_n 2) 1, o0 (.iload 4) 2, o0 .lshr 1, oW (.lconst 1) 1 1, o0 .land 1, oW (.lconst 1) 1 1, o0 .lcmp 1, oA (.ifCond .ne 16) 3 56]), (43, [o0 (.aload_n 0) 1, o0 (.iload 4) 2, o0 (.iload_n 1) 1, oM (.invokevirtual 420) 3 55 3 1 1, oA (.ifCond .eq 6) 3 56]), (53, [o0 (.iload 4) 2, oA .ireturn 1 0]), (56, [oV (.iinc 4 1) 3 1, oA (.goto (-41)) 3 18]), (62, [oV (.iconst (-1)) 1 (-1), oA .ireturn 1 0])], [(18, [0, 1, 2, 4])], 5)
theorem mk_61 : mj_ckM mj_TY mp_0 prog_14_method_54_code 5 (some .int) mt_61 = true := by decide +kernel
-- UnbeatenHouseModel.change(III)I
def mt_62 : mj_C := ([(0, [o0 (.aload_n 0) 1, o0 (.iload_n 1) 1, oM (.invokevirtual 400) 3 51 2 1 1, oA (.ifCond .eq 22) 3 27]), (8, [o0 (.aload_n 0) 1, o0 (.iload_n 2) 1, oM (.invokevirtual 393) 3 48 2 1 1, oA (.ifCond .eq 14) 3 27]), (16, [o0 (.iload_n 3) 1, oV (.iconst (-1)) 1 (-1), oV (.sipush 9999) 3 9999, oM (.invokestatic 403) 3 49 3 1 0, oA (.ifCond .ne 5) 3 29]), (27, [oV (.iconst (-1)) 1 (-1), oA .ireturn 1 0]), (29, [o0 (.aload_n 0) 1, oM (.invokevirtual 424) 3 60 1 2 1, o0 (.lstore 4) 2, o0 (.aload_n 0) 1, o0 (.iload_n 1) 1, o0 (.iload_n 2) 1, oM (.invokevirtual 407) 3 53 3 1 1, o0 (.istore 6) 2, o0 (.iload_n 3) 1, oV (.iconst (-1)) 1 (-1), oA (.if_icmp .ne 11) 3 56]), (48, [o0 (.aload_n 0) 1, oF (.getfield 83) 3 0 23 2, o0 (.iload 6) 2, oV (.iconst 0) 1 0, o0 .iastore 1]), (56, [o0 (.aload_n 0) 1, oF (.getfield 80) 3 0 22 2, o0 (.iload 6) 2, o0 (.iload_n 3) 1, o0 .iastore 1, o0 (.aload_n 0) 1, oM (.invokevirtual 424) 3 60 1 2 1, o0 (.lstore 7) 2, o0 (.aload_n 0) 1, o0 (.lload 4) 2, o0 (.lload 7) 2, oW (.ldc2_w 427) 3 (-1), o0 .lxor 1, o0 .land 1, oF (.putfield 153) 3 0 46 1, o0 (.aload_n 0) 1, o0 (.lload 7) 2, o0 (.lload 4) 2, oW (.ldc2_w 427) 3 (-1), o0 .lxor 1, o0 .land 1, oF (.putfield 156) 3 0 47 1, o0 (.aload_n 0) 1, oF (.getfield 153) 3 0 46 1, oM (.invokestatic 429) 3 63 1 1 0, o0 (.aload_n 0) 1, oF (.getfield 156) 3 0 47 1, oM (.invokestatic 429) 3 63 1 1 0, o0 .iadd 1, oA .ireturn 1 0])], [(56, [0, 3, 4, 6])], 9)
theorem mk_62 : mj_ckM mj_TY mp_0 prog_14_method_56_code 9 (some .int) mt_62 = true := by decide +kernel
-- UnbeatenHouseModel.bitsOf(J)I
def mt_63 : mj_C := ([(0, [oV (.iconst 0) 1 0, o0 (.istore_n 2) 1, o0 (.lload_n 0) 1, o0 (.lstore_n 3) 1]), (4, [o0 (.lload_n 3) 1, oW (.lconst 0) 1 0, o0 .lcmp 1, oA (.ifCond .eq 17) 3 24]), (10, [o0 (.iload_n 2) 1, o0 (.lload_n 3) 1, oW (.lconst 1) 1 1, o0 .land 1, o0 .l2i 1, o0 .iadd 1, o0 (.istore_n 2) 1, o0 (.lload_n 3) 1, oV (.iconst 1) 1 1, o0 .lushr 1, o0 (.lstore_n 3) 1, oA (.goto (-17)) 3 4]), (24, [o0 (.iload_n 2) 1, oA .ireturn 1 0])], [(4, [2, 3])], 5)
theorem mk_63 : mj_ckM mj_TY mp_0 prog_14_method_55_code 5 (some .int) mt_63 = true := by decide +kernel
-- UnbeatenHouseModel.changed(Z)J
def mt_64 : mj_C := ([(0, [o0 (.iload_n 1) 1, oA (.ifCond .eq 10) 3 11]), (4, [o0 (.aload_n 0) 1, oF (.getfield 156) 3 0 47 1, oA (.goto 7) 3 15]), (11, [o0 (.aload_n 0) 1, oF (.getfield 153) 3 0 46 1]), (15, [o0 .lreturn 1])], [], 2)
theorem mk_64 : mj_ckM mj_TY mp_0 prog_14_method_57_code 2 (some .long) mt_64 = true := by decide +kernel
-- UnbeatenHouseModel.maybe(II)I
def mt_65 : mj_C := ([(0, [o0 (.aload_n 0) 1, o0 (.iload_n 1) 1, oM (.invokevirtual 400) 3 51 2 1 1, oA (.ifCond .eq 32) 3 37]), (8, [o0 (.aload_n 0) 1, o0 (.iload_n 2) 1, oM (.invokevirtual 400) 3 51 2 1 1, oA (.ifCond .eq 24) 3 37]), (16, [o0 (.iload_n 1) 1, o0 (.iload_n 2) 1, oA (.if_icmp .eq 19) 3 37]), (21, [o0 (.aload_n 0) 1, o0 (.iload_n 1) 1, oM (.invokevirtual 414) 3 56 2 1 1, oA (.ifCond .ne 11) 3 37]), (29, [o0 (.aload_n 0) 1, o0 (.iload_n 2) 1, oM (.invokevirtual 414) 3 56 2 1 1, oA (.ifCond .eq 7) 3 41]), (37, [oV (.iconst (-1)) 1 (-1), oA (.goto 9) 3 47]), (41, [o0 (.aload_n 0) 1, o0 (.iload_n 1) 1, o0 (.iload_n 2) 1, oM (.invokevirtual 439) 3 66 3 1 1]), (47, [oA .ireturn 1 0])], [], 3)
theorem mk_65 : mj_ckM mj_TY mp_0 prog_14_method_61_code 3 (some .int) mt_65 = true := by decide +kernel
end
section
/-! code tables, by program -/
-- UnbeatenHouseModel.mayBeat(II)I
def mt_66 : mj_C := ([(0, [oV (.iconst 1) 1 1, o0 (.istore_n 3) 1, oV (.iconst 0) 1 0, o0 (.istore 4) 2, oV (.iconst 1) 1 1, o0 (.istore 5) 2, oV (.iconst 0) 1 0, o0 (.istore 6) 2, oV (.iconst 0) 1 0, o0 (.istore 7) 2]), (14, [o0 (.iload 7) 2, o0 (.aload_n 0) 1, oF (.getfield 51) 3 0 13 2, o0 (.aload_n 0) 1, oF (.getfield 48) 3 0 12 0, o0 .iaload 1, oA (.if_icmp .ge 123) 3 148]), (28, [o0 (.iload_n 3) 1, oA (.ifCond .eq 24) 3 53]), (32, [o0 (.aload_n 0) 1, o0 (.iload_n 1) 1, o0 (.iload 7) 2, oM (.invokevirtual 433) 3 67 3 1 1, o0 (.aload_n 0) 1, o0 (.iload_n 2) 1, o0 (.iload 7) 2, oM (.invokevirtual 436) 3 68 3 1 1, oA (.if_icmp .gt 7) 3 53]), (49, [oV (.iconst 1) 1 1, oA (.goto 4) 3 54]), (53, [oV (.iconst 0) 1 0]), (54, [o0 (.istore_n 3) 1, o0 (.iload 4) 2, oA (.ifCond .ne 20) 3 77]), (60, [o0 (.aload_n 0) 1, o0 (.iload_n 1) 1, o0 (.iload 7) 2, oM (.invokevirtual 433) 3 67 3 1 1, o0 (.aload_n 0) 1, o0 (.iload_n 2) 1, o0 (.iload 7) 2, oM (.invokevirtual 436) 3 68 3 1 1, oA (.if_icmp .ge 7) 3 81]), (77, [oV (.iconst 1) 1 1, oA (.goto 4) 3 82]), (81, [oV (.iconst 0) 1 0]), (82, [o0 (.istore 4) 2, o0 (.iload 5) 2, oA (.ifCond .eq 24) 3 110]), (89, [o0 (.aload_n 0) 1, o0 (.iload_n 1) 1, o0 (.iload 7) 2, oM (.invokevirtual 436) 3 68 3 1 1, o0 (.aload_n 0) 1, o0 (.iload_n 2) 1, o0 (.iload 7) 2, oM (.invokevirtual 433) 3 67 3 1 1, oA (.if_icmp .gt 7) 3 110]), (106, [oV (.iconst 1) 1 1, oA (.goto 4) 3 111]), (110, [oV (.iconst 0) 1 0]), (111, [o0 (.istore 5) 2, o0 (.iload 6) 2, oA (.ifCond .ne 20) 3 135]), (118, [o0 (.aload_n 0) 1, o0 (.iload_n 1) 1, o0 (.iload 7) 2, oM (.invokevirtual 436) 3 68 3 1 1, o0 (.aload_n 0) 1, o0 (.iload_n 2) 1, o0 (.iload 7) 2, oM (.invokevirtual 433) 3 67 3 1 1, oA (.if_icmp .ge 7) 3 139]), (135, [oV (.iconst 1) 1 1, oA (.goto 4) 3 140]), (139, [oV (.iconst 0) 1 0]), (140, [o0 (.istore 6) 2, oV (.iinc 7 1) 3 1, oA (.goto (-131)) 3 14]), (148, [o0 (.iload_n 3) 1, oA (.ifCond .eq 12) 3 161]), (152, [o0 (.iload 4) 2, oA (.ifCond .eq 7) 3 161]), (157, [oV (.iconst 2) 1 2, oA (.goto 18) 3 176]), (161, [o0 (.iload 5) 2, oA (.ifCond .eq 12) 3 175]), (166, [o0 (.iload 6) 2, oA (.ifCond .eq 7) 3 175]), (171, [oV (.iconst 1) 1 1, oA (.goto 4) 3 176]), (175, [oV (.iconst 0) 1 0]), (176, [oA .ireturn 1 0])], [(14, [0, 1, 2, 3, 4, 5, 6, 7]), (53, [0, 1, 2, 4, 5, 6, 7]), (77, [0, 1, 2, 3, 5, 6, 7]), (110, [0, 1, 2, 3, 4, 6, 7]), (161, [5, 6])], 8)
theorem mk_66 : mj_ckM mj_TY mp_0 prog_14_method_60_code 8 (some .int) mt_66 = true := by decide +kernel
-- UnbeatenHouseModel.mostLoss(II)I
def mt_67 : mj_C := ([(0, [o0 (.aload_n 0) 1, o0 (.iload_n 1) 1, o0 (.iload_n 2) 1, oM (.invokevirtual 417) 3 57 3 1 1, o0 (.aload_n 0) 1, oF (.getfield 83) 3 0 23 2, o0 (.aload_n 0) 1, o0 (.iload_n 1) 1, o0 (.iload_n 2) 1, oM (.invokevirtual 407) 3 53 3 1 1, o0 .iaload 1, o0 .iadd 1, oA .ireturn 1 0])], [], 3)
theorem mk_67 : mj_ckM mj_TY mp_0 prog_14_method_59_code 3 (some .int) mt_67 = true := by decide +kernel
-- UnbeatenHouseModel.leastLoss(II)I
def mt_68 : mj_C := ([(0, [o0 (.aload_n 0) 1, o0 (.iload_n 1) 1, o0 (.iload_n 2) 1, oM (.invokevirtual 417) 3 57 3 1 1, o0 (.aload_n 0) 1, oF (.getfield 83) 3 0 23 2, o0 (.aload_n 0) 1, o0 (.iload_n 1) 1, o0 (.iload_n 2) 1, oM (.invokevirtual 407) 3 53 3 1 1, o0 .iaload 1, o0 .isub 1, oA .ireturn 1 0])], [], 3)
theorem mk_68 : mj_ckM mj_TY mp_0 prog_14_method_58_code 3 (some .int) mt_68 = true := by decide +kernel
-- UnbeatenHouseModel.unsure(Z)J
def mt_69 : mj_C := ([(0, [oW (.lconst 0) 1 0, o0 (.lstore_n 2) 1, oV (.iconst 0) 1 0, o0 (.istore 4) 2]), (5, [o0 (.iload 4) 2, o0 (.aload_n 0) 1, oF (.getfield 54) 3 0 14 2, o0 (.aload_n 0) 1, oF (.getfield 48) 3 0 12 0, o0 .iaload 1, oA (.if_icmp .ge 112) 3 128]), (19, [o0 (.aload_n 0) 1, o0 (.iload 4) 2, oM (.invokevirtual 414) 3 56 2 1 1, oA (.ifCond .ne 7) 3 32]), (28, [oV (.iconst 1) 1 1, oA (.goto 4) 3 33]), (32, [oV (.iconst 0) 1 0]), (33, [o0 (.istore 5) 2, oV (.iconst 0) 1 0, o0 (.istore 6) 2]), (38, [o0 (.iload 6) 2, o0 (.aload_n 0) 1, oF (.getfield 54) 3 0 14 2, o0 (.aload_n 0) 1, oF (.getfield 48) 3 0 12 0, o0 .iaload 1, oA (.if_icmp .ge 57) 3 106]), (52, [o0 (.iload 5) 2, oA (.ifCond .eq 52) 3 106]), (57, [o0 (.iload 6) 2, o0 (.iload 4) 2, oA (.if_icmp .eq 32) 3 93]), (64, [o0 (.aload_n 0) 1, o0 (.iload 6) 2, oM (.invokevirtual 414) 3 56 2 1 1, oA (.ifCond .ne 23) 3 93]), (73, [o0 (.aload_n 0) 1, o0 (.iload 6) 2, o0 (.iload 4) 2, oM (.invokevirtual 439) 3 66 3 1 1, o0 (.iload_n 1) 1, oA (.ifCond .eq 7) 3 89]), (85, [oV (.iconst 1) 1 1, oA (.goto 4) 3 90]), (89, [oV (.iconst 2) 1 2]), (90, [oA (.if_icmp .ge 7) 3 97]), (93, [oV (.iconst 1) 1 1, oA (.goto 4) 3 98]), (97, [oV (.iconst 0) 1 0]), (98, [o0 (.istore 5) 2, oV (.iinc 6 1) 3 1, oA (.goto (-65)) 3 38]), (106, [o0 (.lload_n 2) 1, o0 (.iload 5) 2, oA (.ifCond .eq 10) 3 119]), (112, [oW (.lconst 1) 1 1, o0 (.iload 4) 2, o0 .lshl 1, oA (.goto 4) 3 120]), (119, [oW (.lconst 0) 1 0]), (120, [o0 .lor 1, o0 (.lstore_n 2) 1, oV (.iinc 4 1) 3 1, oA (.goto (-120)) 3 5]), (128, [o0 (.lload_n 2) 1, o0 .lreturn 1])], [(5, [0, 1, 2, 4]), (38, [0, 1, 2, 4, 5, 6]), (106, [0, 1, 2, 4, 5])], 7)
theorem mk_69 : mj_ckM mj_TY mp_0 prog_14_method_62_code 7 (some .long) mt_69 = true := by decide +kernel
-- UnbeatenHouseModel.front(III)I
def mt_70 : mj_C := ([(0, [o0 (.iload_n 1) 1, oV (.iconst 0) 1 0, oV (.iconst 2) 1 2, oM (.invokestatic 403) 3 49 3 1 0, oA (.ifCond .eq 15) 3 21]), (9, [o0 (.aload_n 0) 1, oF (.getfield 51) 3 0 13 2, o0 (.aload_n 0) 1, oF (.getfield 48) 3 0 12 0, o0 .iaload 1, oA (.ifCond .ne 5) 3 23]), (21, [oV (.iconst (-1)) 1 (-1), oA .ireturn 1 0]), (23, [o0 (.iload_n 1) 1, oV (.iconst 1) 1 1, oA (.if_icmp .ne 48) 3 73]), (28, [o0 (.iload_n 2) 1, oV (.iconst 0) 1 0, o0 (.aload_n 0) 1, oF (.getfield 57) 3 0 15 2, o0 (.aload_n 0) 1, oF (.getfield 48) 3 0 12 0, o0 .iaload 1, oV (.iconst 1) 1 1, o0 .isub 1, oM (.invokestatic 403) 3 49 3 1 0, oA (.ifCond .eq 27) 3 71]), (47, [o0 (.iload_n 3) 1, oV (.iconst 0) 1 0, o0 (.aload_n 0) 1, oF (.getfield 57) 3 0 15 2, o0 (.aload_n 0) 1, oF (.getfield 48) 3 0 12 0, o0 .iaload 1, oV (.iconst 1) 1 1, o0 .isub 1, oM (.invokestatic 403) 3 49 3 1 0, oA (.ifCond .eq 8) 3 71]), (66, [o0 (.iload_n 2) 1, o0 (.iload_n 3) 1, oA (.if_icmp .ne 5) 3 73]), (71, [oV (.iconst (-1)) 1 (-1), oA .ireturn 1 0]), (73, [o0 (.aload_n 0) 1, oV (.iconst 0) 1 0, oF (.putfield 159) 3 0 48 0, o0 (.iload_n 1) 1, oA (.ifCond .ne 113) 3 192]), (82, [o0 (.aload_n 0) 1, oM (.invokevirtual 424) 3 60 1 2 1, o0 (.lstore 4) 2, oV (.iconst 0) 1 0, o0 (.istore 6) 2]), (91, [o0 (.iload 6) 2, o0 (.aload_n 0) 1, oF (.getfield 54) 3 0 14 2, o0 (.aload_n 0) 1, oF (.getfield 48) 3 0 12 0, o0 .iaload 1, oA (.if_icmp .ge 90) 3 192]), (105, [o0 (.lload 4) 2, o0 (.iload 6) 2, o0 .lshr 1, oW (.lconst 1) 1 1, o0 .land 1, oW (.lconst 0) 1 0, o0 .lcmp 1, oA (.ifCond .ne 6) 3 120]), (117, [oA (.goto 69) 3 186]), (120, [oV (.iconst 0) 1 0, o0 (.istore 7) 2]), (123, [o0 (.iload 7) 2, o0 (.aload_n 0) 1, oF (.getfield 51) 3 0 13 2, o0 (.aload_n 0) 1, oF (.getfield 48) 3 0 12 0, o0 .iaload 1, oA (.if_icmp .ge 31) 3 165]), (137, [o0 (.aload_n 0) 1, oF (.getfield 163) 3 0 49 2, oV (.iconst 4) 1 4, o0 (.aload_n 0) 1, oF (.getfield 159) 3 0 48 0, o0 .imul 1, o0 (.iload 7) 2, o0 .iadd 1, o0 (.aload_n 0) 1, o0 (.iload 6) 2, o0 (.iload 7) 2, oM (.invokevirtual 417) 3 57 3 1 1, o0 .iastore 1, oV (.iinc 7 1) 3 1, oA (.goto (-39)) 3 123]), (165, [o0 (.aload_n 0) 1, oF (.getfield 166) 3 0 50 2, o0 (.aload_n 0) 1, oF (.getfield 159) 3 0 48 0, o0 (.iload 6) 2, o0 .iastore 1, o0 (.aload_n 0) 1, o0 .dup 1, oF (.getfield 159) 3 0 48 0, oV (.iconst 1) 1 1, o0 .iadd 1, oF (.putfield 159) 3 0 48 0]), (186, [oV (.iinc 6 1) 3 1, oA (.goto (-98)) 3 91]), (192, [o0 (.iload_n 1) 1, oV (.iconst 1) 1 1, oA (.if_icmp .ne 9) 3 203]), (197, [o0 (.aload_n 0) 1, o0 (.iload_n 2) 1, o0 (.iload_n 3) 1, oM (.invokevirtual 480) 3 71 3 0 1]), (203, [o0 (.iload_n 1) 1, oV (.iconst 2) 1 2, oA (.if_icmp .ne 7) 3 212]), (208, [o0 (.aload_n 0) 1, oM (.invokevirtual 483) 3 76 1 0 1]), (212, [o0 (.aload_n 0) 1, oF (.getfield 159) 3 0 48 0, oV (.bipush 100) 2 100, oA (.if_icmp .le 6) 3 224]), (221, [oV (.bipush (-2)) 2 (-2), oA .ireturn 1 0]), (224, [o0 (.aload_n 0) 1, o0 (.iload_n 1) 1, oF (.putfield 194) 3 0 59 0, o0 (.aload_n 0) 1, o0 (.aload_n 0) 1, oF (.getfield 159) 3 0 48 0, oF (.putfield 191) 3 0 58 0, oV (.iconst 0) 1 0, o0 (.istore 4) 2]), (240, [o0 (.iload 4) 2, o0 (.aload_n 0) 1, oF (.getfield 159) 3 0 48 0, oA (.if_icmp .ge 196) 3 442]), (249, [o0 (.iload 4) 2, o0 (.istore 5) 2, oV (.iconst 0) 1 0, o0 (.istore 6) 2]), (256, [o0 (.iload 6) 2, o0 (.aload_n 0) 1, oF (.getfield 159) 3 0 48 0, oA (.if_icmp .ge 71) 3 333]), (265, [o0 (.iload_n 1) 1, oA (.ifCond .le 67) 3 333]), (269, [oV (.iconst 0) 1 0, o0 (.istore 7) 2, oV (.iconst 0) 1 0, o0 (.istore 8) 2]), (275, [o0 (.iload 8) 2, o0 (.aload_n 0) 1, oF (.getfield 159) 3 0 48 0, oA (.if_icmp .ge 30) 3 311]), (284, [o0 (.iload 7) 2, o0 (.aload_n 0) 1, o0 (.iload 8) 2, o0 (.iload 6) 2, oM (.invokevirtual 486) 3 83 3 1 1, oA (.ifCond .eq 7) 3 301]), (297, [oV (.iconst 1) 1 1, oA (.goto 4) 3 302]), (301, [oV (.iconst 0) 1 0]), (302, [o0 .iadd 1, o0 (.istore 7) 2, oV (.iinc 8 1) 3 1, oA (.goto (-33)) 3 275]), (311, [o0 (.iload 7) 2, o0 (.iload 4) 2, oA (.if_icmp .ne 8) 3 323]), (318, [o0 (.iload 6) 2, oA (.goto 5) 3 325]), (323, [o0 (.iload 5) 2]), (325, [o0 (.istore 5) 2, oV (.iinc 6 1) 3 1, oA (.goto (-74)) 3 256]), (333, [oV (.iconst 0) 1 0, o0 (.istore 6) 2]), (336, [o0 (.iload 6) 2, o0 (.aload_n 0) 1, oF (.getfield 51) 3 0 13 2, o0 (.aload_n 0) 1, oF (.getfield 48) 3 0 12 0, o0 .iaload 1, oA (.if_icmp .ge 33) 3 380]), (350, [o0 (.aload_n 0) 1, oF (.getfield 197) 3 0 60 2, oV (.iconst 4) 1 4, o0 (.iload 4) 2, o0 .imul 1, o0 (.iload 6) 2, o0 .iadd 1, o0 (.aload_n 0) 1, oF (.getfield 163) 3 0 49 2, oV (.iconst 4) 1 4, o0 (.iload 5) 2, o0 .imul 1, o0 (.iload 6) 2, o0 .iadd 1, o0 .iaload 1, o0 .iastore 1, oV (.iinc 6 1) 3 1, oA (.goto (-41)) 3 336]), (380, [o0 (.aload_n 0) 1, oF (.getfield 200) 3 0 61 2, o0 (.iload 4) 2, o0 (.aload_n 0) 1, oF (.getfield 166) 3 0 50 2, o0 (.iload 5) 2, o0 .iaload 1, o0 .iastore 1, oV (.iconst 0) 1 0, o0 (.istore 6) 2]), (397, [o0 (.iload 6) 2, oV (.bipush 10) 2 10, oA (.if_icmp .ge 35) 3 436]), (404, [o0 (.aload_n 0) 1, oF (.getfield 203) 3 0 62 2, oV (.bipush 10) 2 10, o0 (.iload 4) 2, o0 .imul 1, o0 (.iload 6) 2, o0 .iadd 1, o0 (.aload_n 0) 1, oF (.getfield 170) 3 0 51 2, oV (.bipush 10) 2 10, o0 (.iload 5) 2, o0 .imul 1, o0 (.iload 6) 2, o0 .iadd 1, o0 .iaload 1, o0 .iastore 1, oV (.iinc 6 1) 3 1, oA (.goto (-36)) 3 397]), (436, [oV (.iinc 4 1) 3 1, oA (.goto (-199)) 3 240]), (442, [o0 (.aload_n 0) 1, oF (.getfield 159) 3 0 48 0, oA .ireturn 1 0])], [(73, [0, 1, 2, 3]), (91, [0, 1, 2, 3, 4, 6]), (123, [0, 1, 2, 3, 4, 6, 7]), (192, [0, 1, 2, 3]), (212, [0, 1]), (240, [0, 1, 4]), (256, [0, 1, 4, 5, 6]), (275, [0, 1, 4, 5, 6, 7, 8]), (336, [0, 1, 4, 5, 6]), (397, [0, 1, 4, 5, 6])], 9)
theorem mk_70 : mj_ckM mj_TY mp_0 prog_14_method_76_code 9 (some .int) mt_70 = true := by decide +kernel
-- UnbeatenHouseModel.ways(II)V
def mt_71 : mj_C := ([(0, [o0 (.aload_n 0) 1, oF (.getfield 176) 3 0 53 2, oV (.iconst 0) 1 0, o0 (.iload_n 1) 1, o0 .iastore 1, o0 (.aload_n 0) 1, oF (.getfield 182) 3 0 55 2, oV (.iconst 0) 1 0, oV (.iconst 0) 1 0, o0 .iastore 1, oV (.iconst 0) 1 0, o0 (.istore_n 3) 1]), (16, [o0 (.iload_n 3) 1, oV (.iconst 4) 1 4, oA (.if_icmp .ge 16) 3 34]), (21, [o0 (.aload_n 0) 1, oF (.getfield 179) 3 0 54 2, o0 (.iload_n 3) 1, oV (.iconst 0) 1 0, o0 .iastore 1, oV (.iinc 3 1) 3 1, oA (.goto (-15)) 3 16]), (34, [oV (.iconst 0) 1 0, o0 (.istore_n 3) 1]), (36, [o0 (.iload_n 3) 1, oA (.ifCond .lt 358) 3 395]), (40, [o0 (.aload_n 0) 1, oF (.getfield 182) 3 0 55 2, o0 (.iload_n 3) 1, o0 .iaload 1, oV (.sipush 240) 3 240, oA (.if_icmp .ne 9) 3 58]), (52, [oV (.iinc 3 (-1)) 3 (-1), oA (.goto (-19)) 3 36]), (58, [o0 (.aload_n 0) 1, oF (.getfield 182) 3 0 55 2, o0 (.iload_n 3) 1, o0 .iaload 1, oV (.bipush 24) 2 24, o0 .idiv 1, o0 (.istore 4) 2, oV (.bipush 24) 2 24, o0 (.aload_n 0) 1, oF (.getfield 48) 3 0 12 0, o0 .imul 1, o0 (.aload_n 0) 1, oF (.getfield 182) 3 0 55 2, o0 (.iload_n 3) 1, o0 .iaload 1, oV (.bipush 24) 2 24, o0 .irem 1, o0 .iadd 1, o0 (.istore 5) 2, o0 (.aload_n 0) 1, oF (.getfield 182) 3 0 55 2, o0 (.iload_n 3) 1, o0 .iaload 1, oV (.bipush 24) 2 24, o0 .irem 1, o0 (.aload_n 0) 1, oF (.getfield 60) 3 0 16 2, o0 (.aload_n 0) 1, oF (.getfield 48) 3 0 12 0, o0 .iaload 1, oA (.if_icmp .ge 49) 3 155]), (109, [o0 (.iload 4) 2, o0 (.aload_n 0) 1, oF (.getfield 57) 3 0 15 2, o0 (.aload_n 0) 1, oF (.getfield 48) 3 0 12 0, o0 .iaload 1, oA (.if_icmp .ge 35) 3 155]), (123, [o0 (.aload_n 0) 1, oF (.getfield 89) 3 0 25 2, o0 (.iload 5) 2, o0 .iaload 1, o0 (.aload_n 0) 1, oF (.getfield 176) 3 0 53 2, o0 (.iload_n 3) 1, o0 .iaload 1, oA (.if_icmp .ne 19) 3 155]), (139, [o0 (.aload_n 0) 1, oF (.getfield 92) 3 0 26 2, o0 (.iload 5) 2, o0 .iaload 1, o0 (.iload 4) 2, oA (.if_icmp .ne 7) 3 155]), (151, [oV (.iconst 1) 1 1, oA (.goto 4) 3 156]), (155, [oV (.iconst 0) 1 0]), (156, [o0 (.istore 6) 2, o0 (.aload_n 0) 1, oF (.getfield 182) 3 0 55 2, o0 (.iload_n 3) 1, o0 .dup2 1, o0 .iaload 1, oV (.iconst 1) 1 1, o0 .iadd 1, o0 .iastore 1, oV (.iconst 0) 1 0, o0 (.istore 7) 2]), (171, [o0 (.iload 7) 2, o0 (.iload_n 3) 1, oA (.if_icmp .gt 33) 3 207]), (177, [o0 (.iload 6) 2, oA (.ifCond .eq 28) 3 207]), (182, [o0 (.aload_n 0) 1, oF (.getfield 176) 3 0 53 2, o0 (.iload 7) 2, o0 .iaload 1, o0 (.iload 4) 2, oA (.if_icmp .eq 7) 3 198]), (194, [oV (.iconst 1) 1 1, oA (.goto 4) 3 199]), (198, [oV (.iconst 0) 1 0]), (199, [o0 (.istore 6) 2, oV (.iinc 7 1) 3 1, oA (.goto (-33)) 3 171]), (207, [o0 (.iload 6) 2, oA (.ifCond .ne 6) 3 215]), (212, [oA (.goto (-176)) 3 36]), (215, [oV (.iconst 0) 1 0, o0 (.istore 7) 2]), (218, [o0 (.iload 7) 2, o0 (.aload_n 0) 1, oF (.getfield 51) 3 0 13 2, o0 (.aload_n 0) 1, oF (.getfield 48) 3 0 12 0, o0 .iaload 1, oA (.if_icmp .ge 59) 3 288]), (232, [o0 (.aload_n 0) 1, oF (.getfield 179) 3 0 54 2, oV (.iconst 4) 1 4, o0 (.iload_n 3) 1, oV (.iconst 1) 1 1, o0 .iadd 1, oV (.bipush 10) 2 10, oA (.if_icmp .ge 9) 3 251]), (245, [o0 (.iload_n 3) 1, oV (.iconst 1) 1 1, o0 .iadd 1, oA (.goto 5) 3 253]), (251, [oV (.bipush 9) 2 9]), (253, [o0 .imul 1, o0 (.iload 7) 2, o0 .iadd 1, o0 (.aload_n 0) 1, oF (.getfield 179) 3 0 54 2, oV (.iconst 4) 1 4, o0 (.iload_n 3) 1, o0 .imul 1, o0 (.iload 7) 2, o0 .iadd 1, o0 .iaload 1, o0 (.aload_n 0) 1, oF (.getfield 95) 3 0 27 2, oV (.iconst 4) 1 4, o0 (.iload 5) 2, o0 .imul 1, o0 (.iload 7) 2, o0 .iadd 1, o0 .iaload 1, o0 .iadd 1, o0 .iastore 1, oV (.iinc 7 1) 3 1, oA (.goto (-67)) 3 218]), (288, [o0 (.iload 4) 2, o0 (.iload_n 2) 1, oA (.if_icmp .ne 72) 3 363]), (294, [o0 (.aload_n 0) 1, oF (.getfield 176) 3 0 53 2, o0 (.iload_n 3) 1, oV (.iconst 1) 1 1, o0 .iadd 1, o0 (.iload 4) 2, o0 .iastore 1, oV (.iconst 0) 1 0, o0 (.istore 7) 2]), (307, [o0 (.iload 7) 2, o0 (.aload_n 0) 1, oF (.getfield 51) 3 0 13 2, o0 (.aload_n 0) 1, oF (.getfield 48) 3 0 12 0, o0 .iaload 1, oA (.if_icmp .ge 35) 3 353]), (321, [o0 (.aload_n 0) 1, oF (.getfield 173) 3 0 52 2, o0 (.iload 7) 2, o0 (.aload_n 0) 1, o0 (.iload 7) 2, o0 (.aload_n 0) 1, oF (.getfield 179) 3 0 54 2, oV (.iconst 4) 1 4, o0 (.iload_n 3) 1, oV (.iconst 1) 1 1, o0 .iadd 1, o0 .imul 1, o0 (.iload 7) 2, o0 .iadd 1, o0 .iaload 1, oM (.invokevirtual 411) 3 58 3 1 1, o0 .iastore 1, oV (.iinc 7 1) 3 1, oA (.goto (-43)) 3 307]), (353, [o0 (.aload_n 0) 1, o0 (.iload_n 3) 1, oV (.iconst 2) 1 2, o0 .iadd 1, oM (.invokevirtual 451) 3 72 2 0 1, oA (.goto (-324)) 3 36]), (363, [o0 (.iload_n 3) 1, oV (.iconst 2) 1 2, o0 .iadd 1, oV (.bipush 9) 2 9, oA (.if_icmp .le 6) 3 374]), (371, [oA (.goto (-335)) 3 36]), (374, [oV (.iinc 3 1) 3 1, o0 (.aload_n 0) 1, oF (.getfield 176) 3 0 53 2, o0 (.iload_n 3) 1, o0 (.iload 4) 2, o0 .iastore 1, o0 (.aload_n 0) 1, oF (.getfield 182) 3 0 55 2, o0 (.iload_n 3) 1, oV (.iconst 0) 1 0, o0 .iastore 1, oA (.goto (-356)) 3 36]), (395, [o0 .return_ 1])], [(16, [0, 2, 3]), (36, [0, 2, 3]), (155, [0, 2, 3, 4, 5]), (171, [0, 2, 3, 4, 5, 6, 7]), (218, [0, 2, 3, 4, 5, 7]), (307, [0, 2, 3, 7])], 8)
theorem mk_71 : mj_ckM mj_TY mp_0 prog_14_method_68_code 8 none mt_71 = true := by decide +kernel
-- UnbeatenHouseModel.gathers(I)V
def mt_72 : mj_C := ([(0, [oV (.iconst 0) 1 0, o0 (.istore_n 2) 1]), (2, [o0 (.iload_n 2) 1, o0 (.aload_n 0) 1, oF (.getfield 159) 3 0 48 0, oA (.if_icmp .ge 18) 3 25]), (10, [o0 (.aload_n 0) 1, o0 (.iload_n 2) 1, oM (.invokevirtual 442) 3 73 2 1 1, oA (.ifCond .eq 4) 3 19]), (18, [o0 .return_ 1]), (19, [oV (.iinc 2 1) 3 1, oA (.goto (-20)) 3 2]), (25, [oV (.iconst 0) 1 0, o0 (.istore_n 2) 1, oV (.iconst 0) 1 0, o0 (.istore_n 3) 1]), (29, [o0 (.iload_n 3) 1, o0 (.aload_n 0) 1, oF (.getfield 159) 3 0 48 0, oA (.if_icmp .ge 29) 3 63]), (37, [o0 (.aload_n 0) 1, o0 (.iload_n 3) 1, oM (.invokevirtual 445) 3 74 2 1 1, oA (.ifCond .eq 6) 3 48]), (45, [oA (.goto 12) 3 57]), (48, [o0 (.aload_n 0) 1, o0 (.iload_n 2) 1, o0 (.iload_n 3) 1, oM (.invokevirtual 448) 3 75 3 0 1, oV (.iinc 2 1) 3 1]), (57, [oV (.iinc 3 1) 3 1, oA (.goto (-31)) 3 29]), (63, [oV (.iconst 0) 1 0, o0 (.istore_n 3) 1]), (65, [o0 (.iload_n 3) 1, o0 (.aload_n 0) 1, oF (.getfield 51) 3 0 13 2, o0 (.aload_n 0) 1, oF (.getfield 48) 3 0 12 0, o0 .iaload 1, oA (.if_icmp .ge 25) 3 100]), (78, [o0 (.aload_n 0) 1, oF (.getfield 163) 3 0 49 2, oV (.iconst 4) 1 4, o0 (.iload_n 2) 1, o0 .imul 1, o0 (.iload_n 3) 1, o0 .iadd 1, o0 (.aload_n 0) 1, oF (.getfield 173) 3 0 52 2, o0 (.iload_n 3) 1, o0 .iaload 1, o0 .iastore 1, oV (.iinc 3 1) 3 1, oA (.goto (-32)) 3 65]), (100, [o0 (.aload_n 0) 1, oF (.getfield 166) 3 0 50 2, o0 (.iload_n 2) 1, o0 (.iload_n 1) 1, o0 .iastore 1, oV (.iconst 0) 1 0, o0 (.istore_n 3) 1]), (109, [o0 (.iload_n 3) 1, oV (.bipush 10) 2 10, oA (.if_icmp .ge 26) 3 138]), (115, [o0 (.aload_n 0) 1, oF (.getfield 170) 3 0 51 2, oV (.bipush 10) 2 10, o0 (.iload_n 2) 1, o0 .imul 1, o0 (.iload_n 3) 1, o0 .iadd 1, o0 (.aload_n 0) 1, oF (.getfield 176) 3 0 53 2, o0 (.iload_n 3) 1, o0 .iaload 1, o0 .iastore 1, oV (.iinc 3 1) 3 1, oA (.goto (-26)) 3 109]), (138, [o0 (.aload_n 0) 1, o0 (.iload_n 2) 1, oV (.iconst 1) 1 1, o0 .iadd 1, oF (.putfield 159) 3 0 48 0, o0 .return_ 1])], [(2, [0, 1, 2]), (29, [0, 1, 2, 3]), (65, [0, 1, 2, 3]), (109, [0, 2, 3])], 4)
theorem mk_72 : mj_ckM mj_TY mp_0 prog_14_method_66_code 4 none mt_72 = true := by decide +kernel
-- UnbeatenHouseModel.isLost(I)Z
def mt_73 : mj_C := ([(0, [oV (.iconst 0) 1 0, o0 (.istore_n 2) 1]), (2, [o0 (.iload_n 2) 1, o0 (.aload_n 0) 1, oF (.getfield 51) 3 0 13 2, o0 (.aload_n 0) 1, oF (.getfield 48) 3 0 12 0, o0 .iaload 1, oA (.if_icmp .ge 30) 3 42]), (15, [o0 (.aload_n 0) 1, oF (.getfield 163) 3 0 49 2, oV (.iconst 4) 1 4, o0 (.iload_n 1) 1, o0 .imul 1, o0 (.iload_n 2) 1, o0 .iadd 1, o0 .iaload 1, o0 (.aload_n 0) 1, oF (.getfield 173) 3 0 52 2, o0 (.iload_n 2) 1, o0 .iaload 1, oA (.if_icmp .le 5) 3 36]), (34, [oV (.iconst 0) 1 0, oA .ireturn 1 1]), (36, [oV (.iinc 2 1) 3 1, oA (.goto (-37)) 3 2]), (42, [oV (.iconst 1) 1 1, oA .ireturn 1 1])], [(2, [0, 1, 2])], 3)
theorem mk_73 : mj_ckM mj_TY mp_0 prog_14_method_63_code 3 (some .boolean) mt_73 = true := by decide +kernel
-- UnbeatenHouseModel.isWorse(I)Z
def mt_74 : mj_C := ([(0, [oV (.iconst 0) 1 0, o0 (.istore_n 2) 1]), (2, [o0 (.iload_n 2) 1, o0 (.aload_n 0) 1, oF (.getfield 51) 3 0 13 2, o0 (.aload_n 0) 1, oF (.getfield 48) 3 0 12 0, o0 .iaload 1, oA (.if_icmp .ge 30) 3 42]), (15, [o0 (.aload_n 0) 1, oF (.getfield 163) 3 0 49 2, oV (.iconst 4) 1 4, o0 (.iload_n 1) 1, o0 .imul 1, o0 (.iload_n 2) 1, o0 .iadd 1, o0 .iaload 1, o0 (.aload_n 0) 1, oF (.getfield 173) 3 0 52 2, o0 (.iload_n 2) 1, o0 .iaload 1, oA (.if_icmp .ge 5) 3 36]), (34, [oV (.iconst 0) 1 0, oA .ireturn 1 1]), (36, [oV (.iinc 2 1) 3 1, oA (.goto (-37)) 3 2]), (42, [oV (.iconst 1) 1 1, oA .ireturn 1 1])], [(2, [0, 1, 2])], 3)
theorem mk_74 : mj_ckM mj_TY mp_0 prog_14_method_64_code 3 (some .boolean) mt_74 = true := by decide +kernel
-- UnbeatenHouseModel.lays(II)V
def mt_75 : mj_C := ([(0, [oV (.iconst 0) 1 0, o0 (.istore_n 3) 1]), (2, [o0 (.iload_n 3) 1, oV (.iconst 4) 1 4, oA (.if_icmp .ge 29) 3 33]), (7, [o0 (.aload_n 0) 1, oF (.getfield 163) 3 0 49 2, oV (.iconst 4) 1 4, o0 (.iload_n 1) 1, o0 .imul 1, o0 (.iload_n 3) 1, o0 .iadd 1, o0 (.aload_n 0) 1, oF (.getfield 163) 3 0 49 2, oV (.iconst 4) 1 4, o0 (.iload_n 2) 1, o0 .imul 1, o0 (.iload_n 3) 1, o0 .iadd 1, o0 .iaload 1, o0 .iastore 1, oV (.iinc 3 1) 3 1, oA (.goto (-28)) 3 2]), (33, [o0 (.aload_n 0) 1, oF (.getfield 166) 3 0 50 2, o0 (.iload_n 1) 1, o0 (.aload_n 0) 1, oF (.getfield 166) 3 0 50 2, o0 (.iload_n 2) 1, o0 .iaload 1, o0 .iastore 1, oV (.iconst 0) 1 0, o0 (.istore_n 3) 1]), (47, [o0 (.iload_n 3) 1, oV (.bipush 10) 2 10, oA (.if_icmp .ge 31) 3 81]), (53, [o0 (.aload_n 0) 1, oF (.getfield 170) 3 0 51 2, oV (.bipush 10) 2 10, o0 (.iload_n 1) 1, o0 .imul 1, o0 (.iload_n 3) 1, o0 .iadd 1, o0 (.aload_n 0) 1, oF (.getfield 170) 3 0 51 2, oV (.bipush 10) 2 10, o0 (.iload_n 2) 1, o0 .imul 1, o0 (.iload_n 3) 1, o0 .iadd 1, o0 .iaload 1, o0 .iastore 1, oV (.iinc 3 1) 3 1, oA (.goto (-31)) 3 47]), (81, [o0 .return_ 1])], [(2, [0, 1, 2, 3]), (47, [0, 1, 2, 3])], 4)
theorem mk_75 : mj_ckM mj_TY mp_0 prog_14_method_65_code 4 none mt_75 = true := by decide +kernel
-- UnbeatenHouseModel.sets()V
def mt_76 : mj_C := ([(0, [oV (.iconst 0) 1 0, o0 (.istore_n 1) 1]), (2, [o0 (.iload_n 1) 1, oV (.iconst 1) 1 1, o0 (.aload_n 0) 1, oF (.getfield 63) 3 0 17 2, o0 (.aload_n 0) 1, oF (.getfield 48) 3 0 12 0, o0 .iaload 1, o0 .ishl 1, oA (.if_icmp .ge 133) 3 147]), (17, [o0 (.aload_n 0) 1, o0 (.iload_n 1) 1, oF (.putfield 185) 3 0 56 0, oV (.iconst 1) 1 1, o0 (.istore_n 2) 1, oV (.iconst 0) 1 0, o0 (.istore_n 3) 1]), (26, [o0 (.iload_n 3) 1, o0 (.aload_n 0) 1, oF (.getfield 66) 3 0 18 2, o0 (.aload_n 0) 1, oF (.getfield 48) 3 0 12 0, o0 .iaload 1, oA (.if_icmp .ge 56) 3 92]), (39, [o0 (.iload_n 2) 1, oA (.ifCond .eq 52) 3 92]), (43, [o0 (.aload_n 0) 1, o0 (.aload_n 0) 1, oF (.getfield 104) 3 0 30 2, oV (.bipush 12) 2 12, o0 (.aload_n 0) 1, oF (.getfield 48) 3 0 12 0, o0 .imul 1, o0 (.iload_n 3) 1, o0 .iadd 1, o0 .iaload 1, o0 (.aload_n 0) 1, oF (.getfield 107) 3 0 31 2, oV (.bipush 12) 2 12, o0 (.aload_n 0) 1, oF (.getfield 48) 3 0 12 0, o0 .imul 1, o0 (.iload_n 3) 1, o0 .iadd 1, o0 .iaload 1, oM (.invokevirtual 454) 3 77 3 2 1, oW (.lconst 1) 1 1, o0 .lcmp 1, oA (.ifCond .ne 7) 3 84]), (80, [oV (.iconst 1) 1 1, oA (.goto 4) 3 85]), (84, [oV (.iconst 0) 1 0]), (85, [o0 (.istore_n 2) 1, oV (.iinc 3 1) 3 1, oA (.goto (-63)) 3 26]), (92, [o0 (.iload_n 2) 1, oA (.ifCond .ne 6) 3 99]), (96, [oA (.goto 45) 3 141]), (99, [oV (.iconst 0) 1 0, o0 (.istore_n 3) 1]), (101, [o0 (.iload_n 3) 1, o0 (.aload_n 0) 1, oF (.getfield 51) 3 0 13 2, o0 (.aload_n 0) 1, oF (.getfield 48) 3 0 12 0, o0 .iaload 1, oA (.if_icmp .ge 25) 3 136]), (114, [o0 (.aload_n 0) 1, oF (.getfield 173) 3 0 52 2, o0 (.iload_n 3) 1, o0 (.aload_n 0) 1, o0 (.iload_n 3) 1, o0 (.aload_n 0) 1, o0 (.iload_n 3) 1, oM (.invokevirtual 458) 3 79 2 1 1, oM (.invokevirtual 411) 3 58 3 1 1, o0 .iastore 1, oV (.iinc 3 1) 3 1, oA (.goto (-32)) 3 101]), (136, [o0 (.aload_n 0) 1, o0 (.iload_n 1) 1, oM (.invokevirtual 451) 3 72 2 0 1]), (141, [oV (.iinc 1 1) 3 1, oA (.goto (-142)) 3 2]), (147, [o0 .return_ 1])], [(2, [0, 1]), (26, [0, 1, 2, 3]), (101, [0, 1, 3])], 4)
theorem mk_76 : mj_ckM mj_TY mp_0 prog_14_method_69_code 4 none mt_76 = true := by decide +kernel
-- UnbeatenHouseModel.works(II)J
def mt_77 : mj_C := ([(0, [oV (.iconst 0) 1 0, o0 (.istore_n 3) 1, oV (.sipush 900) 3 900, o0 (.aload_n 0) 1, oF (.getfield 48) 3 0 12 0, o0 .imul 1, o0 (.iload_n 1) 1, o0 .iadd 1, o0 (.istore 4) 2]), (14, [o0 (.iload 4) 2, oV (.sipush 900) 3 900, o0 (.aload_n 0) 1, oF (.getfield 48) 3 0 12 0, o0 .imul 1, o0 (.iload_n 2) 1, o0 .iadd 1, oA (.if_icmp .ge 107) 3 133]), (29, [o0 (.aload_n 0) 1, oF (.getfield 110) 3 0 32 2, o0 (.iload 4) 2, o0 .iaload 1, o0 (.istore 5) 2, o0 (.iload 5) 2, oV (.iconst 4) 1 4, oA (.if_icmp .gt 28) 3 69]), (44, [o0 (.aload_n 0) 1, oF (.getfield 188) 3 0 57 2, o0 (.iload_n 3) 1, o0 (.aload_n 0) 1, o0 (.iload 5) 2, o0 (.aload_n 0) 1, oF (.getfield 113) 3 0 33 2, o0 (.iload 4) 2, o0 .iaload 1, oM (.invokevirtual 473) 3 78 3 2 1, o0 .lastore 1, oV (.iinc 3 1) 3 1, oA (.goto 61) 3 127]), (69, [o0 (.iload 5) 2, oV (.bipush 16) 2 16, oA (.if_icmp .ne 24) 3 97]), (76, [o0 (.aload_n 0) 1, oF (.getfield 188) 3 0 57 2, o0 (.iload_n 3) 1, oV (.iconst 1) 1 1, o0 .isub 1, oW (.lconst 1) 1 1, o0 (.aload_n 0) 1, oF (.getfield 188) 3 0 57 2, o0 (.iload_n 3) 1, oV (.iconst 1) 1 1, o0 .isub 1, o0 .laload 1, o0 .lsub 1, o0 .lastore 1, oA (.goto 33) 3 127]), (97, [oV (.iinc 3 (-1)) 3 (-1), o0 (.aload_n 0) 1, oF (.getfield 188) 3 0 57 2, o0 (.iload_n 3) 1, oV (.iconst 1) 1 1, o0 .isub 1, o0 (.iload 5) 2, o0 (.aload_n 0) 1, oF (.getfield 188) 3 0 57 2, o0 (.iload_n 3) 1, oV (.iconst 1) 1 1, o0 .isub 1, o0 .laload 1, o0 (.aload_n 0) 1, oF (.getfield 188) 3 0 57 2, o0 (.iload_n 3) 1, o0 .laload 1, oM (.invokestatic 476) 3 80 3 2 0, o0 .lastore 1]), (127, [oV (.iinc 4 1) 3 1, oA (.goto (-116)) 3 14]), (133, [o0 (.aload_n 0) 1, oF (.getfield 188) 3 0 57 2, oV (.iconst 0) 1 0, o0 .laload 1, o0 .lreturn 1])], [(14, [0, 2, 3, 4])], 6)
theorem mk_77 : mj_ckM mj_TY mp_0 prog_14_method_75_code 6 (some .long) mt_77 = true := by decide +kernel
-- UnbeatenHouseModel.leaf(II)J
def mt_78 : mj_C := ([(0, [o0 (.iload_n 1) 1, oT (.tableswitch 53 0 3 #[31, 34, 44, 51]) 31 54 [(0, 32), (1, 35), (2, 45), (3, 52)]]), (32, [o0 (.iload_n 2) 1, o0 .i2l 1, o0 .lreturn 1]), (35, [o0 (.aload_n 0) 1, oF (.getfield 185) 3 0 56 0, o0 .i2l 1, oM (.invokestatic 429) 3 63 1 1 0, o0 .i2l 1, o0 .lreturn 1]), (45, [o0 (.aload_n 0) 1, o0 (.iload_n 2) 1, oM (.invokevirtual 458) 3 79 2 1 1, o0 .i2l 1, o0 .lreturn 1]), (52, [oW (.lconst 1) 1 1, o0 .lreturn 1]), (54, [o0 (.aload_n 0) 1, oF (.getfield 185) 3 0 56 0, o0 (.iload_n 2) 1, o0 .ishr 1, oV (.iconst 1) 1 1, o0 .iand 1, o0 .i2l 1, o0 .lreturn 1])], [], 3)
theorem mk_78 : mj_ckM mj_TY mp_0 prog_14_method_74_code 3 (some .long) mt_78 = true := by decide +kernel
-- UnbeatenHouseModel.setHas(I)I
def mt_79 : mj_C := ([(0, [oV (.iconst 0) 1 0, o0 (.istore_n 2) 1, oV (.iconst 0) 1 0, o0 (.istore_n 3) 1]), (4, [o0 (.iload_n 3) 1, o0 (.aload_n 0) 1, oF (.getfield 63) 3 0 17 2, o0 (.aload_n 0) 1, oF (.getfield 48) 3 0 12 0, o0 .iaload 1, oA (.if_icmp .ge 46) 3 60]), (17, [o0 (.iload_n 2) 1, o0 (.aload_n 0) 1, oF (.getfield 185) 3 0 56 0, o0 (.iload_n 3) 1, o0 .ishr 1, oV (.iconst 1) 1 1, o0 .iand 1, oV (.iconst 1) 1 1, oA (.if_icmp .ne 24) 3 51]), (30, [o0 (.aload_n 0) 1, oF (.getfield 101) 3 0 29 2, oV (.iconst 4) 1 4, oV (.bipush 12) 2 12, o0 (.aload_n 0) 1, oF (.getfield 48) 3 0 12 0, o0 .imul 1, o0 (.iload_n 3) 1, o0 .iadd 1, o0 .imul 1, o0 (.iload_n 1) 1, o0 .iadd 1, o0 .iaload 1, oA (.goto 4) 3 52]), (51, [oV (.iconst 0) 1 0]), (52, [o0 .iadd 1, o0 (.istore_n 2) 1, oV (.iinc 3 1) 3 1, oA (.goto (-53)) 3 4]), (60, [o0 (.iload_n 2) 1, oA .ireturn 1 0])], [(4, [0, 1, 2, 3])], 4)
theorem mk_79 : mj_ckM mj_TY mp_0 prog_14_method_70_code 4 (some .int) mt_79 = true := by decide +kernel
-- UnbeatenHouseModel.two(IJJ)J
def mt_80 : mj_C := ([(0, [o0 (.iload_n 0) 1, oT (.tableswitch 146 5 14 #[55, 62, 69, 76, 82, 94, 106, 118, 130, 142]) 55 147 [(5, 56), (6, 63), (7, 70), (8, 77), (9, 83), (10, 95), (11, 107), (12, 119), (13, 131), (14, 143)]]), (56, [o0 (.lload_n 1) 1, o0 (.lload_n 3) 1, o0 .ladd 1, oM (.invokestatic 465) 3 81 1 2 0, o0 .lreturn 1]), (63, [o0 (.lload_n 1) 1, o0 (.lload_n 3) 1, o0 .lsub 1, oM (.invokestatic 465) 3 81 1 2 0, o0 .lreturn 1]), (70, [o0 (.lload_n 1) 1, o0 (.lload_n 3) 1, o0 .lmul 1, oM (.invokestatic 465) 3 81 1 2 0, o0 .lreturn 1]), (77, [o0 (.lload_n 1) 1, o0 (.lload_n 3) 1, oM (.invokestatic 469) 3 82 2 2 0, o0 .lreturn 1]), (83, [o0 (.lload_n 1) 1, o0 (.lload_n 3) 1, o0 .lcmp 1, oA (.ifCond .ge 7) 3 93]), (89, [o0 (.lload_n 1) 1, oA (.goto 4) 3 94]), (93, [o0 (.lload_n 3) 1]), (94, [o0 .lreturn 1]), (95, [o0 (.lload_n 1) 1, o0 (.lload_n 3) 1, o0 .lcmp 1, oA (.ifCond .le 7) 3 105]), (101, [o0 (.lload_n 1) 1, oA (.goto 4) 3 106]), (105, [o0 (.lload_n 3) 1]), (106, [o0 .lreturn 1]), (107, [o0 (.lload_n 1) 1, o0 (.lload_n 3) 1, o0 .lcmp 1, oA (.ifCond .ge 7) 3 117]), (113, [oW (.lconst 1) 1 1, oA (.goto 4) 3 118]), (117, [oW (.lconst 0) 1 0]), (118, [o0 .lreturn 1]), (119, [o0 (.lload_n 1) 1, o0 (.lload_n 3) 1, o0 .lcmp 1, oA (.ifCond .le 7) 3 129]), (125, [oW (.lconst 1) 1 1, oA (.goto 4) 3 130]), (129, [oW (.lconst 0) 1 0]), (130, [o0 .lreturn 1]), (131, [o0 (.lload_n 1) 1, o0 (.lload_n 3) 1, o0 .lcmp 1, oA (.ifCond .ne 7) 3 141]), (137, [oW (.lconst 1) 1 1, oA (.goto 4) 3 142]), (141, [oW (.lconst 0) 1 0]), (142, [o0 .lreturn 1]), (143, [o0 (.lload_n 1) 1, o0 (.lload_n 3) 1, o0 .lmul 1, o0 .lreturn 1]), (147, [o0 (.lload_n 1) 1, o0 (.lload_n 3) 1, o0 .ladd 1, oW (.lconst 0) 1 0, o0 .lcmp 1, oA (.ifCond .le 7) 3 159]), (155, [oW (.lconst 1) 1 1, oA (.goto 4) 3 160]), (159, [oW (.lconst 0) 1 0]), (160, [o0 .lreturn 1])], [], 5)
theorem mk_80 : mj_ckM mj_TY mp_0 prog_14_method_73_code 5 (some .long) mt_80 = true := by decide +kernel
-- UnbeatenHouseModel.held(J)J
def mt_81 : mj_C := ([(0, [o0 (.lload_n 0) 1, oW (.ldc2_w 461) 3 1000000000, o0 .lcmp 1, oA (.ifCond .le 9) 3 14]), (8, [oW (.ldc2_w 461) 3 1000000000, oA (.goto 18) 3 29]), (14, [o0 (.lload_n 0) 1, oW (.ldc2_w 463) 3 (-1000000000), o0 .lcmp 1, oA (.ifCond .ge 9) 3 28]), (22, [oW (.ldc2_w 463) 3 (-1000000000), oA (.goto 4) 3 29]), (28, [o0 (.lload_n 0) 1]), (29, [o0 .lreturn 1])], [], 2)
theorem mk_81 : mj_ckM mj_TY mp_0 prog_14_method_71_code 2 (some .long) mt_81 = true := by decide +kernel
-- UnbeatenHouseModel.over(JJ)J
def mt_82 : mj_C := ([(0, [o0 (.lload_n 2) 1, oW (.lconst 0) 1 0, o0 .lcmp 1, oA (.ifCond .ne 5) 3 8]), (6, [oW (.lconst 0) 1 0, o0 .lreturn 1]), (8, [o0 (.lload_n 0) 1, o0 (.lload_n 2) 1, o0 .ldiv 1, o0 (.lstore 4) 2, o0 (.lload_n 0) 1, o0 (.lload_n 2) 1, o0 .lrem 1, oW (.lconst 0) 1 0, o0 .lcmp 1, oA (.ifCond .eq 35) 3 53]), (21, [o0 (.lload_n 0) 1, oW (.lconst 0) 1 0, o0 .lcmp 1, oA (.ifCond .ge 7) 3 31]), (27, [oV (.iconst 1) 1 1, oA (.goto 4) 3 32]), (31, [oV (.iconst 0) 1 0]), (32, [o0 (.lload_n 2) 1, oW (.lconst 0) 1 0, o0 .lcmp 1, oA (.ifCond .ge 7) 3 42]), (38, [oV (.iconst 1) 1 1, oA (.goto 4) 3 43]), (42, [oV (.iconst 0) 1 0]), (43, [oA (.if_icmp .eq 10) 3 53]), (46, [o0 (.lload 4) 2, oW (.lconst 1) 1 1, o0 .lsub 1, oA (.goto 5) 3 55]), (53, [o0 (.lload 4) 2]), (55, [o0 .lreturn 1])], [], 6)
theorem mk_82 : mj_ckM mj_TY mp_0 prog_14_method_72_code 6 (some .long) mt_82 = true := by decide +kernel
-- UnbeatenHouseModel.isAhead(II)Z
def mt_83 : mj_C := ([(0, [oV (.iconst 0) 1 0, o0 (.istore_n 3) 1]), (2, [o0 (.iload_n 3) 1, o0 (.aload_n 0) 1, oF (.getfield 51) 3 0 13 2, o0 (.aload_n 0) 1, oF (.getfield 48) 3 0 12 0, o0 .iaload 1, oA (.if_icmp .ge 61) 3 73]), (15, [o0 (.aload_n 0) 1, oF (.getfield 163) 3 0 49 2, oV (.iconst 4) 1 4, o0 (.iload_n 1) 1, o0 .imul 1, o0 (.iload_n 3) 1, o0 .iadd 1, o0 .iaload 1, o0 (.aload_n 0) 1, oF (.getfield 163) 3 0 49 2, oV (.iconst 4) 1 4, o0 (.iload_n 2) 1, o0 .imul 1, o0 (.iload_n 3) 1, o0 .iadd 1, o0 .iaload 1, oA (.if_icmp .eq 32) 3 67]), (38, [o0 (.aload_n 0) 1, oF (.getfield 163) 3 0 49 2, oV (.iconst 4) 1 4, o0 (.iload_n 1) 1, o0 .imul 1, o0 (.iload_n 3) 1, o0 .iadd 1, o0 .iaload 1, o0 (.aload_n 0) 1, oF (.getfield 163) 3 0 49 2, oV (.iconst 4) 1 4, o0 (.iload_n 2) 1, o0 .imul 1, o0 (.iload_n 3) 1, o0 .iadd 1, o0 .iaload 1, oA (.if_icmp .ge 7) 3 65]), (61, [oV (.iconst 1) 1 1, oA (.goto 4) 3 66]), (65, [oV (.iconst 0) 1 0]), (66, [oA .ireturn 1 1]), (67, [oV (.iinc 3 1) 3 1, oA (.goto (-68)) 3 2]), (73, [oV (.iconst 0) 1 0, oA .ireturn 1 1])], [(2, [0, 1, 2, 3])], 4)
theorem mk_83 : mj_ckM mj_TY mp_0 prog_14_method_67_code 4 (some .boolean) mt_83 = true := by decide +kernel
-- UnbeatenHouseModel.loss(II)I
def mt_84 : mj_C := ([(0, [o0 (.aload_n 0) 1, o0 (.iload_n 1) 1, oM (.invokevirtual 489) 3 85 2 1 1, oA (.ifCond .eq 24) 3 29]), (8, [o0 (.aload_n 0) 1, o0 (.iload_n 2) 1, oM (.invokevirtual 393) 3 48 2 1 1, oA (.ifCond .eq 16) 3 29]), (16, [o0 (.aload_n 0) 1, oF (.getfield 197) 3 0 60 2, oV (.iconst 4) 1 4, o0 (.iload_n 1) 1, o0 .imul 1, o0 (.iload_n 2) 1, o0 .iadd 1, o0 .iaload 1, oA (.goto 6) 3 32]), (29, [oV (.ldc_w 492) 3 (-2000000000)]), (32, [oA .ireturn 1 0])], [], 3)
theorem mk_84 : mj_ckM mj_TY mp_0 prog_14_method_78_code 3 (some .int) mt_84 = true := by decide +kernel
-- UnbeatenHouseModel.isFront(I)Z
def mt_85 : mj_C := ([(0, [o0 (.iload_n 1) 1, oA (.ifCond .lt 15) 3 16]), (4, [o0 (.iload_n 1) 1, o0 (.aload_n 0) 1, oF (.getfield 191) 3 0 58 0, oA (.if_icmp .ge 7) 3 16]), (12, [oV (.iconst 1) 1 1, oA (.goto 4) 3 17]), (16, [oV (.iconst 0) 1 0]), (17, [oA .ireturn 1 1])], [], 2)
theorem mk_85 : mj_ckM mj_TY mp_0 prog_14_method_77_code 2 (some .boolean) mt_85 = true := by decide +kernel
-- UnbeatenHouseModel.who(I)I
def mt_86 : mj_C := ([(0, [o0 (.aload_n 0) 1, o0 (.iload_n 1) 1, oM (.invokevirtual 489) 3 85 2 1 1, oA (.ifCond .eq 12) 3 17]), (8, [o0 (.aload_n 0) 1, oF (.getfield 200) 3 0 61 2, o0 (.iload_n 1) 1, o0 .iaload 1, oA (.goto 4) 3 18]), (17, [oV (.iconst (-1)) 1 (-1)]), (18, [oA .ireturn 1 0])], [], 2)
theorem mk_86 : mj_ckM mj_TY mp_0 prog_14_method_79_code 2 (some .int) mt_86 = true := by decide +kernel
-- UnbeatenHouseModel.knot(II)I
def mt_87 : mj_C := ([(0, [o0 (.aload_n 0) 1, o0 (.iload_n 1) 1, oM (.invokevirtual 489) 3 85 2 1 1, oA (.ifCond .eq 39) 3 44]), (8, [o0 (.aload_n 0) 1, oF (.getfield 194) 3 0 59 0, oV (.iconst 1) 1 1, oA (.if_icmp .ne 31) 3 44]), (16, [o0 (.iload_n 2) 1, oA (.ifCond .lt 27) 3 44]), (20, [o0 (.iload_n 2) 1, o0 (.aload_n 0) 1, oF (.getfield 200) 3 0 61 2, o0 (.iload_n 1) 1, o0 .iaload 1, oA (.if_icmp .ge 17) 3 44]), (30, [o0 (.aload_n 0) 1, oF (.getfield 203) 3 0 62 2, oV (.bipush 10) 2 10, o0 (.iload_n 1) 1, o0 .imul 1, o0 (.iload_n 2) 1, o0 .iadd 1, o0 .iaload 1, oA (.goto 4) 3 45]), (44, [oV (.iconst (-1)) 1 (-1)]), (45, [oA .ireturn 1 0])], [], 3)
theorem mk_87 : mj_ckM mj_TY mp_0 prog_14_method_80_code 3 (some .int) mt_87 = true := by decide +kernel
-- UnbeatenHouseModel.grid(I)Z
def mt_88 : mj_C := ([(0, [o0 (.iload_n 1) 1, oV (.iconst 1) 1 1, oV (.bipush 12) 2 12, oM (.invokestatic 403) 3 49 3 1 0, oA (.ifCond .ne 5) 3 12]), (10, [oV (.iconst 0) 1 0, oA .ireturn 1 1]), (12, [o0 (.aload_n 0) 1, o0 (.iload_n 1) 1, oF (.putfield 206) 3 0 63 0, oV (.iconst 1) 1 1, oA .ireturn 1 1])], [], 2)
theorem mk_88 : mj_ckM mj_TY mp_0 prog_14_method_81_code 2 (some .boolean) mt_88 = true := by decide +kernel
-- UnbeatenHouseModel.corner(I)I
def mt_89 : mj_C := ([(0, [o0 (.aload_n 0) 1, o0 (.iload_n 1) 1, oM (.invokevirtual 489) 3 85 2 1 1, oA (.ifCond .ne 5) 3 10]), (8, [oV (.iconst (-1)) 1 (-1), oA .ireturn 1 0]), (10, [oV (.iconst 0) 1 0, o0 (.istore_n 2) 1, oV (.iconst 0) 1 0, o0 (.istore_n 3) 1]), (14, [o0 (.iload_n 3) 1, o0 (.aload_n 0) 1, oM (.invokevirtual 496) 3 90 1 1 1, oA (.if_icmp .ge 33) 3 52]), (22, [o0 (.iload_n 2) 1, o0 (.aload_n 0) 1, o0 (.iload_n 3) 1, oM (.invokevirtual 499) 3 91 2 1 1, oA (.ifCond .eq 15) 3 43]), (31, [o0 (.aload_n 0) 1, o0 (.iload_n 1) 1, oM (.invokevirtual 502) 3 92 2 1 1, oA (.ifCond .eq 7) 3 43]), (39, [oV (.iconst 1) 1 1, oA (.goto 4) 3 44]), (43, [oV (.iconst 0) 1 0]), (44, [o0 .iadd 1, o0 (.istore_n 2) 1, oV (.iinc 3 1) 3 1, oA (.goto (-35)) 3 14]), (52, [o0 (.iload_n 2) 1, oA .ireturn 1 0])], [(14, [0, 1, 2, 3])], 4)
theorem mk_89 : mj_ckM mj_TY mp_0 prog_14_method_86_code 4 (some .int) mt_89 = true := by decide +kernel
-- UnbeatenHouseModel.numbers()I
def mt_90 : mj_C := ([(0, [oV (.iconst 1) 1 1, o0 (.istore_n 1) 1, oV (.iconst 1) 1 1, o0 (.istore_n 2) 1]), (4, [o0 (.iload_n 2) 1, o0 (.aload_n 0) 1, oF (.getfield 51) 3 0 13 2, o0 (.aload_n 0) 1, oF (.getfield 48) 3 0 12 0, o0 .iaload 1, oA (.if_icmp .ge 18) 3 32]), (17, [o0 (.iload_n 1) 1, o0 (.aload_n 0) 1, oF (.getfield 206) 3 0 63 0, oV (.iconst 1) 1 1, o0 .iadd 1, o0 .imul 1, o0 (.istore_n 1) 1, oV (.iinc 2 1) 3 1, oA (.goto (-25)) 3 4]), (32, [o0 (.aload_n 0) 1, oF (.getfield 51) 3 0 13 2, o0 (.aload_n 0) 1, oF (.getfield 48) 3 0 12 0, o0 .iaload 1, oA (.ifCond .ne 7) 3 48]), (44, [oV (.iconst 0) 1 0, oA (.goto 4) 3 49]), (48, [o0 (.iload_n 1) 1]), (49, [oA .ireturn 1 0])], [(4, [0, 1, 2])], 3)
theorem mk_90 : mj_ckM mj_TY mp_0 prog_14_method_82_code 3 (some .int) mt_90 = true := by decide +kernel
-- UnbeatenHouseModel.isWeighing(I)Z
def mt_91 : mj_C := ([(0, [o0 (.iload_n 1) 1, o0 (.istore_n 2) 1, o0 (.aload_n 0) 1, oF (.getfield 206) 3 0 63 0, o0 (.istore_n 3) 1, o0 (.aload_n 0) 1, oF (.getfield 51) 3 0 13 2, o0 (.aload_n 0) 1, oF (.getfield 48) 3 0 12 0, o0 .iaload 1, oV (.iconst 2) 1 2, o0 .isub 1, o0 (.istore 4) 2]), (20, [o0 (.iload 4) 2, oA (.ifCond .lt 43) 3 65]), (25, [o0 (.aload_n 0) 1, oF (.getfield 209) 3 0 64 2, o0 (.iload 4) 2, o0 (.iload_n 2) 1, o0 (.aload_n 0) 1, oF (.getfield 206) 3 0 63 0, oV (.iconst 1) 1 1, o0 .iadd 1, o0 .irem 1, o0 .iastore 1, o0 (.iload_n 3) 1, o0 (.aload_n 0) 1, oF (.getfield 209) 3 0 64 2, o0 (.iload 4) 2, o0 .iaload 1, o0 .isub 1, o0 (.istore_n 3) 1, o0 (.iload_n 2) 1, o0 (.aload_n 0) 1, oF (.getfield 206) 3 0 63 0, oV (.iconst 1) 1 1, o0 .iadd 1, o0 .idiv 1, o0 (.istore_n 2) 1, oV (.iinc 4 (-1)) 3 (-1), oA (.goto (-42)) 3 20]), (65, [o0 (.aload_n 0) 1, oF (.getfield 209) 3 0 64 2, o0 (.aload_n 0) 1, oF (.getfield 51) 3 0 13 2, o0 (.aload_n 0) 1, oF (.getfield 48) 3 0 12 0, o0 .iaload 1, oV (.iconst 1) 1 1, o0 .isub 1, o0 (.iload_n 3) 1, o0 .iastore 1, o0 (.iload_n 3) 1, oA (.ifCond .lt 7) 3 90]), (86, [oV (.iconst 1) 1 1, oA (.goto 4) 3 91]), (90, [oV (.iconst 0) 1 0]), (91, [oA .ireturn 1 1])], [(20, [0, 2, 3, 4])], 5)
theorem mk_91 : mj_ckM mj_TY mp_0 prog_14_method_83_code 5 (some .boolean) mt_91 = true := by decide +kernel
-- UnbeatenHouseModel.isFirst(I)Z
def mt_92 : mj_C := ([(0, [oV (.iconst 0) 1 0, o0 (.istore_n 2) 1]), (2, [o0 (.iload_n 2) 1, o0 (.aload_n 0) 1, oF (.getfield 191) 3 0 58 0, oA (.if_icmp .ge 24) 3 31]), (10, [o0 (.aload_n 0) 1, o0 (.iload_n 2) 1, oM (.invokevirtual 493) 3 93 2 1 1, o0 (.aload_n 0) 1, o0 (.iload_n 1) 1, oM (.invokevirtual 493) 3 93 2 1 1, oA (.if_icmp .ge 5) 3 25]), (23, [oV (.iconst 0) 1 0, oA .ireturn 1 1]), (25, [oV (.iinc 2 1) 3 1, oA (.goto (-26)) 3 2]), (31, [oV (.iconst 1) 1 1, oA .ireturn 1 1])], [(2, [0, 1, 2])], 3)
theorem mk_92 : mj_ckM mj_TY mp_0 prog_14_method_85_code 3 (some .boolean) mt_92 = true := by decide +kernel
-- UnbeatenHouseModel.worth(I)I
def mt_93 : mj_C := ([(0, [oV (.iconst 0) 1 0, o0 (.istore_n 2) 1, oV (.iconst 0) 1 0, o0 (.istore_n 3) 1]), (4, [o0 (.iload_n 3) 1, o0 (.aload_n 0) 1, oF (.getfield 51) 3 0 13 2, o0 (.aload_n 0) 1, oF (.getfield 48) 3 0 12 0, o0 .iaload 1, oA (.if_icmp .ge 29) 3 43]), (17, [o0 (.iload_n 2) 1, o0 (.aload_n 0) 1, oF (.getfield 209) 3 0 64 2, o0 (.iload_n 3) 1, o0 .iaload 1, o0 (.aload_n 0) 1, oF (.getfield 197) 3 0 60 2, oV (.iconst 4) 1 4, o0 (.iload_n 1) 1, o0 .imul 1, o0 (.iload_n 3) 1, o0 .iadd 1, o0 .iaload 1, o0 .imul 1, o0 .iadd 1, o0 (.istore_n 2) 1, oV (.iinc 3 1) 3 1, oA (.goto (-36)) 3 4]), (43, [o0 (.iload_n 2) 1, oA .ireturn 1 0])], [(4, [0, 1, 2, 3])], 4)
theorem mk_93 : mj_ckM mj_TY mp_0 prog_14_method_84_code 4 (some .int) mt_93 = true := by decide +kernel
-- UnbeatenHouseModel.weight(II)I
def mt_94 : mj_C := ([(0, [o0 (.aload_n 0) 1, o0 (.iload_n 1) 1, oM (.invokevirtual 489) 3 85 2 1 1, oA (.ifCond .eq 11) 3 16]), (8, [o0 (.aload_n 0) 1, o0 (.iload_n 2) 1, oM (.invokevirtual 393) 3 48 2 1 1, oA (.ifCond .ne 5) 3 18]), (16, [oV (.iconst (-1)) 1 (-1), oA .ireturn 1 0]), (18, [oV (.iconst 0) 1 0, o0 (.istore_n 3) 1]), (20, [o0 (.iload_n 3) 1, o0 (.aload_n 0) 1, oM (.invokevirtual 496) 3 90 1 1 1, oA (.if_icmp .ge 32) 3 57]), (28, [o0 (.aload_n 0) 1, o0 (.iload_n 3) 1, oM (.invokevirtual 499) 3 91 2 1 1, oA (.ifCond .eq 18) 3 51]), (36, [o0 (.aload_n 0) 1, o0 (.iload_n 1) 1, oM (.invokevirtual 502) 3 92 2 1 1, oA (.ifCond .eq 10) 3 51]), (44, [o0 (.aload_n 0) 1, oF (.getfield 209) 3 0 64 2, o0 (.iload_n 2) 1, o0 .iaload 1, oA .ireturn 1 0]), (51, [oV (.iinc 3 1) 3 1, oA (.goto (-34)) 3 20]), (57, [oV (.iconst (-1)) 1 (-1), oA .ireturn 1 0])], [(20, [0, 1, 2, 3])], 4)
theorem mk_94 : mj_ckM mj_TY mp_0 prog_14_method_87_code 4 (some .int) mt_94 = true := by decide +kernel
-- UnbeatenHouseModel.near(I)I
def mt_95 : mj_C := ([(0, [o0 (.iload_n 1) 1, oV (.iconst 0) 1 0, oV (.sipush 9999) 3 9999, oM (.invokestatic 403) 3 49 3 1 0, oA (.ifCond .eq 20) 3 28]), (11, [o0 (.aload_n 0) 1, oF (.getfield 191) 3 0 58 0, oV (.iconst (-1)) 1 (-1), oA (.if_icmp .eq 12) 3 28]), (19, [o0 (.aload_n 0) 1, oF (.getfield 191) 3 0 58 0, oV (.bipush 16) 2 16, oA (.if_icmp .le 5) 3 30]), (28, [oV (.iconst (-1)) 1 (-1), oA .ireturn 1 0]), (30, [oV (.iconst 0) 1 0, o0 (.istore_n 2) 1]), (32, [o0 (.iload_n 2) 1, o0 (.aload_n 0) 1, oF (.getfield 191) 3 0 58 0, oA (.if_icmp .gt 86) 3 123]), (40, [oV (.iconst 0) 1 0, o0 (.istore_n 3) 1]), (42, [o0 (.iload_n 3) 1, o0 (.iload_n 2) 1, oA (.if_icmp .ge 16) 3 60]), (47, [o0 (.aload_n 0) 1, oF (.getfield 218) 3 0 67 2, o0 (.iload_n 3) 1, o0 (.iload_n 3) 1, o0 .iastore 1, oV (.iinc 3 1) 3 1, oA (.goto (-15)) 3 42]), (60, [oV (.iconst 1) 1 1, o0 (.istore_n 3) 1]), (62, [o0 (.iload_n 3) 1, oA (.ifCond .eq 54) 3 117]), (66, [o0 (.iload_n 2) 1, oA (.ifCond .le 15) 3 82]), (70, [o0 (.aload_n 0) 1, o0 (.iload_n 2) 1, oM (.invokevirtual 508) 3 96 2 1 1, o0 (.iload_n 1) 1, oA (.if_icmp .gt 20) 3 96]), (79, [oA (.goto 10) 3 89]), (82, [o0 (.aload_n 0) 1, oF (.getfield 191) 3 0 58 0, oA (.ifCond .ne 10) 3 96]), (89, [o0 (.aload_n 0) 1, o0 (.iload_n 2) 1, oM (.invokevirtual 511) 3 98 2 0 1, o0 (.iload_n 2) 1, oA .ireturn 1 0]), (96, [o0 (.iload_n 2) 1, oA (.ifCond .le 15) 3 112]), (100, [o0 (.aload_n 0) 1, o0 (.iload_n 2) 1, oM (.invokevirtual 514) 3 99 2 1 1, oA (.ifCond .eq 7) 3 112]), (108, [oV (.iconst 1) 1 1, oA (.goto 4) 3 113]), (112, [oV (.iconst 0) 1 0]), (113, [o0 (.istore_n 3) 1, oA (.goto (-52)) 3 62]), (117, [oV (.iinc 2 1) 3 1, oA (.goto (-88)) 3 32]), (123, [oV (.iconst (-1)) 1 (-1), oA .ireturn 1 0])], [(32, [0, 1, 2]), (42, [0, 1, 2, 3]), (62, [0, 1, 2, 3]), (96, [0, 1, 2])], 4)
theorem mk_95 : mj_ckM mj_TY mp_0 prog_14_method_92_code 4 (some .int) mt_95 = true := by decide +kernel
-- UnbeatenHouseModel.apart(I)I
def mt_96 : mj_C := ([(0, [oV (.iconst 0) 1 0, o0 (.istore_n 2) 1, oV (.iconst 0) 1 0, o0 (.istore_n 3) 1]), (4, [o0 (.iload_n 3) 1, o0 (.aload_n 0) 1, oF (.getfield 191) 3 0 58 0, oA (.if_icmp .ge 82) 3 91]), (12, [oV (.iconst (-1)) 1 (-1), o0 (.istore 4) 2, oV (.iconst 0) 1 0, o0 (.istore 5) 2]), (18, [o0 (.iload 5) 2, o0 (.iload_n 1) 1, oA (.if_icmp .ge 51) 3 72]), (24, [o0 (.iload 4) 2, oV (.iconst (-1)) 1 (-1), oA (.if_icmp .eq 20) 3 47]), (30, [o0 (.aload_n 0) 1, o0 (.aload_n 0) 1, oF (.getfield 218) 3 0 67 2, o0 (.iload 5) 2, o0 .iaload 1, o0 (.iload_n 3) 1, oM (.invokevirtual 505) 3 97 3 1 1, o0 (.iload 4) 2, oA (.if_icmp .ge 18) 3 62]), (47, [o0 (.aload_n 0) 1, o0 (.aload_n 0) 1, oF (.getfield 218) 3 0 67 2, o0 (.iload 5) 2, o0 .iaload 1, o0 (.iload_n 3) 1, oM (.invokevirtual 505) 3 97 3 1 1, oA (.goto 5) 3 64]), (62, [o0 (.iload 4) 2]), (64, [o0 (.istore 4) 2, oV (.iinc 5 1) 3 1, oA (.goto (-51)) 3 18]), (72, [o0 (.iload 4) 2, o0 (.iload_n 2) 1, oA (.if_icmp .le 8) 3 83]), (78, [o0 (.iload 4) 2, oA (.goto 4) 3 84]), (83, [o0 (.iload_n 2) 1]), (84, [o0 (.istore_n 2) 1, oV (.iinc 3 1) 3 1, oA (.goto (-84)) 3 4]), (91, [o0 (.iload_n 2) 1, oA .ireturn 1 0])], [(4, [0, 1, 2, 3]), (18, [0, 1, 2, 3, 4, 5]), (47, [0, 1, 2, 3, 5])], 6)
theorem mk_96 : mj_ckM mj_TY mp_0 prog_14_method_89_code 6 (some .int) mt_96 = true := by decide +kernel
-- UnbeatenHouseModel.more(II)I
def mt_97 : mj_C := ([(0, [oV (.iconst 0) 1 0, o0 (.istore_n 3) 1, oV (.iconst 0) 1 0, o0 (.istore 4) 2]), (5, [o0 (.iload 4) 2, o0 (.aload_n 0) 1, oF (.getfield 51) 3 0 13 2, o0 (.aload_n 0) 1, oF (.getfield 48) 3 0 12 0, o0 .iaload 1, oA (.if_icmp .ge 64) 3 80]), (19, [o0 (.aload_n 0) 1, oF (.getfield 197) 3 0 60 2, oV (.iconst 4) 1 4, o0 (.iload_n 1) 1, o0 .imul 1, o0 (.iload 4) 2, o0 .iadd 1, o0 .iaload 1, o0 (.aload_n 0) 1, oF (.getfield 197) 3 0 60 2, oV (.iconst 4) 1 4, o0 (.iload_n 2) 1, o0 .imul 1, o0 (.iload 4) 2, o0 .iadd 1, o0 .iaload 1, o0 .isub 1, o0 (.iload_n 3) 1, oA (.if_icmp .le 29) 3 72]), (46, [o0 (.aload_n 0) 1, oF (.getfield 197) 3 0 60 2, oV (.iconst 4) 1 4, o0 (.iload_n 1) 1, o0 .imul 1, o0 (.iload 4) 2, o0 .iadd 1, o0 .iaload 1, o0 (.aload_n 0) 1, oF (.getfield 197) 3 0 60 2, oV (.iconst 4) 1 4, o0 (.iload_n 2) 1, o0 .imul 1, o0 (.iload 4) 2, o0 .iadd 1, o0 .iaload 1, o0 .isub 1, oA (.goto 4) 3 73]), (72, [o0 (.iload_n 3) 1]), (73, [o0 (.istore_n 3) 1, oV (.iinc 4 1) 3 1, oA (.goto (-72)) 3 5]), (80, [o0 (.iload_n 3) 1, oA .ireturn 1 0])], [(5, [0, 1, 2, 3, 4])], 5)
theorem mk_97 : mj_ckM mj_TY mp_0 prog_14_method_88_code 5 (some .int) mt_97 = true := by decide +kernel
-- UnbeatenHouseModel.keeps(I)V
def mt_98 : mj_C := ([(0, [o0 (.aload_n 0) 1, o0 (.iload_n 1) 1, oF (.putfield 212) 3 0 65 0, oV (.iconst 0) 1 0, o0 (.istore_n 2) 1]), (7, [o0 (.iload_n 2) 1, o0 (.iload_n 1) 1, oA (.if_icmp .ge 21) 3 30]), (12, [o0 (.aload_n 0) 1, oF (.getfield 215) 3 0 66 2, o0 (.iload_n 2) 1, o0 (.aload_n 0) 1, oF (.getfield 218) 3 0 67 2, o0 (.iload_n 2) 1, o0 .iaload 1, o0 .iastore 1, oV (.iinc 2 1) 3 1, oA (.goto (-20)) 3 7]), (30, [o0 .return_ 1])], [(7, [0, 1, 2])], 3)
theorem mk_98 : mj_ckM mj_TY mp_0 prog_14_method_91_code 3 none mt_98 = true := by decide +kernel
-- UnbeatenHouseModel.nextPick(I)Z
def mt_99 : mj_C := ([(0, [o0 (.iload_n 1) 1, oV (.iconst 1) 1 1, o0 .isub 1, o0 (.istore_n 2) 1]), (4, [o0 (.iload_n 2) 1, oA (.ifCond .lt 26) 3 31]), (8, [o0 (.aload_n 0) 1, oF (.getfield 218) 3 0 67 2, o0 (.iload_n 2) 1, o0 .iaload 1, o0 (.aload_n 0) 1, oF (.getfield 191) 3 0 58 0, o0 (.iload_n 1) 1, o0 .isub 1, o0 (.iload_n 2) 1, o0 .iadd 1, oA (.if_icmp .ne 9) 3 31]), (25, [oV (.iinc 2 (-1)) 3 (-1), oA (.goto (-24)) 3 4]), (31, [o0 (.iload_n 2) 1, oA (.ifCond .ge 5) 3 37]), (35, [oV (.iconst 0) 1 0, oA .ireturn 1 1]), (37, [o0 (.aload_n 0) 1, oF (.getfield 218) 3 0 67 2, o0 (.iload_n 2) 1, o0 .dup2 1, o0 .iaload 1, oV (.iconst 1) 1 1, o0 .iadd 1, o0 .iastore 1, o0 (.iload_n 2) 1, oV (.iconst 1) 1 1, o0 .iadd 1, o0 (.istore_n 3) 1]), (51, [o0 (.iload_n 3) 1, o0 (.iload_n 1) 1, oA (.if_icmp .ge 25) 3 78]), (56, [o0 (.aload_n 0) 1, oF (.getfield 218) 3 0 67 2, o0 (.iload_n 3) 1, o0 (.aload_n 0) 1, oF (.getfield 218) 3 0 67 2, o0 (.iload_n 3) 1, oV (.iconst 1) 1 1, o0 .isub 1, o0 .iaload 1, oV (.iconst 1) 1 1, o0 .iadd 1, o0 .iastore 1, oV (.iinc 3 1) 3 1, oA (.goto (-24)) 3 51]), (78, [oV (.iconst 1) 1 1, oA .ireturn 1 1])], [(4, [0, 1, 2]), (31, [0, 1, 2]), (51, [0, 1, 3])], 4)
theorem mk_99 : mj_ckM mj_TY mp_0 prog_14_method_90_code 4 (some .boolean) mt_99 = true := by decide +kernel
-- UnbeatenHouseModel.standIns(I)I
def mt_100 : mj_C := ([(0, [o0 (.iload_n 1) 1, oV (.iconst 1) 1 1, oV (.iconst 4) 1 4, oM (.invokestatic 403) 3 49 3 1 0, oA (.ifCond .eq 20) 3 26]), (9, [o0 (.iload_n 1) 1, o0 (.aload_n 0) 1, oF (.getfield 191) 3 0 58 0, oA (.if_icmp .gt 12) 3 26]), (17, [o0 (.aload_n 0) 1, oF (.getfield 191) 3 0 58 0, oV (.bipush 24) 2 24, oA (.if_icmp .le 5) 3 28]), (26, [oV (.iconst (-1)) 1 (-1), oA .ireturn 1 0]), (28, [oV (.iconst 0) 1 0, o0 (.istore_n 2) 1]), (30, [o0 (.iload_n 2) 1, o0 (.iload_n 1) 1, oA (.if_icmp .ge 16) 3 48]), (35, [o0 (.aload_n 0) 1, oF (.getfield 218) 3 0 67 2, o0 (.iload_n 2) 1, o0 (.iload_n 2) 1, o0 .iastore 1, oV (.iinc 2 1) 3 1, oA (.goto (-15)) 3 30]), (48, [oV (.iconst (-1)) 1 (-1), o0 (.istore_n 2) 1, oV (.iconst 1) 1 1, o0 (.istore_n 3) 1]), (52, [o0 (.iload_n 3) 1, oA (.ifCond .eq 38) 3 91]), (56, [o0 (.aload_n 0) 1, o0 (.iload_n 1) 1, oM (.invokevirtual 508) 3 96 2 1 1, o0 (.istore 4) 2, o0 (.iload_n 2) 1, oV (.iconst (-1)) 1 (-1), oA (.if_icmp .eq 9) 3 74]), (68, [o0 (.iload 4) 2, o0 (.iload_n 2) 1, oA (.if_icmp .ge 11) 3 82]), (74, [o0 (.iload 4) 2, o0 (.istore_n 2) 1, o0 (.aload_n 0) 1, o0 (.iload_n 1) 1, oM (.invokevirtual 511) 3 98 2 0 1]), (82, [o0 (.aload_n 0) 1, o0 (.iload_n 1) 1, oM (.invokevirtual 514) 3 99 2 1 1, o0 (.istore_n 3) 1, oA (.goto (-36)) 3 52]), (91, [o0 (.iload_n 2) 1, oA .ireturn 1 0])], [(30, [0, 1, 2]), (52, [0, 1, 2, 3]), (74, [0, 1, 4])], 5)
theorem mk_100 : mj_ckM mj_TY mp_0 prog_14_method_93_code 5 (some .int) mt_100 = true := by decide +kernel
-- UnbeatenHouseModel.kept(I)I
def mt_101 : mj_C := ([(0, [o0 (.iload_n 1) 1, oA (.ifCond .lt 20) 3 21]), (4, [o0 (.iload_n 1) 1, o0 (.aload_n 0) 1, oF (.getfield 212) 3 0 65 0, oA (.if_icmp .ge 12) 3 21]), (12, [o0 (.aload_n 0) 1, oF (.getfield 215) 3 0 66 2, o0 (.iload_n 1) 1, o0 .iaload 1, oA (.goto 4) 3 22]), (21, [oV (.iconst (-1)) 1 (-1)]), (22, [oA .ireturn 1 0])], [], 2)
theorem mk_101 : mj_ckM mj_TY mp_0 prog_14_method_94_code 2 (some .int) mt_101 = true := by decide +kernel
-- UnbeatenHouseModel.cost(IIIZ)I
def mt_102 : mj_C := ([(0, [o0 (.aload_n 0) 1, o0 (.iload_n 1) 1, oM (.invokevirtual 489) 3 85 2 1 1, oA (.ifCond .eq 24) 3 29]), (8, [o0 (.aload_n 0) 1, o0 (.iload_n 2) 1, oM (.invokevirtual 393) 3 48 2 1 1, oA (.ifCond .eq 16) 3 29]), (16, [o0 (.aload_n 0) 1, o0 (.iload_n 3) 1, oM (.invokevirtual 393) 3 48 2 1 1, oA (.ifCond .eq 8) 3 29]), (24, [o0 (.iload_n 2) 1, o0 (.iload_n 3) 1, oA (.if_icmp .ne 5) 3 31]), (29, [oV (.iconst (-1)) 1 (-1), oA .ireturn 1 0]), (31, [oV (.iconst (-1)) 1 (-1), o0 (.istore 5) 2, oV (.iconst 1) 1 1, o0 (.istore 6) 2, oV (.iconst 0) 1 0, o0 (.istore 7) 2]), (40, [o0 (.iload 7) 2, o0 (.aload_n 0) 1, oF (.getfield 191) 3 0 58 0, oA (.if_icmp .ge 105) 3 151]), (49, [o0 (.aload_n 0) 1, oF (.getfield 197) 3 0 60 2, oV (.iconst 4) 1 4, o0 (.iload_n 1) 1, o0 .imul 1, o0 (.iload_n 2) 1, o0 .iadd 1, o0 .iaload 1, o0 (.aload_n 0) 1, oF (.getfield 197) 3 0 60 2, oV (.iconst 4) 1 4, o0 (.iload 7) 2, o0 .imul 1, o0 (.iload_n 2) 1, o0 .iadd 1, o0 .iaload 1, o0 .isub 1, o0 (.istore 8) 2, o0 (.aload_n 0) 1, oF (.getfield 197) 3 0 60 2, oV (.iconst 4) 1 4, o0 (.iload 7) 2, o0 .imul 1, o0 (.iload_n 3) 1, o0 .iadd 1, o0 .iaload 1, o0 (.aload_n 0) 1, oF (.getfield 197) 3 0 60 2, oV (.iconst 4) 1 4, o0 (.iload_n 1) 1, o0 .imul 1, o0 (.iload_n 3) 1, o0 .iadd 1, o0 .iaload 1, o0 .isub 1, o0 (.istore 9) 2, o0 (.iload 8) 2, oA (.ifCond .le 46) 3 145]), (102, [o0 (.iload 9) 2, oA (.ifCond .gt 6) 3 110]), (107, [oA (.goto 38) 3 145]), (110, [o0 (.iload 5) 2, oV (.iconst (-1)) 1 (-1), oA (.if_icmp .eq 24) 3 137]), (116, [o0 (.iload 9) 2, o0 .i2l 1, o0 (.iload 6) 2, o0 .i2l 1, o0 .lmul 1, o0 (.iload 5) 2, o0 .i2l 1, o0 (.iload 8) 2, o0 .i2l 1, o0 .lmul 1, o0 .lcmp 1, oA (.ifCond .lt 6) 3 137]), (134, [oA (.goto 11) 3 145]), (137, [o0 (.iload 9) 2, o0 (.istore 5) 2, o0 (.iload 8) 2, o0 (.istore 6) 2]), (145, [oV (.iinc 7 1) 3 1, oA (.goto (-108)) 3 40]), (151, [o0 (.iload 5) 2, oV (.iconst (-1)) 1 (-1), oA (.if_icmp .ne 5) 3 159]), (157, [oV (.iconst (-1)) 1 (-1), oA .ireturn 1 0]), (159, [o0 (.iload 5) 2, o0 (.iload 6) 2, oM (.invokestatic 517) 3 103 2 1 0, o0 (.istore 7) 2, o0 (.iload 4) 2, oA (.ifCond .eq 11) 3 181]), (173, [o0 (.iload 5) 2, o0 (.iload 7) 2, o0 .idiv 1, oA (.goto 8) 3 186]), (181, [o0 (.iload 6) 2, o0 (.iload 7) 2, o0 .idiv 1]), (186, [oA .ireturn 1 0])], [(40, [0, 1, 2, 3, 4, 5, 6, 7])], 10)
theorem mk_102 : mj_ckM mj_TY mp_0 prog_14_method_96_code 10 (some .int) mt_102 = true := by decide +kernel
-- UnbeatenHouseModel.common(II)I
def mt_103 : mj_C := ([(0, [o0 (.iload_n 0) 1, o0 (.istore_n 2) 1, o0 (.iload_n 1) 1, o0 (.istore_n 3) 1]), (4, [o0 (.iload_n 3) 1, oA (.ifCond .le 16) 3 21]), (8, [o0 (.iload_n 2) 1, o0 (.iload_n 3) 1, o0 .irem 1, o0 (.istore 4) 2, o0 (.iload_n 3) 1, o0 (.istore_n 2) 1, o0 (.iload 4) 2, o0 (.istore_n 3) 1, oA (.goto (-14)) 3 4]), (21, [o0 (.iload_n 2) 1, oA .ireturn 1 0])], [(4, [2, 3])], 5)
theorem mk_103 : mj_ckM mj_TY mp_0 prog_14_method_95_code 5 (some .int) mt_103 = true := by decide +kernel
-- UnbeatenHouseModel.hole(I)I
def mt_104 : mj_C := ([(0, [o0 (.aload_n 0) 1, oF (.getfield 191) 3 0 58 0, oV (.iconst (-1)) 1 (-1), oA (.if_icmp .eq 11) 3 16]), (8, [o0 (.aload_n 0) 1, o0 (.iload_n 1) 1, oM (.invokevirtual 393) 3 48 2 1 1, oA (.ifCond .ne 5) 3 18]), (16, [oV (.iconst (-1)) 1 (-1), oA .ireturn 1 0]), (18, [oV (.iconst 0) 1 0, o0 (.istore_n 2) 1, oV (.iconst 0) 1 0, o0 (.istore_n 3) 1]), (22, [o0 (.iload_n 3) 1, o0 (.aload_n 0) 1, oF (.getfield 191) 3 0 58 0, oA (.if_icmp .ge 94) 3 121]), (30, [oV (.iconst (-1)) 1 (-1), o0 (.istore 4) 2, oV (.iconst 0) 1 0, o0 (.istore 5) 2]), (36, [o0 (.iload 5) 2, o0 (.aload_n 0) 1, oF (.getfield 191) 3 0 58 0, oA (.if_icmp .ge 60) 3 102]), (45, [o0 (.aload_n 0) 1, oF (.getfield 197) 3 0 60 2, oV (.iconst 4) 1 4, o0 (.iload 5) 2, o0 .imul 1, o0 (.iload_n 1) 1, o0 .iadd 1, o0 .iaload 1, o0 (.aload_n 0) 1, oF (.getfield 197) 3 0 60 2, oV (.iconst 4) 1 4, o0 (.iload_n 3) 1, o0 .imul 1, o0 (.iload_n 1) 1, o0 .iadd 1, o0 .iaload 1, o0 .isub 1, o0 (.istore 6) 2, o0 (.iload 6) 2, oA (.ifCond .le 21) 3 92]), (74, [o0 (.iload 4) 2, oV (.iconst (-1)) 1 (-1), oA (.if_icmp .eq 10) 3 87]), (80, [o0 (.iload 6) 2, o0 (.iload 4) 2, oA (.if_icmp .ge 8) 3 92]), (87, [o0 (.iload 6) 2, oA (.goto 5) 3 94]), (92, [o0 (.iload 4) 2]), (94, [o0 (.istore 4) 2, oV (.iinc 5 1) 3 1, oA (.goto (-63)) 3 36]), (102, [o0 (.iload 4) 2, o0 (.iload_n 2) 1, oA (.if_icmp .le 8) 3 113]), (108, [o0 (.iload 4) 2, oA (.goto 4) 3 114]), (113, [o0 (.iload_n 2) 1]), (114, [o0 (.istore_n 2) 1, oV (.iinc 3 1) 3 1, oA (.goto (-96)) 3 22]), (121, [o0 (.iload_n 2) 1, oA .ireturn 1 0])], [(22, [0, 1, 2, 3]), (36, [0, 1, 2, 3, 4, 5])], 7)
theorem mk_104 : mj_ckM mj_TY mp_0 prog_14_method_97_code 7 (some .int) mt_104 = true := by decide +kernel
-- UnbeatenHouseModel.rather(II)I
def mt_105 : mj_C := ([(0, [o0 (.aload_n 0) 1, o0 (.iload_n 1) 1, oM (.invokevirtual 400) 3 51 2 1 1, oA (.ifCond .eq 41) 3 46]), (8, [o0 (.aload_n 0) 1, o0 (.iload_n 2) 1, oM (.invokevirtual 400) 3 51 2 1 1, oA (.ifCond .eq 33) 3 46]), (16, [o0 (.iload_n 1) 1, o0 (.iload_n 2) 1, oA (.if_icmp .eq 28) 3 46]), (21, [o0 (.aload_n 0) 1, o0 (.iload_n 1) 1, oM (.invokevirtual 414) 3 56 2 1 1, oA (.ifCond .ne 20) 3 46]), (29, [o0 (.aload_n 0) 1, o0 (.iload_n 2) 1, oM (.invokevirtual 414) 3 56 2 1 1, oA (.ifCond .ne 12) 3 46]), (37, [o0 (.aload_n 0) 1, oF (.getfield 221) 3 0 68 0, oV (.bipush 12) 2 12, oA (.if_icmp .ne 5) 3 48]), (46, [oV (.iconst (-1)) 1 (-1), oA .ireturn 1 0]), (48, [o0 (.aload_n 0) 1, oF (.getfield 224) 3 0 69 2, o0 (.aload_n 0) 1, oF (.getfield 221) 3 0 68 0, o0 (.iload_n 1) 1, o0 .iastore 1, o0 (.aload_n 0) 1, oF (.getfield 227) 3 0 70 2, o0 (.aload_n 0) 1, oF (.getfield 221) 3 0 68 0, o0 (.iload_n 2) 1, o0 .iastore 1, o0 (.aload_n 0) 1, o0 .dup 1, oF (.getfield 221) 3 0 68 0, oV (.iconst 1) 1 1, o0 .iadd 1, oF (.putfield 221) 3 0 68 0, o0 (.aload_n 0) 1, oF (.getfield 221) 3 0 68 0, oA .ireturn 1 0])], [], 3)
theorem mk_105 : mj_ckM mj_TY mp_0 prog_14_method_99_code 3 (some .int) mt_105 = true := by decide +kernel
-- UnbeatenHouseModel.unsay()I
def mt_106 : mj_C := ([(0, [o0 (.aload_n 0) 1, oF (.getfield 221) 3 0 68 0, oA (.ifCond .ne 5) 3 9]), (7, [oV (.iconst (-1)) 1 (-1), oA .ireturn 1 0]), (9, [o0 (.aload_n 0) 1, o0 .dup 1, oF (.getfield 221) 3 0 68 0, oV (.iconst 1) 1 1, o0 .isub 1, oF (.putfield 221) 3 0 68 0, o0 (.aload_n 0) 1, oF (.getfield 221) 3 0 68 0, oA .ireturn 1 0])], [], 1)
theorem mk_106 : mj_ckM mj_TY mp_0 prog_14_method_100_code 1 (some .int) mt_106 = true := by decide +kernel
-- UnbeatenHouseModel.agree()I
def mt_107 : mj_C := ([(0, [o0 (.aload_n 0) 1, oF (.getfield 51) 3 0 13 2, o0 (.aload_n 0) 1, oF (.getfield 48) 3 0 12 0, o0 .iaload 1, oA (.ifCond .ne 5) 3 14]), (12, [oV (.iconst (-1)) 1 (-1), oA .ireturn 1 0]), (14, [oV (.iconst 0) 1 0, o0 (.istore_n 1) 1, oV (.iconst 0) 1 0, o0 (.istore_n 2) 1]), (18, [o0 (.iload_n 2) 1, o0 (.aload_n 0) 1, oM (.invokevirtual 496) 3 90 1 1 1, oA (.if_icmp .ge 32) 3 55]), (26, [o0 (.iload_n 1) 1, o0 (.aload_n 0) 1, o0 (.iload_n 2) 1, oM (.invokevirtual 499) 3 91 2 1 1, oA (.ifCond .eq 14) 3 46]), (35, [o0 (.aload_n 0) 1, oM (.invokevirtual 526) 3 108 1 1 1, oA (.ifCond .eq 7) 3 46]), (42, [oV (.iconst 1) 1 1, oA (.goto 4) 3 47]), (46, [oV (.iconst 0) 1 0]), (47, [o0 .iadd 1, o0 (.istore_n 1) 1, oV (.iinc 2 1) 3 1, oA (.goto (-34)) 3 18]), (55, [o0 (.iload_n 1) 1, oA .ireturn 1 0])], [(18, [0, 1, 2])], 3)
theorem mk_107 : mj_ckM mj_TY mp_0 prog_14_method_103_code 3 (some .int) mt_107 = true := by decide +kernel
-- UnbeatenHouseModel.agrees()Z
def mt_108 : mj_C := ([(0, [o0 (.aload_n 0) 1, oM (.invokevirtual 523) 3 109 1 1 1, oV (.iconst 1) 1 1, o0 (.aload_n 0) 1, oF (.getfield 221) 3 0 68 0, o0 .ishl 1, oV (.iconst 1) 1 1, o0 .isub 1, oA (.if_icmp .ne 7) 3 19]), (15, [oV (.iconst 1) 1 1, oA (.goto 4) 3 20]), (19, [oV (.iconst 0) 1 0]), (20, [oA .ireturn 1 1])], [], 1)
theorem mk_108 : mj_ckM mj_TY mp_0 prog_14_method_102_code 1 (some .boolean) mt_108 = true := by decide +kernel
-- UnbeatenHouseModel.agreed()I
def mt_109 : mj_C := ([(0, [oV (.iconst 0) 1 0, o0 (.istore_n 1) 1, oV (.iconst 0) 1 0, o0 (.istore_n 2) 1]), (4, [o0 (.iload_n 2) 1, o0 (.aload_n 0) 1, oF (.getfield 221) 3 0 68 0, oA (.if_icmp .ge 68) 3 77]), (12, [o0 (.iload_n 1) 1, o0 (.aload_n 0) 1, o0 (.aload_n 0) 1, oF (.getfield 224) 3 0 69 2, o0 (.iload_n 2) 1, o0 .iaload 1, oM (.invokevirtual 414) 3 56 2 1 1, oA (.ifCond .ne 39) 3 62]), (26, [o0 (.aload_n 0) 1, o0 (.aload_n 0) 1, oF (.getfield 227) 3 0 70 2, o0 (.iload_n 2) 1, o0 .iaload 1, oM (.invokevirtual 414) 3 56 2 1 1, oA (.ifCond .ne 26) 3 62]), (39, [o0 (.aload_n 0) 1, o0 (.aload_n 0) 1, oF (.getfield 224) 3 0 69 2, o0 (.iload_n 2) 1, o0 .iaload 1, oM (.invokevirtual 520) 3 110 2 1 1, o0 (.aload_n 0) 1, o0 (.aload_n 0) 1, oF (.getfield 227) 3 0 70 2, o0 (.iload_n 2) 1, o0 .iaload 1, oM (.invokevirtual 520) 3 110 2 1 1, oA (.if_icmp .gt 9) 3 68]), (62, [oV (.iconst 1) 1 1, o0 (.iload_n 2) 1, o0 .ishl 1, oA (.goto 4) 3 69]), (68, [oV (.iconst 0) 1 0]), (69, [o0 .ior 1, o0 (.istore_n 1) 1, oV (.iinc 2 1) 3 1, oA (.goto (-70)) 3 4]), (77, [o0 (.iload_n 1) 1, oA .ireturn 1 0])], [(4, [0, 1, 2])], 3)
theorem mk_109 : mj_ckM mj_TY mp_0 prog_14_method_101_code 3 (some .int) mt_109 = true := by decide +kernel
-- UnbeatenHouseModel.rowWorth(I)I
def mt_110 : mj_C := ([(0, [oV (.iconst 0) 1 0, o0 (.istore_n 2) 1, oV (.iconst 0) 1 0, o0 (.istore_n 3) 1]), (4, [o0 (.iload_n 3) 1, o0 (.aload_n 0) 1, oF (.getfield 51) 3 0 13 2, o0 (.aload_n 0) 1, oF (.getfield 48) 3 0 12 0, o0 .iaload 1, oA (.if_icmp .ge 25) 3 39]), (17, [o0 (.iload_n 2) 1, o0 (.aload_n 0) 1, oF (.getfield 209) 3 0 64 2, o0 (.iload_n 3) 1, o0 .iaload 1, o0 (.aload_n 0) 1, o0 (.iload_n 1) 1, o0 (.iload_n 3) 1, oM (.invokevirtual 417) 3 57 3 1 1, o0 .imul 1, o0 .iadd 1, o0 (.istore_n 2) 1, oV (.iinc 3 1) 3 1, oA (.goto (-32)) 3 4]), (39, [o0 (.iload_n 2) 1, oA .ireturn 1 0])], [(4, [0, 1, 2, 3])], 4)
theorem mk_110 : mj_ckM mj_TY mp_0 prog_14_method_98_code 4 (some .int) mt_110 = true := by decide +kernel
-- UnbeatenHouseModel.could()J
def mt_111 : mj_C := ([(0, [o0 (.aload_n 0) 1, oM (.invokevirtual 529) 3 112 1 0 1, oW (.lconst 0) 1 0, o0 (.lstore_n 1) 1, oV (.iconst 0) 1 0, o0 (.istore_n 3) 1]), (8, [o0 (.iload_n 3) 1, o0 (.aload_n 0) 1, oF (.getfield 230) 3 0 71 0, oA (.if_icmp .ge 18) 3 31]), (16, [o0 (.lload_n 1) 1, o0 (.aload_n 0) 1, oF (.getfield 236) 3 0 73 2, o0 (.iload_n 3) 1, o0 .laload 1, o0 .lor 1, o0 (.lstore_n 1) 1, oV (.iinc 3 1) 3 1, oA (.goto (-20)) 3 8]), (31, [o0 (.lload_n 1) 1, o0 .lreturn 1])], [(8, [0, 1, 3])], 4)
theorem mk_111 : mj_ckM mj_TY mp_0 prog_14_method_105_code 4 (some .long) mt_111 = true := by decide +kernel
-- UnbeatenHouseModel.gathersAgreeing()V
def mt_112 : mj_C := ([(0, [o0 (.aload_n 0) 1, oM (.invokevirtual 424) 3 60 1 2 1, o0 (.lstore_n 1) 1, o0 (.aload_n 0) 1, oV (.iconst 0) 1 0, oF (.putfield 230) 3 0 71 0, oV (.iconst 0) 1 0, o0 (.istore_n 3) 1]), (12, [o0 (.iload_n 3) 1, o0 (.aload_n 0) 1, oM (.invokevirtual 496) 3 90 1 1 1, oA (.if_icmp .ge 157) 3 174]), (20, [o0 (.aload_n 0) 1, o0 (.iload_n 3) 1, oM (.invokevirtual 499) 3 91 2 1 1, oA (.ifCond .eq 143) 3 168]), (28, [o0 (.aload_n 0) 1, oM (.invokevirtual 526) 3 108 1 1 1, oA (.ifCond .ne 6) 3 38]), (35, [oA (.goto 133) 3 168]), (38, [oV (.iconst 0) 1 0, o0 (.istore 4) 2, oW (.lconst 0) 1 0, o0 (.lstore 5) 2, oV (.iconst 0) 1 0, o0 (.istore 7) 2]), (47, [o0 (.iload 7) 2, o0 (.aload_n 0) 1, oF (.getfield 54) 3 0 14 2, o0 (.aload_n 0) 1, oF (.getfield 48) 3 0 12 0, o0 .iaload 1, oA (.if_icmp .ge 89) 3 147]), (61, [o0 (.lload_n 1) 1, o0 (.iload 7) 2, o0 .lshr 1, oW (.lconst 1) 1 1, o0 .land 1, oW (.lconst 0) 1 0, o0 .lcmp 1, oA (.ifCond .ne 6) 3 75]), (72, [oA (.goto 69) 3 141]), (75, [o0 (.aload_n 0) 1, o0 (.iload 7) 2, oM (.invokevirtual 520) 3 110 2 1 1, o0 (.istore 8) 2, o0 (.aload_n 0) 1, oF (.getfield 233) 3 0 72 2, oV (.bipush 40) 2 40, o0 (.aload_n 0) 1, oF (.getfield 230) 3 0 71 0, o0 .imul 1, o0 (.iload 7) 2, o0 .iadd 1, o0 (.iload 8) 2, o0 .iastore 1, o0 (.lload 5) 2, oW (.lconst 0) 1 0, o0 .lcmp 1, oA (.ifCond .eq 10) 3 114]), (107, [o0 (.iload 8) 2, o0 (.iload 4) 2, oA (.if_icmp .ge 10) 3 121]), (114, [oW (.lconst 0) 1 0, o0 (.lstore 5) 2, o0 (.iload 8) 2, o0 (.istore 4) 2]), (121, [o0 (.lload 5) 2, o0 (.iload 8) 2, o0 (.iload 4) 2, oA (.if_icmp .ne 10) 3 137]), (130, [oW (.lconst 1) 1 1, o0 (.iload 7) 2, o0 .lshl 1, oA (.goto 4) 3 138]), (137, [oW (.lconst 0) 1 0]), (138, [o0 .lor 1, o0 (.lstore 5) 2]), (141, [oV (.iinc 7 1) 3 1, oA (.goto (-97)) 3 47]), (147, [o0 (.aload_n 0) 1, oF (.getfield 236) 3 0 73 2, o0 (.aload_n 0) 1, oF (.getfield 230) 3 0 71 0, o0 (.lload 5) 2, o0 .lastore 1, o0 (.aload_n 0) 1, o0 .dup 1, oF (.getfield 230) 3 0 71 0, oV (.iconst 1) 1 1, o0 .iadd 1, oF (.putfield 230) 3 0 71 0]), (168, [oV (.iinc 3 1) 3 1, oA (.goto (-159)) 3 12]), (174, [o0 .return_ 1])], [(12, [0, 1, 3]), (47, [0, 1, 3, 4, 5, 7]), (121, [0, 1, 3, 4, 5, 7, 8])], 9)
theorem mk_112 : mj_ckM mj_TY mp_0 prog_14_method_104_code 9 none mt_112 = true := by decide +kernel
-- UnbeatenHouseModel.question(I)I
def mt_113 : mj_C := ([(0, [o0 (.iload_n 1) 1, oV (.iconst 0) 1 0, oV (.iconst 2) 1 2, oM (.invokestatic 403) 3 49 3 1 0, oA (.ifCond .ne 5) 3 11]), (9, [oV (.iconst (-1)) 1 (-1), oA .ireturn 1 0]), (11, [o0 (.aload_n 0) 1, oM (.invokevirtual 424) 3 60 1 2 1, o0 (.lstore_n 2) 1, o0 (.aload_n 0) 1, oM (.invokevirtual 529) 3 112 1 0 1, oV (.iconst (-1)) 1 (-1), o0 (.istore 4) 2, oV (.iconst (-1)) 1 (-1), o0 (.istore 5) 2, oV (.iconst (-1)) 1 (-1), o0 (.istore 6) 2, oV (.iconst 0) 1 0, o0 (.istore 7) 2]), (32, [o0 (.iload 7) 2, o0 (.aload_n 0) 1, oF (.getfield 54) 3 0 14 2, o0 (.aload_n 0) 1, oF (.getfield 48) 3 0 12 0, o0 .iaload 1, oA (.if_icmp .ge 118) 3 161]), (46, [o0 (.iload 7) 2, oV (.iconst 1) 1 1, o0 .iadd 1, o0 (.istore 8) 2]), (52, [o0 (.iload 8) 2, o0 (.aload_n 0) 1, oF (.getfield 54) 3 0 14 2, o0 (.aload_n 0) 1, oF (.getfield 48) 3 0 12 0, o0 .iaload 1, oA (.if_icmp .ge 92) 3 155]), (66, [o0 (.lload_n 2) 1, o0 (.iload 7) 2, o0 .lshr 1, o0 (.lload_n 2) 1, o0 (.iload 8) 2, o0 .lshr 1, o0 .land 1, oW (.lconst 1) 1 1, o0 .land 1, oW (.lconst 0) 1 0, o0 .lcmp 1, oA (.ifCond .ne 6) 3 85]), (82, [oA (.goto 67) 3 149]), (85, [o0 (.aload_n 0) 1, o0 (.iload 7) 2, o0 (.iload 8) 2, oM (.invokevirtual 532) 3 114 3 1 1, o0 (.istore 9) 2, o0 (.aload_n 0) 1, o0 (.iload 8) 2, o0 (.iload 7) 2, oM (.invokevirtual 532) 3 114 3 1 1, o0 (.istore 10) 2, o0 (.iload 9) 2, o0 (.iload 10) 2, oA (.if_icmp .le 8) 3 117]), (112, [o0 (.iload 9) 2, oA (.goto 5) 3 119]), (117, [o0 (.iload 10) 2]), (119, [o0 (.istore 11) 2, o0 (.iload 6) 2, oV (.iconst (-1)) 1 (-1), oA (.if_icmp .eq 13) 3 137]), (127, [o0 (.iload 11) 2, o0 (.iload 6) 2, oA (.if_icmp .lt 6) 3 137]), (134, [oA (.goto 15) 3 149]), (137, [o0 (.iload 11) 2, o0 (.istore 6) 2, o0 (.iload 7) 2, o0 (.istore 4) 2, o0 (.iload 8) 2, o0 (.istore 5) 2]), (149, [oV (.iinc 8 1) 3 1, oA (.goto (-100)) 3 52]), (155, [oV (.iinc 7 1) 3 1, oA (.goto (-126)) 3 32]), (161, [o0 (.iload_n 1) 1, oA (.ifCond .ne 8) 3 170]), (165, [o0 (.iload 4) 2, oA (.goto 15) 3 182]), (170, [o0 (.iload_n 1) 1, oV (.iconst 1) 1 1, oA (.if_icmp .ne 8) 3 180]), (175, [o0 (.iload 5) 2, oA (.goto 5) 3 182]), (180, [o0 (.iload 6) 2]), (182, [oA .ireturn 1 0])], [(32, [0, 1, 2, 4, 5, 6, 7]), (52, [0, 1, 2, 4, 5, 6, 7, 8])], 12)
theorem mk_113 : mj_ckM mj_TY mp_0 prog_14_method_107_code 12 (some .int) mt_113 = true := by decide +kernel
-- UnbeatenHouseModel.leaves(II)I
def mt_114 : mj_C := ([(0, [oW (.lconst 0) 1 0, o0 (.lstore_n 3) 1, oV (.iconst 0) 1 0, o0 (.istore 5) 2]), (5, [o0 (.iload 5) 2, o0 (.aload_n 0) 1, oF (.getfield 230) 3 0 71 0, oA (.if_icmp .ge 50) 3 61]), (14, [o0 (.lload_n 3) 1, o0 (.aload_n 0) 1, oF (.getfield 233) 3 0 72 2, oV (.bipush 40) 2 40, o0 (.iload 5) 2, o0 .imul 1, o0 (.iload_n 1) 1, o0 .iadd 1, o0 .iaload 1, o0 (.aload_n 0) 1, oF (.getfield 233) 3 0 72 2, oV (.bipush 40) 2 40, o0 (.iload 5) 2, o0 .imul 1, o0 (.iload_n 2) 1, o0 .iadd 1, o0 .iaload 1, oA (.if_icmp .gt 13) 3 52]), (42, [o0 (.aload_n 0) 1, oF (.getfield 236) 3 0 73 2, o0 (.iload 5) 2, o0 .laload 1, oA (.goto 4) 3 53]), (52, [oW (.lconst 0) 1 0]), (53, [o0 .lor 1, o0 (.lstore_n 3) 1, oV (.iinc 5 1) 3 1, oA (.goto (-53)) 3 5]), (61, [o0 (.lload_n 3) 1, oM (.invokestatic 429) 3 63 1 1 0, oA .ireturn 1 0])], [(5, [0, 1, 2, 3, 5])], 6)
theorem mk_114 : mj_ckM mj_TY mp_0 prog_14_method_106_code 6 (some .int) mt_114 = true := by decide +kernel
-- UnbeatenHouseModel.quarrel()I
def mt_115 : mj_C := ([(0, [oV (.iconst 0) 1 0, o0 (.istore_n 1) 1, oV (.iconst 0) 1 0, o0 (.istore_n 2) 1]), (4, [o0 (.iload_n 2) 1, o0 (.aload_n 0) 1, oM (.invokevirtual 496) 3 90 1 1 1, oA (.if_icmp .ge 33) 3 42]), (12, [o0 (.aload_n 0) 1, o0 (.iload_n 2) 1, oM (.invokevirtual 499) 3 91 2 1 1, oA (.ifCond .ne 6) 3 23]), (20, [oA (.goto 16) 3 36]), (23, [o0 (.aload_n 0) 1, oF (.getfield 239) 3 0 74 2, o0 (.iload_n 1) 1, o0 (.aload_n 0) 1, oM (.invokevirtual 523) 3 109 1 1 1, o0 .iastore 1, oV (.iinc 1 1) 3 1]), (36, [oV (.iinc 2 1) 3 1, oA (.goto (-35)) 3 4]), (42, [oV (.iconst 0) 1 0, o0 (.istore_n 2) 1, oV (.iconst 1) 1 1, o0 (.istore_n 3) 1]), (46, [o0 (.iload_n 3) 1, oV (.iconst 1) 1 1, o0 (.aload_n 0) 1, oF (.getfield 221) 3 0 68 0, o0 .ishl 1, oA (.if_icmp .ge 70) 3 123]), (56, [o0 (.aload_n 0) 1, o0 (.iload_n 1) 1, o0 (.iload_n 3) 1, oM (.invokevirtual 535) 3 116 3 1 1, oA (.ifCond .eq 6) 3 68]), (65, [oA (.goto 52) 3 117]), (68, [o0 (.iload_n 2) 1, oA (.ifCond .ne 7) 3 76]), (72, [oV (.iconst (-1)) 1 (-1), oA (.goto 14) 3 87]), (76, [o0 (.iload_n 3) 1, o0 .i2l 1, oM (.invokestatic 429) 3 63 1 1 0, o0 (.iload_n 2) 1, o0 .i2l 1, oM (.invokestatic 429) 3 63 1 1 0, o0 .isub 1]), (87, [o0 (.istore 4) 2, o0 (.iload_n 3) 1, o0 (.iload_n 2) 1, o0 .ixor 1, o0 (.istore 5) 2, o0 (.iload 4) 2, oA (.ifCond .lt 19) 3 115]), (99, [o0 (.iload 4) 2, oA (.ifCond .ne 16) 3 117]), (104, [o0 (.iload_n 3) 1, o0 (.iload 5) 2, o0 .iand 1, o0 (.iload 5) 2, o0 .ineg 1, o0 .iand 1, oA (.ifCond .eq 5) 3 117]), (115, [o0 (.iload_n 3) 1, o0 (.istore_n 2) 1]), (117, [oV (.iinc 3 1) 3 1, oA (.goto (-74)) 3 46]), (123, [o0 (.iload_n 2) 1, oA .ireturn 1 0])], [(4, [0, 1, 2]), (46, [0, 1, 2, 3])], 6)
theorem mk_115 : mj_ckM mj_TY mp_0 prog_14_method_109_code 6 (some .int) mt_115 = true := by decide +kernel
-- UnbeatenHouseModel.isAgreed(II)Z
def mt_116 : mj_C := ([(0, [oV (.iconst 0) 1 0, o0 (.istore_n 3) 1]), (2, [o0 (.iload_n 3) 1, o0 (.iload_n 1) 1, oA (.if_icmp .ge 23) 3 27]), (7, [o0 (.aload_n 0) 1, oF (.getfield 239) 3 0 74 2, o0 (.iload_n 3) 1, o0 .iaload 1, o0 (.iload_n 2) 1, o0 .iand 1, o0 (.iload_n 2) 1, oA (.if_icmp .ne 5) 3 21]), (19, [oV (.iconst 1) 1 1, oA .ireturn 1 1]), (21, [oV (.iinc 3 1) 3 1, oA (.goto (-22)) 3 2]), (27, [oV (.iconst 0) 1 0, oA .ireturn 1 1])], [(2, [0, 1, 2, 3])], 4)
theorem mk_116 : mj_ckM mj_TY mp_0 prog_14_method_108_code 4 (some .boolean) mt_116 = true := by decide +kernel
-- UnbeatenHouseModel.stop(I)I
def mt_117 : mj_C := ([(0, [o0 (.iload_n 1) 1, oV (.iconst 0) 1 0, oV (.sipush 9999) 3 9999, oM (.invokestatic 403) 3 49 3 1 0, oA (.ifCond .ne 5) 3 13]), (11, [oV (.iconst (-1)) 1 (-1), oA .ireturn 1 0]), (13, [o0 (.aload_n 0) 1, oM (.invokevirtual 424) 3 60 1 2 1, o0 (.lstore_n 2) 1, o0 (.aload_n 0) 1, oM (.invokevirtual 529) 3 112 1 0 1, oV (.iconst 0) 1 0, o0 (.istore 4) 2]), (25, [o0 (.iload 4) 2, o0 (.aload_n 0) 1, oF (.getfield 54) 3 0 14 2, o0 (.aload_n 0) 1, oF (.getfield 48) 3 0 12 0, o0 .iaload 1, oA (.if_icmp .ge 179) 3 215]), (39, [o0 (.aload_n 0) 1, oF (.getfield 230) 3 0 71 0, oA (.ifCond .le 172) 3 215]), (46, [o0 (.lload_n 2) 1, o0 (.iload 4) 2, o0 .lshr 1, oW (.lconst 1) 1 1, o0 .land 1, oW (.lconst 1) 1 1, o0 .lcmp 1, oA (.ifCond .ne 7) 3 61]), (57, [oV (.iconst 1) 1 1, oA (.goto 4) 3 62]), (61, [oV (.iconst 0) 1 0]), (62, [o0 (.istore 5) 2, oV (.iconst 0) 1 0, o0 (.istore 6) 2]), (67, [o0 (.iload 6) 2, o0 (.aload_n 0) 1, oF (.getfield 230) 3 0 71 0, oA (.if_icmp .ge 128) 3 201]), (76, [o0 (.iload 5) 2, oA (.ifCond .eq 123) 3 201]), (81, [o0 (.aload_n 0) 1, oF (.getfield 233) 3 0 72 2, oV (.bipush 40) 2 40, o0 (.iload 6) 2, o0 .imul 1, o0 (.iload 4) 2, o0 .iadd 1, o0 .iaload 1, o0 (.istore 7) 2, oV (.iconst 0) 1 0, o0 (.istore 8) 2]), (99, [o0 (.iload 8) 2, o0 (.aload_n 0) 1, oF (.getfield 54) 3 0 14 2, o0 (.aload_n 0) 1, oF (.getfield 48) 3 0 12 0, o0 .iaload 1, oA (.if_icmp .ge 53) 3 163]), (113, [o0 (.lload_n 2) 1, o0 (.iload 8) 2, o0 .lshr 1, oW (.lconst 1) 1 1, o0 .land 1, oW (.lconst 1) 1 1, o0 .lcmp 1, oA (.ifCond .ne 36) 3 157]), (124, [o0 (.aload_n 0) 1, oF (.getfield 233) 3 0 72 2, oV (.bipush 40) 2 40, o0 (.iload 6) 2, o0 .imul 1, o0 (.iload 8) 2, o0 .iadd 1, o0 .iaload 1, o0 (.iload 7) 2, oA (.if_icmp .ge 18) 3 157]), (142, [o0 (.aload_n 0) 1, oF (.getfield 233) 3 0 72 2, oV (.bipush 40) 2 40, o0 (.iload 6) 2, o0 .imul 1, o0 (.iload 8) 2, o0 .iadd 1, o0 .iaload 1, o0 (.istore 7) 2]), (157, [oV (.iinc 8 1) 3 1, oA (.goto (-61)) 3 99]), (163, [o0 (.aload_n 0) 1, oF (.getfield 233) 3 0 72 2, oV (.bipush 40) 2 40, o0 (.iload 6) 2, o0 .imul 1, o0 (.iload 4) 2, o0 .iadd 1, o0 .iaload 1, o0 (.iload 7) 2, o0 (.iload_n 1) 1, o0 (.aload_n 0) 1, oF (.getfield 206) 3 0 63 0, o0 .imul 1, o0 .iadd 1, oA (.if_icmp .gt 7) 3 192]), (188, [oV (.iconst 1) 1 1, oA (.goto 4) 3 193]), (192, [oV (.iconst 0) 1 0]), (193, [o0 (.istore 5) 2, oV (.iinc 6 1) 3 1, oA (.goto (-131)) 3 67]), (201, [o0 (.iload 5) 2, oA (.ifCond .eq 6) 3 209]), (206, [o0 (.iload 4) 2, oA .ireturn 1 0]), (209, [oV (.iinc 4 1) 3 1, oA (.goto (-187)) 3 25]), (215, [oV (.iconst (-1)) 1 (-1), oA .ireturn 1 0])], [(25, [0, 1, 2, 4]), (67, [0, 1, 2, 4, 5, 6]), (99, [0, 1, 2, 4, 6, 7, 8])], 9)
theorem mk_117 : mj_ckM mj_TY mp_0 prog_14_method_110_code 9 (some .int) mt_117 = true := by decide +kernel
-- UnbeatenHouseModel.person(IIIII)Z
def mt_118 : mj_C := ([(0, [o0 (.iload_n 1) 1, oM (.invokestatic 538) 3 119 1 1 0, oA (.ifCond .eq 45) 3 49]), (7, [o0 (.iload_n 2) 1, oV (.iconst 0) 1 0, oV (.bipush 9) 2 9, oM (.invokestatic 403) 3 49 3 1 0, oA (.ifCond .eq 35) 3 49]), (17, [o0 (.iload_n 3) 1, oV (.iconst 0) 1 0, oV (.bipush 9) 2 9, oM (.invokestatic 403) 3 49 3 1 0, oA (.ifCond .eq 25) 3 49]), (27, [o0 (.iload 4) 2, oV (.iconst 0) 1 0, oV (.bipush 9) 2 9, oM (.invokestatic 403) 3 49 3 1 0, oA (.ifCond .eq 14) 3 49]), (38, [o0 (.iload 5) 2, oV (.iconst 0) 1 0, oV (.bipush 9) 2 9, oM (.invokestatic 403) 3 49 3 1 0, oA (.ifCond .ne 5) 3 51]), (49, [oV (.iconst 0) 1 0, oA .ireturn 1 1]), (51, [o0 (.aload_n 0) 1, oF (.getfield 51) 3 0 13 2, o0 (.aload_n 0) 1, oF (.getfield 48) 3 0 12 0, o0 .iaload 1, o0 (.istore 6) 2, o0 (.iload 6) 2, oV (.iconst 1) 1 1, oA (.if_icmp .ge 7) 3 72]), (68, [o0 (.iload_n 2) 1, oA (.ifCond .gt 35) 3 104]), (72, [o0 (.iload 6) 2, oV (.iconst 2) 1 2, oA (.if_icmp .ge 7) 3 82]), (78, [o0 (.iload_n 3) 1, oA (.ifCond .gt 25) 3 104]), (82, [o0 (.iload 6) 2, oV (.iconst 3) 1 3, oA (.if_icmp .ge 8) 3 93]), (88, [o0 (.iload 4) 2, oA (.ifCond .gt 14) 3 104]), (93, [o0 (.iload 6) 2, oV (.iconst 4) 1 4, oA (.if_icmp .ge 10) 3 106]), (99, [o0 (.iload 5) 2, oA (.ifCond .le 5) 3 106]), (104, [oV (.iconst 0) 1 0, oA .ireturn 1 1]), (106, [o0 (.aload_n 0) 1, oF (.getfield 242) 3 0 75 2, oV (.iconst 4) 1 4, o0 (.iload_n 1) 1, o0 .imul 1, o0 (.iload_n 2) 1, o0 .iastore 1, o0 (.aload_n 0) 1, oF (.getfield 242) 3 0 75 2, oV (.iconst 4) 1 4, o0 (.iload_n 1) 1, o0 .imul 1, oV (.iconst 1) 1 1, o0 .iadd 1, o0 (.iload_n 3) 1, o0 .iastore 1, o0 (.aload_n 0) 1, oF (.getfield 242) 3 0 75 2, oV (.iconst 4) 1 4, o0 (.iload_n 1) 1, o0 .imul 1, oV (.iconst 2) 1 2, o0 .iadd 1, o0 (.iload 4) 2, o0 .iastore 1, o0 (.aload_n 0) 1, oF (.getfield 242) 3 0 75 2, oV (.iconst 4) 1 4, o0 (.iload_n 1) 1, o0 .imul 1, oV (.iconst 3) 1 3, o0 .iadd 1, o0 (.iload 5) 2, o0 .iastore 1]), (150, [oV (.iconst 1) 1 1, oA .ireturn 1 1])], [(82, [0, 1, 2, 3, 4, 5, 6]), (106, [0, 1, 2, 3, 4, 5]), (150, [])], 7)
theorem mk_118 : mj_ckM mj_TY mp_0 prog_14_method_112_code 7 (some .boolean) mt_118 = true := by decide +kernel
-- UnbeatenHouseModel.isPerson(I)Z
def mt_119 : mj_C := ([(0, [o0 (.iload_n 0) 1, oA (.ifCond .lt 13) 3 14]), (4, [o0 (.iload_n 0) 1, oV (.bipush 6) 2 6, oA (.if_icmp .ge 7) 3 14]), (10, [oV (.iconst 1) 1 1, oA (.goto 4) 3 15]), (14, [oV (.iconst 0) 1 0]), (15, [oA .ireturn 1 1])], [], 1)
theorem mk_119 : mj_ckM mj_TY mp_0 prog_14_method_111_code 1 (some .boolean) mt_119 = true := by decide +kernel
-- UnbeatenHouseModel.bar(IIZ)Z
def mt_120 : mj_C := ([(0, [o0 (.iload_n 1) 1, oM (.invokestatic 538) 3 119 1 1 0, oA (.ifCond .eq 11) 3 15]), (7, [o0 (.aload_n 0) 1, o0 (.iload_n 2) 1, oM (.invokevirtual 400) 3 51 2 1 1, oA (.ifCond .ne 5) 3 17]), (15, [oV (.iconst 0) 1 0, oA .ireturn 1 1]), (17, [o0 (.aload_n 0) 1, oF (.getfield 245) 3 0 76 2, o0 (.iload_n 1) 1, o0 (.iload_n 3) 1, oA (.ifCond .eq 16) 3 39]), (26, [o0 (.aload_n 0) 1, oF (.getfield 245) 3 0 76 2, o0 (.iload_n 1) 1, o0 .laload 1, oW (.lconst 1) 1 1, o0 (.iload_n 2) 1, o0 .lshl 1, o0 .lor 1, oA (.goto 17) 3 53]), (39, [o0 (.aload_n 0) 1, oF (.getfield 245) 3 0 76 2, o0 (.iload_n 1) 1, o0 .laload 1, oW (.lconst 1) 1 1, o0 (.iload_n 2) 1, o0 .lshl 1, oW (.ldc2_w 427) 3 (-1), o0 .lxor 1, o0 .land 1]), (53, [o0 .lastore 1, oV (.iconst 1) 1 1, oA .ireturn 1 1])], [], 4)
theorem mk_120 : mj_ckM mj_TY mp_0 prog_14_method_113_code 4 (some .boolean) mt_120 = true := by decide +kernel
-- UnbeatenHouseModel.choose(I)I
def mt_121 : mj_C := ([(0, [o0 (.iload_n 1) 1, oV (.iconst 0) 1 0, oV (.iconst 3) 1 3, oM (.invokestatic 403) 3 49 3 1 0, oA (.ifCond .eq 10) 3 16]), (9, [o0 (.aload_n 0) 1, oM (.invokevirtual 550) 3 122 1 1 1, oA (.ifCond .ne 7) 3 20]), (16, [oV (.iconst (-1)) 1 (-1), oA (.goto 12) 3 29]), (20, [o0 (.aload_n 0) 1, o0 (.iload_n 1) 1, o0 (.aload_n 0) 1, oM (.invokevirtual 563) 3 124 1 2 1, oM (.invokevirtual 566) 3 125 3 1 1]), (29, [oA .ireturn 1 0])], [], 2)
theorem mk_121 : mj_ckM mj_TY mp_0 prog_14_method_123_code 2 (some .int) mt_121 = true := by decide +kernel
-- UnbeatenHouseModel.voters()I
def mt_122 : mj_C := ([(0, [oV (.iconst 0) 1 0, o0 (.istore_n 1) 1, oV (.iconst 0) 1 0, o0 (.istore_n 2) 1]), (4, [o0 (.iload_n 2) 1, oV (.bipush 6) 2 6, oA (.if_icmp .ge 25) 3 32]), (10, [o0 (.iload_n 1) 1, o0 (.aload_n 0) 1, o0 (.iload_n 2) 1, oM (.invokevirtual 541) 3 123 2 1 1, oA (.ifCond .eq 7) 3 23]), (19, [oV (.iconst 1) 1 1, oA (.goto 4) 3 24]), (23, [oV (.iconst 0) 1 0]), (24, [o0 .iadd 1, o0 (.istore_n 1) 1, oV (.iinc 2 1) 3 1, oA (.goto (-25)) 3 4]), (32, [o0 (.iload_n 1) 1, oA .ireturn 1 0])], [(4, [0, 1, 2])], 3)
theorem mk_122 : mj_ckM mj_TY mp_0 prog_14_method_115_code 3 (some .int) mt_122 = true := by decide +kernel
-- UnbeatenHouseModel.votes(I)Z
def mt_123 : mj_C := ([(0, [o0 (.aload_n 0) 1, oF (.getfield 242) 3 0 75 2, oV (.iconst 4) 1 4, o0 (.iload_n 1) 1, o0 .imul 1, o0 .iaload 1, o0 (.aload_n 0) 1, oF (.getfield 242) 3 0 75 2, oV (.iconst 4) 1 4, o0 (.iload_n 1) 1, o0 .imul 1, oV (.iconst 1) 1 1, o0 .iadd 1, o0 .iaload 1, o0 .iadd 1, o0 (.aload_n 0) 1, oF (.getfield 242) 3 0 75 2, oV (.iconst 4) 1 4, o0 (.iload_n 1) 1, o0 .imul 1, oV (.iconst 2) 1 2, o0 .iadd 1, o0 .iaload 1, o0 .iadd 1, o0 (.aload_n 0) 1, oF (.getfield 242) 3 0 75 2, oV (.iconst 4) 1 4, o0 (.iload_n 1) 1, o0 .imul 1, oV (.iconst 3) 1 3, o0 .iadd 1, o0 .iaload 1, o0 .iadd 1, oA (.ifCond .le 7) 3 48]), (44, [oV (.iconst 1) 1 1, oA (.goto 4) 3 49]), (48, [oV (.iconst 0) 1 0]), (49, [oA .ireturn 1 1])], [], 2)
theorem mk_123 : mj_ckM mj_TY mp_0 prog_14_method_114_code 2 (some .boolean) mt_123 = true := by decide +kernel
-- UnbeatenHouseModel.candidates()J
def mt_124 : mj_C := ([(0, [o0 (.aload_n 0) 1, oM (.invokevirtual 424) 3 60 1 2 1, o0 (.lstore_n 1) 1, oV (.iconst 0) 1 0, o0 (.istore_n 3) 1]), (7, [o0 (.iload_n 3) 1, oV (.bipush 6) 2 6, oA (.if_icmp .ge 22) 3 32]), (13, [o0 (.lload_n 1) 1, o0 (.aload_n 0) 1, oF (.getfield 245) 3 0 76 2, o0 (.iload_n 3) 1, o0 .laload 1, oW (.ldc2_w 427) 3 (-1), o0 .lxor 1, o0 .land 1, o0 (.lstore_n 1) 1, oV (.iinc 3 1) 3 1, oA (.goto (-22)) 3 7]), (32, [o0 (.lload_n 1) 1, o0 .lreturn 1])], [(7, [0, 1, 3])], 4)
theorem mk_124 : mj_ckM mj_TY mp_0 prog_14_method_116_code 4 (some .long) mt_124 = true := by decide +kernel
-- UnbeatenHouseModel.chosenBy(IJ)I
def mt_125 : mj_C := ([(0, [oV (.iconst (-1)) 1 (-1), o0 (.istore 4) 2, oV (.iconst 0) 1 0, o0 (.istore 5) 2, oV (.iconst 0) 1 0, o0 (.istore 6) 2]), (9, [o0 (.iload 6) 2, o0 (.aload_n 0) 1, oF (.getfield 54) 3 0 14 2, o0 (.aload_n 0) 1, oF (.getfield 48) 3 0 12 0, o0 .iaload 1, oA (.if_icmp .ge 65) 3 85]), (23, [o0 (.lload_n 2) 1, o0 (.iload 6) 2, o0 .lshr 1, oW (.lconst 1) 1 1, o0 .land 1, oW (.lconst 0) 1 0, o0 .lcmp 1, oA (.ifCond .ne 6) 3 37]), (34, [oA (.goto 45) 3 79]), (37, [o0 (.aload_n 0) 1, o0 (.iload_n 1) 1, o0 (.iload 6) 2, o0 (.lload_n 2) 1, oM (.invokevirtual 560) 3 126 4 1 1, o0 (.istore 7) 2, o0 (.iload 7) 2, oV (.ldc_w 492) 3 (-2000000000), oA (.if_icmp .eq 27) 3 79]), (55, [o0 (.iload 4) 2, oV (.iconst (-1)) 1 (-1), oA (.if_icmp .eq 13) 3 71]), (61, [o0 (.iload 7) 2, o0 (.iload 5) 2, oA (.if_icmp .lt 6) 3 71]), (68, [oA (.goto 11) 3 79]), (71, [o0 (.iload 6) 2, o0 (.istore 4) 2, o0 (.iload 7) 2, o0 (.istore 5) 2]), (79, [oV (.iinc 6 1) 3 1, oA (.goto (-73)) 3 9]), (85, [o0 (.iload 4) 2, oA .ireturn 1 0])], [(9, [0, 1, 2, 4, 5, 6])], 8)
theorem mk_125 : mj_ckM mj_TY mp_0 prog_14_method_122_code 8 (some .int) mt_125 = true := by decide +kernel
-- UnbeatenHouseModel.against(IIJ)I
def mt_126 : mj_C := ([(0, [oV (.iconst 0) 1 0, o0 (.istore 5) 2, oV (.iconst 0) 1 0, o0 (.istore 6) 2, oV (.iconst 0) 1 0, o0 (.istore 7) 2, oV (.iconst 0) 1 0, o0 (.istore 8) 2]), (12, [o0 (.iload 8) 2, oV (.bipush 6) 2 6, oA (.if_icmp .ge 69) 3 85]), (19, [o0 (.aload_n 0) 1, o0 (.iload 8) 2, oM (.invokevirtual 541) 3 123 2 1 1, oA (.ifCond .ne 6) 3 31]), (28, [oA (.goto 51) 3 79]), (31, [o0 (.aload_n 0) 1, o0 (.iload 8) 2, o0 (.iload_n 2) 1, o0 (.lload_n 3) 1, oM (.invokevirtual 553) 3 127 4 1 1, o0 (.istore 9) 2, o0 (.iload 5) 2, o0 (.iload 9) 2, oA (.ifCond .ne 7) 3 52]), (48, [oV (.iconst 1) 1 1, oA (.goto 4) 3 53]), (52, [oV (.iconst 0) 1 0]), (53, [o0 .iadd 1, o0 (.istore 5) 2, o0 (.iload 6) 2, o0 (.iload 9) 2, o0 .iadd 1, o0 (.istore 6) 2, o0 (.iload 9) 2, o0 (.iload 7) 2, oA (.if_icmp .le 8) 3 75]), (70, [o0 (.iload 9) 2, oA (.goto 5) 3 77]), (75, [o0 (.iload 7) 2]), (77, [o0 (.istore 7) 2]), (79, [oV (.iinc 8 1) 3 1, oA (.goto (-70)) 3 12]), (85, [o0 (.iload_n 1) 1, oV (.iconst 3) 1 3, oA (.if_icmp .ge 26) 3 113]), (90, [o0 (.iload_n 1) 1, oA (.ifCond .ne 9) 3 100]), (94, [o0 (.iload 5) 2, o0 .ineg 1, oA (.goto 15) 3 112]), (100, [o0 (.iload_n 1) 1, oV (.iconst 1) 1 1, oA (.if_icmp .ne 8) 3 110]), (105, [o0 (.iload 6) 2, oA (.goto 5) 3 112]), (110, [o0 (.iload 7) 2]), (112, [oA .ireturn 1 0]), (113, [oV (.iconst 0) 1 0, o0 (.istore 8) 2]), (116, [o0 (.iload 8) 2, o0 (.aload_n 0) 1, oF (.getfield 54) 3 0 14 2, o0 (.aload_n 0) 1, oF (.getfield 48) 3 0 12 0, o0 .iaload 1, oA (.if_icmp .ge 40) 3 167]), (130, [o0 (.iload 8) 2, o0 (.iload_n 2) 1, oA (.if_icmp .eq 28) 3 161]), (136, [o0 (.lload_n 3) 1, o0 (.iload 8) 2, o0 .lshr 1, oW (.lconst 1) 1 1, o0 .land 1, oW (.lconst 1) 1 1, o0 .lcmp 1, oA (.ifCond .ne 17) 3 161]), (147, [o0 (.aload_n 0) 1, o0 (.iload_n 2) 1, o0 (.iload 8) 2, oM (.invokevirtual 557) 3 130 3 1 1, oA (.ifCond .ne 7) 3 161]), (157, [oV (.ldc_w 492) 3 (-2000000000), oA .ireturn 1 0]), (161, [oV (.iinc 8 1) 3 1, oA (.goto (-48)) 3 116]), (167, [oV (.iconst 0) 1 0, oA .ireturn 1 0])], [(12, [0, 1, 2, 3, 5, 6, 7, 8]), (116, [0, 2, 3, 8])], 10)
theorem mk_126 : mj_ckM mj_TY mp_0 prog_14_method_121_code 10 (some .int) mt_126 = true := by decide +kernel
-- UnbeatenHouseModel.placeOf(IIJ)I
def mt_127 : mj_C := ([(0, [oV (.iconst 0) 1 0, o0 (.istore 5) 2, oV (.iconst 0) 1 0, o0 (.istore 6) 2]), (6, [o0 (.iload 6) 2, o0 (.aload_n 0) 1, oF (.getfield 54) 3 0 14 2, o0 (.aload_n 0) 1, oF (.getfield 48) 3 0 12 0, o0 .iaload 1, oA (.if_icmp .ge 41) 3 58]), (20, [o0 (.iload 5) 2, o0 (.lload_n 3) 1, o0 (.iload 6) 2, o0 .lshr 1, oW (.lconst 1) 1 1, o0 .land 1, oW (.lconst 1) 1 1, o0 .lcmp 1, oA (.ifCond .ne 18) 3 48]), (33, [o0 (.aload_n 0) 1, o0 (.iload_n 1) 1, o0 (.iload 6) 2, o0 (.iload_n 2) 1, oM (.invokevirtual 547) 3 128 4 1 1, oA (.ifCond .eq 7) 3 48]), (44, [oV (.iconst 1) 1 1, oA (.goto 4) 3 49]), (48, [oV (.iconst 0) 1 0]), (49, [o0 .iadd 1, o0 (.istore 5) 2, oV (.iinc 6 1) 3 1, oA (.goto (-49)) 3 6]), (58, [o0 (.iload 5) 2, oA .ireturn 1 0])], [(6, [0, 1, 2, 3, 5, 6])], 7)
theorem mk_127 : mj_ckM mj_TY mp_0 prog_14_method_119_code 7 (some .int) mt_127 = true := by decide +kernel
-- UnbeatenHouseModel.isBefore(III)Z
def mt_128 : mj_C := ([(0, [o0 (.aload_n 0) 1, o0 (.iload_n 1) 1, o0 (.iload_n 2) 1, oM (.invokevirtual 544) 3 129 3 1 1, o0 (.istore 4) 2, o0 (.aload_n 0) 1, o0 (.iload_n 1) 1, o0 (.iload_n 3) 1, oM (.invokevirtual 544) 3 129 3 1 1, o0 (.istore 5) 2, o0 (.iload 4) 2, o0 (.iload 5) 2, oA (.if_icmp .lt 15) 3 35]), (23, [o0 (.iload 4) 2, o0 (.iload 5) 2, oA (.if_icmp .ne 12) 3 39]), (30, [o0 (.iload_n 2) 1, o0 (.iload_n 3) 1, oA (.if_icmp .ge 7) 3 39]), (35, [oV (.iconst 1) 1 1, oA (.goto 4) 3 40]), (39, [oV (.iconst 0) 1 0]), (40, [oA .ireturn 1 1])], [], 6)
theorem mk_128 : mj_ckM mj_TY mp_0 prog_14_method_118_code 6 (some .boolean) mt_128 = true := by decide +kernel
-- UnbeatenHouseModel.personWorth(II)I
def mt_129 : mj_C := ([(0, [oV (.iconst 0) 1 0, o0 (.istore_n 3) 1, oV (.iconst 0) 1 0, o0 (.istore 4) 2]), (5, [o0 (.iload 4) 2, o0 (.aload_n 0) 1, oF (.getfield 51) 3 0 13 2, o0 (.aload_n 0) 1, oF (.getfield 48) 3 0 12 0, o0 .iaload 1, oA (.if_icmp .ge 31) 3 47]), (19, [o0 (.iload_n 3) 1, o0 (.aload_n 0) 1, oF (.getfield 242) 3 0 75 2, oV (.iconst 4) 1 4, o0 (.iload_n 1) 1, o0 .imul 1, o0 (.iload 4) 2, o0 .iadd 1, o0 .iaload 1, o0 (.aload_n 0) 1, o0 (.iload_n 2) 1, o0 (.iload 4) 2, oM (.invokevirtual 417) 3 57 3 1 1, o0 .imul 1, o0 .iadd 1, o0 (.istore_n 3) 1, oV (.iinc 4 1) 3 1, oA (.goto (-39)) 3 5]), (47, [o0 (.iload_n 3) 1, oA .ireturn 1 0])], [(5, [0, 1, 2, 3, 4])], 5)
theorem mk_129 : mj_ckM mj_TY mp_0 prog_14_method_117_code 5 (some .int) mt_129 = true := by decide +kernel
-- UnbeatenHouseModel.wins(II)Z
def mt_130 : mj_C := ([(0, [oV (.iconst 0) 1 0, o0 (.istore_n 3) 1, oV (.iconst 0) 1 0, o0 (.istore 4) 2]), (5, [o0 (.iload 4) 2, oV (.bipush 6) 2 6, oA (.if_icmp .ge 37) 3 46]), (12, [o0 (.iload_n 3) 1, o0 (.aload_n 0) 1, o0 (.iload 4) 2, oM (.invokevirtual 541) 3 123 2 1 1, oA (.ifCond .eq 18) 3 37]), (22, [o0 (.aload_n 0) 1, o0 (.iload 4) 2, o0 (.iload_n 1) 1, o0 (.iload_n 2) 1, oM (.invokevirtual 547) 3 128 4 1 1, oA (.ifCond .eq 7) 3 37]), (33, [oV (.iconst 1) 1 1, oA (.goto 4) 3 38]), (37, [oV (.iconst 0) 1 0]), (38, [o0 .iadd 1, o0 (.istore_n 3) 1, oV (.iinc 4 1) 3 1, oA (.goto (-38)) 3 5]), (46, [oV (.iconst 2) 1 2, o0 (.iload_n 3) 1, o0 .imul 1, o0 (.aload_n 0) 1, oM (.invokevirtual 550) 3 122 1 1 1, oA (.if_icmp .le 7) 3 60]), (56, [oV (.iconst 1) 1 1, oA (.goto 4) 3 61]), (60, [oV (.iconst 0) 1 0]), (61, [oA .ireturn 1 1])], [(5, [0, 1, 2, 3, 4])], 5)
theorem mk_130 : mj_ckM mj_TY mp_0 prog_14_method_120_code 5 (some .boolean) mt_130 = true := by decide +kernel
-- UnbeatenHouseModel.breaks(I)I
def mt_131 : mj_C := ([(0, [o0 (.aload_n 0) 1, o0 (.iload_n 1) 1, oM (.invokevirtual 569) 3 121 2 1 1, o0 (.istore_n 2) 1, o0 (.iload_n 2) 1, oV (.iconst (-1)) 1 (-1), oA (.if_icmp .ne 5) 3 13]), (11, [oV (.iconst (-1)) 1 (-1), oA .ireturn 1 0]), (13, [o0 (.aload_n 0) 1, oM (.invokevirtual 563) 3 124 1 2 1, o0 (.lstore_n 3) 1, o0 (.aload_n 0) 1, oV (.iconst 3) 1 3, o0 (.lload_n 3) 1, oM (.invokevirtual 566) 3 125 3 1 1, o0 (.istore 5) 2, o0 (.iload 5) 2, oV (.iconst (-1)) 1 (-1), oA (.if_icmp .eq 13) 3 42]), (32, [o0 (.iload 5) 2, o0 (.iload_n 2) 1, oA (.if_icmp .eq 7) 3 42]), (38, [oV (.iconst 1) 1 1, oA (.goto 4) 3 43]), (42, [oV (.iconst 0) 1 0]), (43, [o0 (.istore 6) 2, o0 (.lload_n 3) 1, oM (.invokestatic 429) 3 63 1 1 0, oV (.iconst 1) 1 1, oA (.if_icmp .le 7) 3 57]), (53, [oV (.iconst 1) 1 1, oA (.goto 4) 3 58]), (57, [oV (.iconst 0) 1 0]), (58, [o0 (.istore 7) 2, oW (.lconst 0) 1 0, o0 (.lstore 8) 2, oV (.iconst 0) 1 0, o0 (.istore 10) 2]), (66, [o0 (.iload 10) 2, o0 (.aload_n 0) 1, oF (.getfield 54) 3 0 14 2, o0 (.aload_n 0) 1, oF (.getfield 48) 3 0 12 0, o0 .iaload 1, oA (.if_icmp .ge 101) 3 178]), (80, [o0 (.lload_n 3) 1, o0 (.iload 10) 2, o0 .lshr 1, oW (.lconst 1) 1 1, o0 .land 1, oW (.lconst 0) 1 0, o0 .lcmp 1, oA (.ifCond .ne 6) 3 94]), (91, [oA (.goto 81) 3 172]), (94, [o0 (.iload 7) 2, oA (.ifCond .eq 23) 3 119]), (99, [o0 (.iload 10) 2, o0 (.iload_n 2) 1, oA (.if_icmp .eq 13) 3 115]), (105, [o0 (.aload_n 0) 1, o0 (.iload 10) 2, o0 (.iload_n 2) 1, oM (.invokevirtual 557) 3 130 3 1 1, oA (.ifCond .eq 7) 3 119]), (115, [oV (.iconst 1) 1 1, oA (.goto 4) 3 120]), (119, [oV (.iconst 0) 1 0]), (120, [o0 (.istore 7) 2, oV (.iconst 0) 1 0, o0 (.istore 11) 2]), (125, [o0 (.iload 11) 2, oV (.bipush 6) 2 6, oA (.if_icmp .ge 43) 3 172]), (132, [o0 (.lload 8) 2, o0 (.aload_n 0) 1, o0 (.iload 11) 2, oM (.invokevirtual 541) 3 123 2 1 1, oA (.ifCond .eq 22) 3 162]), (143, [o0 (.aload_n 0) 1, o0 (.iload 11) 2, o0 (.iload 10) 2, o0 (.lload_n 3) 1, oM (.invokevirtual 553) 3 127 4 1 1, oA (.ifCond .ne 10) 3 162]), (155, [oW (.lconst 1) 1 1, o0 (.iload 10) 2, o0 .lshl 1, oA (.goto 4) 3 163]), (162, [oW (.lconst 0) 1 0]), (163, [o0 .lor 1, o0 (.lstore 8) 2, oV (.iinc 11 1) 3 1, oA (.goto (-44)) 3 125]), (172, [oV (.iinc 10 1) 3 1, oA (.goto (-109)) 3 66]), (178, [o0 (.iload 6) 2, o0 (.iload 7) 2, oA (.ifCond .eq 7) 3 189]), (185, [oV (.iconst 2) 1 2, oA (.goto 4) 3 190]), (189, [oV (.iconst 0) 1 0]), (190, [o0 .ior 1, o0 (.istore 6) 2, o0 (.iload 6) 2, o0 (.aload_n 0) 1, o0 (.iload_n 1) 1, o0 (.lload 8) 2, oM (.invokevirtual 566) 3 125 3 1 1, o0 (.iload_n 2) 1, oA (.if_icmp .eq 7) 3 210]), (206, [oV (.iconst 4) 1 4, oA (.goto 4) 3 211]), (210, [oV (.iconst 0) 1 0]), (211, [o0 .ior 1, oA .ireturn 1 0])], [(42, [0, 1, 2, 3]), (66, [0, 1, 2, 3, 6, 7, 8, 10]), (125, [0, 1, 2, 3, 6, 7, 8, 10, 11])], 12)
theorem mk_131 : mj_ckM mj_TY mp_0 prog_14_method_124_code 12 (some .int) mt_131 = true := by decide +kernel
-- UnbeatenHouseModel.place(II)I
def mt_132 : mj_C := ([(0, [o0 (.iload_n 1) 1, oM (.invokestatic 538) 3 119 1 1 0, oA (.ifCond .eq 32) 3 36]), (7, [o0 (.aload_n 0) 1, o0 (.iload_n 1) 1, oM (.invokevirtual 541) 3 123 2 1 1, oA (.ifCond .eq 24) 3 36]), (15, [o0 (.aload_n 0) 1, o0 (.iload_n 2) 1, oM (.invokevirtual 400) 3 51 2 1 1, oA (.ifCond .eq 16) 3 36]), (23, [o0 (.aload_n 0) 1, oM (.invokevirtual 563) 3 124 1 2 1, o0 (.iload_n 2) 1, o0 .lshr 1, oW (.lconst 1) 1 1, o0 .land 1, oW (.lconst 0) 1 0, o0 .lcmp 1, oA (.ifCond .ne 5) 3 38]), (36, [oV (.iconst (-1)) 1 (-1), oA .ireturn 1 0]), (38, [o0 (.aload_n 0) 1, o0 (.iload_n 1) 1, o0 (.iload_n 2) 1, o0 (.aload_n 0) 1, oM (.invokevirtual 563) 3 124 1 2 1, oM (.invokevirtual 553) 3 127 4 1 1, oA .ireturn 1 0])], [], 3)
theorem mk_132 : mj_ckM mj_TY mp_0 prog_14_method_125_code 3 (some .int) mt_132 = true := by decide +kernel
end
section
/-! code tables, by program -/
-- UnbeatenHouse.feed(IIIII)I
def mt_133 : mj_C := ([(0, [o0 (.aload_n 0) 1, oF (.getfield 89) 3 1 0 0, oV (.sipush 880) 3 880, oA (.if_icmp .le 5) 3 12]), (10, [oV (.iconst (-1)) 1 (-1), oA .ireturn 1 0]), (12, [o0 (.aload_n 0) 1, o0 (.iload_n 1) 1, oM (.invokevirtual 92) 3 134 2 0 2, o0 (.aload_n 0) 1, o0 (.iload_n 2) 1, oM (.invokevirtual 92) 3 134 2 0 2, o0 (.aload_n 0) 1, o0 (.iload_n 3) 1, oM (.invokevirtual 92) 3 134 2 0 2, o0 (.aload_n 0) 1, o0 (.iload 4) 2, oM (.invokevirtual 92) 3 134 2 0 2, o0 (.aload_n 0) 1, o0 (.iload 5) 2, oM (.invokevirtual 92) 3 134 2 0 2, o0 (.aload_n 0) 1, oF (.getfield 89) 3 1 0 0, oA .ireturn 1 0])], [], 6)
theorem mk_133 : mj_ckM mj_TY mp_1 prog_1_method_2_code 6 (some .int) mt_133 = true := by decide +kernel
-- UnbeatenHouse.putBytes(I)V
def mt_134 : mj_C := ([(0, [oV (.bipush 24) 2 24, o0 (.istore_n 2) 1]), (3, [o0 (.iload_n 2) 1, oA (.ifCond .lt 38) 3 42]), (7, [o0 (.aload_n 0) 1, oF (.getfield 19) 3 1 2 2, oF (.getfield 96) 3 8 1 2, o0 (.aload_n 0) 1, oF (.getfield 89) 3 1 0 0, o0 (.iload_n 1) 1, o0 (.iload_n 2) 1, o0 .iushr 1, oV (.sipush 255) 3 255, o0 .iand 1, o0 .iastore 1, o0 (.aload_n 0) 1, o0 .dup 1, oF (.getfield 89) 3 1 0 0, oV (.iconst 1) 1 1, o0 .iadd 1, oF (.putfield 89) 3 1 0 0, oV (.iinc 2 (-8)) 3 (-8), oA (.goto (-36)) 3 3]), (42, [o0 .return_ 1])], [(3, [0, 1, 2])], 3)
theorem mk_134 : mj_ckM mj_TY mp_1 prog_1_method_3_code 3 none mt_134 = true := by decide +kernel
-- UnbeatenHouse.end(I)Z
def mt_135 : mj_C := ([(0, [o0 (.iload_n 1) 1, oA (.ifCond .lt 11) 3 12]), (4, [o0 (.iload_n 1) 1, o0 (.aload_n 0) 1, oF (.getfield 89) 3 1 0 0, oA (.if_icmp .le 5) 3 14]), (12, [oV (.iconst 0) 1 0, oA .ireturn 1 1]), (14, [o0 (.aload_n 0) 1, o0 (.iload_n 1) 1, oF (.putfield 89) 3 1 0 0, oV (.iconst 1) 1 1, oA .ireturn 1 1])], [], 2)
theorem mk_135 : mj_ckM mj_TY mp_1 prog_1_method_4_code 2 (some .boolean) mt_135 = true := by decide +kernel
-- UnbeatenHouse.text()I
def mt_136 : mj_C := ([(0, [o0 (.aload_n 0) 1, oF (.getfield 89) 3 1 0 0, o0 (.istore_n 1) 1, o0 (.aload_n 0) 1, oV (.iconst 0) 1 0, oF (.putfield 89) 3 1 0 0, o0 (.aload_n 0) 1, oF (.getfield 19) 3 1 2 2, o0 (.iload_n 1) 1, oM (.invokevirtual 100) 3 137 2 1 9, oA (.ifCond .ne 5) 3 23]), (21, [oV (.iconst (-1)) 1 (-1), oA .ireturn 1 0]), (23, [o0 (.aload_n 0) 1, o0 (.aload_n 0) 1, oF (.getfield 19) 3 1 2 2, o0 (.aload_n 0) 1, oF (.getfield 10) 3 1 1 2, oM (.invokevirtual 104) 3 172 2 3 9]), (35, [oF (.putfield 10) 3 1 1 2]), (38, [o0 (.aload_n 0) 1, oF (.getfield 26) 3 1 3 2, o0 (.aload_n 0) 1, oF (.getfield 10) 3 1 1 2, oM (.invokevirtual 108) 3 173 2 0 10, o0 (.aload_n 0) 1, oF (.getfield 47) 3 1 6 2, oM (.invokevirtual 112) 3 181 1 0 3, o0 (.aload_n 0) 1, oV (.bipush (-3)) 2 (-3), oF (.putfield 57) 3 1 9 0, o0 (.aload_n 0) 1, oF (.getfield 64) 3 1 10 2, oM (.invokevirtual 115) 3 183 1 0 7, o0 (.aload_n 0) 1, oW (.lconst 0) 1 0, oF (.putfield 118) 3 1 14 1, o0 (.aload_n 0) 1, oW (.lconst 0) 1 0, oF (.putfield 122) 3 1 15 1, o0 (.aload_n 0) 1, oF (.getfield 78) 3 1 12 2, oM (.invokevirtual 125) 3 184 1 0 11, o0 (.aload_n 0) 1, oF (.getfield 85) 3 1 13 2, oM (.invokevirtual 126) 3 185 1 0 6, o0 (.aload_n 0) 1, oF (.getfield 71) 3 1 11 2, o0 (.aload_n 0) 1, oF (.getfield 71) 3 1 11 2, oF (.getfield 127) 3 12 0 0, o0 (.aload_n 0) 1, oF (.getfield 10) 3 1 1 2, oF (.getfield 130) 3 11 1 2, oV (.iconst 0) 1 0, o0 .iaload 1, oM (.invokevirtual 133) 3 186 3 0 13, o0 (.aload_n 0) 1, oF (.getfield 10) 3 1 1 2, oF (.getfield 137) 3 11 0 0, oA .ireturn 1 0])], [(35, [0]), (38, [0])], 2)
theorem mk_136 : mj_ckM mj_TY mp_1 prog_1_method_5_code 2 (some .int) mt_136 = true := by decide +kernel
-- UnbeatenHouse$Reader.read(I)Z
def mt_137 : mj_C := ([(0, [o0 (.aload_n 0) 1, o0 (.iload_n 1) 1, oF (.putfield 37) 3 8 2 0, o0 (.aload_n 0) 1, oF (.getfield 21) 3 8 3 2, oM (.invokevirtual 40) 3 138 1 0 12, o0 (.aload_n 0) 1, oV (.iconst 0) 1 0, oF (.putfield 43) 3 8 4 0, o0 (.aload_n 0) 1, oV (.iconst 0) 1 0, oF (.putfield 46) 3 8 5 0, o0 (.aload_n 0) 1, oV (.iconst 0) 1 0, oF (.putfield 49) 3 8 9 0, o0 (.aload_n 0) 1, oV (.iconst 0) 1 0, oF (.putfield 52) 3 8 10 0]), (32, [o0 (.aload_n 0) 1, oV (.iconst (-1)) 1 (-1), oF (.putfield 25) 3 8 11 0, o0 (.aload_n 0) 1, oM (.invokevirtual 55) 3 139 1 0 9, oV (.iconst 0) 1 0, o0 (.istore_n 2) 1]), (43, [o0 (.iload_n 2) 1, oV (.sipush 900) 3 900, oA (.if_icmp .ge 46) 3 93]), (50, [o0 (.aload_n 0) 1, oF (.getfield 46) 3 8 5 0, oA (.ifCond .eq 39) 3 93]), (57, [o0 (.aload_n 0) 1, oF (.getfield 52) 3 8 10 0, oA (.ifCond .ne 32) 3 93]), (64, [o0 (.aload_n 0) 1, oM (.invokevirtual 58) 3 142 1 0 9, o0 (.aload_n 0) 1, oV (.bipush 59) 2 59, oM (.invokevirtual 61) 3 163 2 0 9, o0 (.aload_n 0) 1, oF (.getfield 21) 3 8 3 2, o0 .dup 1, oF (.getfield 65) 3 11 0 0, oV (.iconst 1) 1 1, o0 .iadd 1, oF (.putfield 65) 3 11 0 0, oV (.iinc 2 1) 3 1, oA (.goto (-47)) 3 43]), (93, [o0 (.aload_n 0) 1, oF (.getfield 52) 3 8 10 0, oA (.ifCond .ne 7) 3 104]), (100, [oV (.iconst 1) 1 1, oA (.goto 4) 3 105]), (104, [oV (.iconst 0) 1 0]), (105, [oA .ireturn 1 1])], [(32, [0]), (43, [0, 2])], 3)
theorem mk_137 : mj_ckM mj_TY mp_8 prog_8_method_3_code 3 (some .boolean) mt_137 = true := by decide +kernel
-- UnbeatenHouse$Tale.clear()V
def mt_138 : mj_C := ([(0, [o0 (.aload_n 0) 1, oV (.iconst 0) 1 0, oF (.putfield 40) 3 11 0 0, o0 (.aload_n 0) 1, oV (.iconst 0) 1 0, oF (.putfield 44) 3 11 9 0, oV (.iconst 0) 1 0, o0 (.istore_n 1) 1]), (12, [o0 (.iload_n 1) 1, oV (.bipush 6) 2 6, oA (.if_icmp .ge 16) 3 31]), (18, [o0 (.aload_n 0) 1, oF (.getfield 9) 3 11 1 2, o0 (.iload_n 1) 1, oV (.iconst 0) 1 0, o0 .iastore 1, oV (.iinc 1 1) 3 1, oA (.goto (-16)) 3 12]), (31, [o0 .return_ 1])], [(12, [0, 1])], 2)
theorem mk_138 : mj_ckM mj_TY mp_11 prog_11_method_3_code 2 none mt_138 = true := by decide +kernel
-- UnbeatenHouse$Reader.advance()V
def mt_139 : mj_C := ([(0, [o0 (.aload_n 0) 1, oF (.getfield 46) 3 8 5 0, oV (.iconst 3) 1 3, oA (.if_icmp .eq 11) 3 16]), (8, [o0 (.aload_n 0) 1, oF (.getfield 46) 3 8 5 0, oV (.iconst 2) 1 2, oA (.if_icmp .ne 7) 3 20]), (16, [oV (.iconst 1) 1 1, oA (.goto 4) 3 21]), (20, [oV (.iconst 0) 1 0]), (21, [o0 (.istore_n 1) 1, o0 (.aload_n 0) 1, oF (.getfield 43) 3 8 4 0, o0 (.istore_n 2) 1, o0 (.aload_n 0) 1, oF (.getfield 43) 3 8 4 0, o0 (.istore_n 3) 1]), (32, [o0 (.iload_n 3) 1, o0 (.aload_n 0) 1, oF (.getfield 37) 3 8 2 0, oA (.if_icmp .ge 38) 3 75]), (40, [o0 (.aload_n 0) 1, oF (.getfield 15) 3 8 1 2, o0 (.iload_n 3) 1, o0 .iaload 1, oV (.bipush 32) 2 32, oA (.if_icmp .eq 14) 3 62]), (51, [o0 (.aload_n 0) 1, oF (.getfield 15) 3 8 1 2, o0 (.iload_n 3) 1, o0 .iaload 1, oV (.bipush 10) 2 10, oA (.if_icmp .ne 16) 3 75]), (62, [o0 (.aload_n 0) 1, o0 (.iload_n 3) 1, oV (.iconst 1) 1 1, o0 .iadd 1, oF (.putfield 43) 3 8 4 0, oV (.iinc 3 1) 3 1, oA (.goto (-40)) 3 32]), (75, [o0 (.aload_n 0) 1, o0 (.aload_n 0) 1, oF (.getfield 43) 3 8 4 0, oF (.putfield 68) 3 8 8 0, o0 (.aload_n 0) 1, oV (.iconst (-1)) 1 (-1), oF (.putfield 71) 3 8 7 0, o0 (.aload_n 0) 1, oV (.iconst 0) 1 0, oF (.putfield 74) 3 8 6 0, o0 (.aload_n 0) 1, oF (.getfield 43) 3 8 4 0, o0 (.aload_n 0) 1, oF (.getfield 37) 3 8 2 0, oA (.if_icmp .lt 9) 3 110]), (104, [o0 (.aload_n 0) 1, oV (.iconst 0) 1 0, oF (.putfield 46) 3 8 5 0, o0 .return_ 1]), (110, [o0 (.aload_n 0) 1, o0 (.aload_n 0) 1, oF (.getfield 15) 3 8 1 2, o0 (.aload_n 0) 1, oF (.getfield 43) 3 8 4 0, o0 .iaload 1, oM (.invokestatic 77) 3 140 1 1 0, oF (.putfield 46) 3 8 5 0, o0 (.aload_n 0) 1, oF (.getfield 46) 3 8 5 0, oV (.iconst 1) 1 1, oA (.if_icmp .ne 27) 3 158]), (134, [o0 (.aload_n 0) 1, o0 (.aload_n 0) 1, oF (.getfield 15) 3 8 1 2, o0 (.aload_n 0) 1, oF (.getfield 43) 3 8 4 0, o0 .iaload 1, oF (.putfield 74) 3 8 6 0, o0 (.aload_n 0) 1, o0 .dup 1, oF (.getfield 43) 3 8 4 0, oV (.iconst 1) 1 1, o0 .iadd 1, oF (.putfield 43) 3 8 4 0, o0 .return_ 1]), (158, [o0 (.aload_n 0) 1, oF (.getfield 46) 3 8 5 0, oV (.iconst 3) 1 3, oA (.if_icmp .ne 8) 3 171]), (166, [oV (.bipush 6) 2 6, oA (.goto 4) 3 172]), (171, [oV (.iconst 4) 1 4]), (172, [o0 (.istore_n 3) 1, o0 (.aload_n 0) 1, oF (.getfield 37) 3 8 2 0, o0 (.aload_n 0) 1, oF (.getfield 43) 3 8 4 0, o0 (.iload_n 3) 1, o0 .iadd 1, oM (.invokestatic 81) 3 0 2 1 0, o0 (.istore 4) 2, o0 (.aload_n 0) 1, oF (.getfield 43) 3 8 4 0, o0 (.istore 5) 2]), (194, [o0 (.iload 5) 2, o0 (.iload 4) 2, oA (.if_icmp .ge 85) 3 283]), (201, [o0 (.aload_n 0) 1, oF (.getfield 15) 3 8 1 2, o0 (.iload 5) 2, o0 .iaload 1, oM (.invokestatic 77) 3 140 1 1 0, o0 (.aload_n 0) 1, oF (.getfield 46) 3 8 5 0, oA (.if_icmp .ne 68) 3 283]), (218, [o0 (.aload_n 0) 1, o0 (.aload_n 0) 1, oF (.getfield 46) 3 8 5 0, oV (.iconst 3) 1 3, oA (.if_icmp .ne 24) 3 248]), (227, [o0 (.aload_n 0) 1, oF (.getfield 74) 3 8 6 0, oV (.bipush 32) 2 32, o0 .imul 1, o0 (.aload_n 0) 1, oF (.getfield 15) 3 8 1 2, o0 (.iload 5) 2, o0 .iaload 1, o0 .iadd 1, oV (.bipush 96) 2 96, o0 .isub 1, oA (.goto 21) 3 266]), (248, [o0 (.aload_n 0) 1, oF (.getfield 74) 3 8 6 0, oV (.bipush 10) 2 10, o0 .imul 1, o0 (.aload_n 0) 1, oF (.getfield 15) 3 8 1 2, o0 (.iload 5) 2, o0 .iaload 1, o0 .iadd 1, oV (.bipush 48) 2 48, o0 .isub 1]), (266, [oF (.putfield 74) 3 8 6 0, o0 (.aload_n 0) 1, o0 (.iload 5) 2, oV (.iconst 1) 1 1, o0 .iadd 1, oF (.putfield 43) 3 8 4 0, oV (.iinc 5 1) 3 1, oA (.goto (-86)) 3 194]), (283, [o0 (.aload_n 0) 1, oF (.getfield 43) 3 8 4 0, o0 (.aload_n 0) 1, oF (.getfield 37) 3 8 2 0, oA (.if_icmp .ge 38) 3 329]), (294, [o0 (.aload_n 0) 1, oF (.getfield 15) 3 8 1 2, o0 (.aload_n 0) 1, oF (.getfield 43) 3 8 4 0, o0 .iaload 1, oM (.invokestatic 77) 3 140 1 1 0, o0 (.aload_n 0) 1, oF (.getfield 46) 3 8 5 0, oA (.if_icmp .ne 19) 3 329]), (313, [o0 (.aload_n 0) 1, oV (.iconst 4) 1 4, oF (.putfield 46) 3 8 5 0, o0 (.aload_n 0) 1, o0 (.aload_n 0) 1, oF (.getfield 43) 3 8 4 0, oF (.putfield 68) 3 8 8 0, oA (.goto 43) 3 369]), (329, [o0 (.iload_n 1) 1, oA (.ifCond .eq 19) 3 349]), (333, [o0 (.aload_n 0) 1, oF (.getfield 68) 3 8 8 0, o0 (.iload_n 2) 1, oA (.if_icmp .ne 11) 3 349]), (341, [o0 (.aload_n 0) 1, oV (.iconst 4) 1 4, oF (.putfield 46) 3 8 5 0, oA (.goto 23) 3 369]), (349, [o0 (.aload_n 0) 1, oF (.getfield 46) 3 8 5 0, oV (.iconst 3) 1 3, oA (.if_icmp .ne 15) 3 369]), (357, [o0 (.aload_n 0) 1, o0 (.aload_n 0) 1, o0 (.aload_n 0) 1, oF (.getfield 74) 3 8 6 0, oM (.invokevirtual 87) 3 141 2 1 9, oF (.putfield 71) 3 8 7 0]), (369, [o0 .return_ 1])], [(32, [0, 1, 2, 3]), (75, [0, 1, 2]), (194, [0, 1, 2, 4, 5]), (283, [0, 1, 2]), (329, [0, 1, 2]), (349, [0])], 6)
theorem mk_139 : mj_ckM mj_TY mp_8 prog_8_method_5_code 6 none mt_139 = true := by decide +kernel
-- UnbeatenHouse$Reader.kindOf(I)I
def mt_140 : mj_C := ([(0, [o0 (.iload_n 0) 1, oV (.bipush 97) 2 97, oA (.if_icmp .lt 11) 3 14]), (6, [o0 (.iload_n 0) 1, oV (.bipush 122) 2 122, oA (.if_icmp .gt 5) 3 14]), (12, [oV (.iconst 3) 1 3, oA .ireturn 1 0]), (14, [o0 (.iload_n 0) 1, oV (.bipush 48) 2 48, oA (.if_icmp .lt 13) 3 30]), (20, [o0 (.iload_n 0) 1, oV (.bipush 57) 2 57, oA (.if_icmp .gt 7) 3 30]), (26, [oV (.iconst 2) 1 2, oA (.goto 4) 3 31]), (30, [oV (.iconst 1) 1 1]), (31, [oA .ireturn 1 0])], [(14, [0])], 1)
theorem mk_140 : mj_ckM mj_TY mp_8 prog_8_method_6_code 1 (some .int) mt_140 = true := by decide +kernel
-- UnbeatenHouse$Reader.ownNumber(I)I
def mt_141 : mj_C := ([(0, [oV (.iconst 0) 1 0, o0 (.istore_n 2) 1]), (2, [o0 (.iload_n 2) 1, oV (.bipush 17) 2 17, oA (.if_icmp .ge 21) 3 26]), (8, [o0 (.aload_n 0) 1, oF (.getfield 9) 3 8 0 2, o0 (.iload_n 2) 1, o0 .iaload 1, o0 (.iload_n 1) 1, oA (.if_icmp .ne 5) 3 20]), (18, [o0 (.iload_n 2) 1, oA .ireturn 1 0]), (20, [oV (.iinc 2 1) 3 1, oA (.goto (-21)) 3 2]), (26, [oV (.iconst (-1)) 1 (-1), oA .ireturn 1 0])], [(2, [0, 1, 2])], 3)
theorem mk_141 : mj_ckM mj_TY mp_8 prog_8_method_7_code 3 (some .int) mt_141 = true := by decide +kernel
-- UnbeatenHouse$Reader.readStatement()V
def mt_142 : mj_C := ([(0, [o0 (.aload_n 0) 1, oF (.getfield 71) 3 8 7 0, o0 (.istore_n 1) 1, o0 (.iload_n 1) 1, oA (.ifCond .lt 8) 3 14]), (9, [o0 (.iload_n 1) 1, oV (.iconst 5) 1 5, oA (.if_icmp .le 9) 3 20]), (14, [o0 (.aload_n 0) 1, oV (.iconst 1) 1 1, oM (.invokevirtual 94) 3 143 2 0 9, o0 .return_ 1]), (20, [o0 (.aload_n 0) 1, oF (.getfield 21) 3 8 3 2, oF (.getfield 111) 3 11 1 2, o0 (.iload_n 1) 1, o0 .iaload 1, o0 (.getstatic 114) 3, o0 (.iload_n 1) 1, o0 .iaload 1, oA (.if_icmp .lt 9) 3 43]), (37, [o0 (.aload_n 0) 1, oV (.iconst 5) 1 5, oM (.invokevirtual 94) 3 143 2 0 9, o0 .return_ 1]), (43, [o0 (.aload_n 0) 1, o0 (.iload_n 1) 1, oM (.invokevirtual 117) 3 144 2 1 9, oA (.ifCond .eq 10) 3 58]), (51, [o0 (.aload_n 0) 1, oV (.bipush 6) 2 6, oM (.invokevirtual 94) 3 143 2 0 9, o0 .return_ 1]), (58, [o0 (.aload_n 0) 1, oM (.invokevirtual 55) 3 139 1 0 9, o0 (.iload_n 1) 1, oT (.tableswitch 73 0 5 #[37, 66, 44, 52, 73, 59]) 37 136 [(0, 100), (1, 129), (2, 107), (3, 115), (4, 136), (5, 122)]]), (100, [o0 (.aload_n 0) 1, oM (.invokevirtual 120) 3 145 1 0 9, oA (.goto 36) 3 140]), (107, [o0 (.aload_n 0) 1, oV (.iconst 2) 1 2, oM (.invokevirtual 123) 3 146 2 0 9, oA (.goto 28) 3 140]), (115, [o0 (.aload_n 0) 1, oM (.invokevirtual 126) 3 151 1 0 9, oA (.goto 21) 3 140]), (122, [o0 (.aload_n 0) 1, oM (.invokevirtual 129) 3 156 1 0 9, oA (.goto 14) 3 140]), (129, [o0 (.aload_n 0) 1, oM (.invokevirtual 132) 3 170 1 0 9, oA (.goto 7) 3 140]), (136, [o0 (.aload_n 0) 1, oM (.invokevirtual 135) 3 171 1 0 9]), (140, [o0 .return_ 1])], [], 2)
theorem mk_142 : mj_ckM mj_TY mp_8 prog_8_method_14_code 2 none mt_142 = true := by decide +kernel
-- UnbeatenHouse$Reader.blame(I)V
def mt_143 : mj_C := ([(0, [o0 (.aload_n 0) 1, oF (.getfield 52) 3 8 10 0, oA (.ifCond .ne 16) 3 20]), (7, [o0 (.aload_n 0) 1, o0 (.iload_n 1) 1, oF (.putfield 52) 3 8 10 0, o0 (.aload_n 0) 1, o0 (.aload_n 0) 1, oF (.getfield 68) 3 8 8 0, oF (.putfield 25) 3 8 11 0]), (20, [o0 (.aload_n 0) 1, oV (.iconst 4) 1 4, oF (.putfield 46) 3 8 5 0, o0 (.aload_n 0) 1, oV (.iconst (-1)) 1 (-1), oF (.putfield 71) 3 8 7 0, o0 .return_ 1])], [], 2)
theorem mk_143 : mj_ckM mj_TY mp_8 prog_8_method_4_code 2 none mt_143 = true := by decide +kernel
-- UnbeatenHouse$Reader.isOutOfTurn(I)Z
def mt_144 : mj_C := ([(0, [o0 (.iload_n 1) 1, oA (.ifCond .ne 41) 3 42]), (4, [o0 (.aload_n 0) 1, oF (.getfield 21) 3 8 3 2, oF (.getfield 111) 3 11 1 2, oV (.iconst 1) 1 1, o0 .iaload 1, o0 (.aload_n 0) 1, oF (.getfield 21) 3 8 3 2, oF (.getfield 111) 3 11 1 2, oV (.iconst 3) 1 3, o0 .iaload 1, o0 .iadd 1, o0 (.aload_n 0) 1, oF (.getfield 21) 3 8 3 2, oF (.getfield 111) 3 11 1 2, oV (.iconst 4) 1 4, o0 .iaload 1, o0 .iadd 1, oA (.ifCond .le 7) 3 40]), (36, [oV (.iconst 1) 1 1, oA (.goto 4) 3 41]), (40, [oV (.iconst 0) 1 0]), (41, [oA .ireturn 1 1]), (42, [o0 (.iload_n 1) 1, oV (.iconst 1) 1 1, oA (.if_icmp .eq 13) 3 57]), (47, [o0 (.iload_n 1) 1, oV (.iconst 3) 1 3, oA (.if_icmp .eq 8) 3 57]), (52, [o0 (.iload_n 1) 1, oV (.iconst 4) 1 4, oA (.if_icmp .ne 19) 3 73]), (57, [o0 (.aload_n 0) 1, oF (.getfield 21) 3 8 3 2, oF (.getfield 111) 3 11 1 2, oV (.iconst 0) 1 0, o0 .iaload 1, oA (.ifCond .ne 7) 3 73]), (69, [oV (.iconst 1) 1 1, oA (.goto 4) 3 74]), (73, [oV (.iconst 0) 1 0]), (74, [oA .ireturn 1 1])], [(57, [0])], 2)
theorem mk_144 : mj_ckM mj_TY mp_8 prog_8_method_15_code 2 (some .boolean) mt_144 = true := by decide +kernel
-- UnbeatenHouse$Reader.readWish()V
def mt_145 : mj_C := ([(0, [o0 (.aload_n 0) 1, oF (.getfield 21) 3 8 3 2, oF (.getfield 111) 3 11 1 2, oV (.iconst 0) 1 0, o0 .iaload 1, o0 (.istore_n 1) 1, o0 (.aload_n 0) 1, oV (.iconst 0) 1 0, oM (.invokevirtual 123) 3 146 2 0 9, o0 (.aload_n 0) 1, oF (.getfield 71) 3 8 7 0, oV (.bipush 6) 2 6, oA (.if_icmp .eq 12) 3 33]), (24, [o0 (.aload_n 0) 1, oF (.getfield 71) 3 8 7 0, oV (.bipush 7) 2 7, oA (.if_icmp .ne 33) 3 63]), (33, [o0 (.aload_n 0) 1, oF (.getfield 21) 3 8 3 2, oF (.getfield 138) 3 11 3 2, o0 (.iload_n 1) 1, o0 (.aload_n 0) 1, oF (.getfield 71) 3 8 7 0, oV (.bipush 7) 2 7, oA (.if_icmp .ne 7) 3 54]), (50, [oV (.iconst 1) 1 1, oA (.goto 4) 3 55]), (54, [oV (.iconst 0) 1 0]), (55, [o0 .bastore 1, o0 (.aload_n 0) 1, oM (.invokevirtual 55) 3 139 1 0 9, oA (.goto 8) 3 68]), (63, [o0 (.aload_n 0) 1, oV (.iconst 1) 1 1, oM (.invokevirtual 94) 3 143 2 0 9]), (68, [o0 .return_ 1])], [(33, [0, 1])], 2)
theorem mk_145 : mj_ckM mj_TY mp_8 prog_8_method_16_code 2 none mt_145 = true := by decide +kernel
-- UnbeatenHouse$Reader.giveName(I)V
def mt_146 : mj_C := ([(0, [o0 (.aload_n 0) 1, oM (.invokevirtual 97) 3 147 1 1 9, oA (.ifCond .ne 11) 3 15]), (7, [o0 (.aload_n 0) 1, oV (.iconst 1) 1 1, oM (.invokevirtual 94) 3 143 2 0 9, oA (.goto 41) 3 53]), (15, [o0 (.aload_n 0) 1, oF (.getfield 21) 3 8 3 2, o0 (.aload_n 0) 1, oF (.getfield 74) 3 8 6 0, oM (.invokevirtual 101) 3 148 2 1 12, oA (.ifCond .eq 11) 3 37]), (29, [o0 (.aload_n 0) 1, oV (.iconst 2) 1 2, oM (.invokevirtual 94) 3 143 2 0 9, oA (.goto 19) 3 53]), (37, [o0 (.aload_n 0) 1, oF (.getfield 21) 3 8 3 2, o0 (.iload_n 1) 1, o0 (.aload_n 0) 1, oF (.getfield 74) 3 8 6 0, oM (.invokevirtual 104) 3 150 3 0 12, o0 (.aload_n 0) 1, oM (.invokevirtual 55) 3 139 1 0 9]), (53, [o0 .return_ 1])], [], 2)
theorem mk_146 : mj_ckM mj_TY mp_8 prog_8_method_12_code 2 none mt_146 = true := by decide +kernel
-- UnbeatenHouse$Reader.isName()Z
def mt_147 : mj_C := ([(0, [o0 (.aload_n 0) 1, oF (.getfield 46) 3 8 5 0, oV (.iconst 3) 1 3, oA (.if_icmp .ne 15) 3 20]), (8, [o0 (.aload_n 0) 1, oF (.getfield 71) 3 8 7 0, oV (.iconst (-1)) 1 (-1), oA (.if_icmp .ne 7) 3 20]), (16, [oV (.iconst 1) 1 1, oA (.goto 4) 3 21]), (20, [oV (.iconst 0) 1 0]), (21, [oA .ireturn 1 1])], [], 1)
theorem mk_147 : mj_ckM mj_TY mp_8 prog_8_method_11_code 1 (some .boolean) mt_147 = true := by decide +kernel
-- UnbeatenHouse$Tale.isGiven(I)Z
def mt_148 : mj_C := ([(0, [oV (.iconst 0) 1 0, o0 (.istore_n 2) 1]), (2, [o0 (.iload_n 2) 1, oV (.bipush 6) 2 6, oA (.if_icmp .ge 21) 3 26]), (8, [o0 (.aload_n 0) 1, o0 (.iload_n 2) 1, o0 (.iload_n 1) 1, oM (.invokevirtual 47) 3 149 3 1 12, oV (.iconst (-1)) 1 (-1), oA (.if_icmp .eq 5) 3 20]), (18, [oV (.iconst 1) 1 1, oA .ireturn 1 1]), (20, [oV (.iinc 2 1) 3 1, oA (.goto (-21)) 3 2]), (26, [oV (.iconst 0) 1 0, oA .ireturn 1 1])], [(2, [0, 1, 2])], 3)
theorem mk_148 : mj_ckM mj_TY mp_11 prog_11_method_6_code 3 (some .boolean) mt_148 = true := by decide +kernel
-- UnbeatenHouse$Tale.find(II)I
def mt_149 : mj_C := ([(0, [o0 (.iload_n 1) 1, oV (.iconst 3) 1 3, oA (.if_icmp .eq 8) 3 10]), (5, [o0 (.iload_n 1) 1, oV (.iconst 5) 1 5, oA (.if_icmp .ne 5) 3 12]), (10, [oV (.iconst (-1)) 1 (-1), oA .ireturn 1 0]), (12, [oV (.iconst 0) 1 0, o0 (.istore_n 3) 1]), (14, [o0 (.iload_n 3) 1, o0 (.aload_n 0) 1, oF (.getfield 9) 3 11 1 2, o0 (.iload_n 1) 1, o0 .iaload 1, oA (.if_icmp .ge 26) 3 47]), (24, [o0 (.aload_n 0) 1, oF (.getfield 15) 3 11 2 2, o0 (.iload_n 1) 1, oV (.bipush 40) 2 40, o0 .imul 1, o0 (.iload_n 3) 1, o0 .iadd 1, o0 .iaload 1, o0 (.iload_n 2) 1, oA (.if_icmp .ne 5) 3 41]), (39, [o0 (.iload_n 3) 1, oA .ireturn 1 0]), (41, [oV (.iinc 3 1) 3 1, oA (.goto (-30)) 3 14]), (47, [oV (.iconst (-1)) 1 (-1), oA .ireturn 1 0])], [(14, [0, 1, 2, 3])], 4)
theorem mk_149 : mj_ckM mj_TY mp_11 prog_11_method_5_code 4 (some .int) mt_149 = true := by decide +kernel
-- UnbeatenHouse$Tale.give(II)V
def mt_150 : mj_C := ([(0, [o0 (.aload_n 0) 1, oF (.getfield 15) 3 11 2 2, o0 (.iload_n 1) 1, oV (.bipush 40) 2 40, o0 .imul 1, o0 (.aload_n 0) 1, oF (.getfield 9) 3 11 1 2, o0 (.iload_n 1) 1, o0 .iaload 1, o0 .iadd 1, o0 (.iload_n 2) 1, o0 .iastore 1, o0 (.aload_n 0) 1, oF (.getfield 9) 3 11 1 2, o0 (.iload_n 1) 1, o0 .dup2 1, o0 .iaload 1, oV (.iconst 1) 1 1, o0 .iadd 1, o0 .iastore 1, o0 .return_ 1])], [], 3)
theorem mk_150 : mj_ckM mj_TY mp_11 prog_11_method_7_code 3 none mt_150 = true := by decide +kernel
-- UnbeatenHouse$Reader.readTie()V
def mt_151 : mj_C := ([(0, [o0 (.aload_n 0) 1, oF (.getfield 21) 3 8 3 2, oF (.getfield 111) 3 11 1 2, oV (.iconst 3) 1 3, o0 .iaload 1, o0 (.istore_n 1) 1, o0 (.aload_n 0) 1, oF (.getfield 21) 3 8 3 2, oF (.getfield 142) 3 11 6 2, o0 (.iload_n 1) 1, o0 (.aload_n 0) 1, oV (.iconst 2) 1 2, oV (.iconst (-1)) 1 (-1), oM (.invokevirtual 145) 3 152 3 1 9, o0 .iastore 1, o0 (.aload_n 0) 1, oF (.getfield 21) 3 8 3 2, oF (.getfield 148) 3 11 7 2, o0 (.iload_n 1) 1, o0 (.aload_n 0) 1, oV (.iconst 2) 1 2, o0 (.aload_n 0) 1, oF (.getfield 21) 3 8 3 2, oF (.getfield 142) 3 11 6 2, o0 (.iload_n 1) 1, o0 .iaload 1, oM (.invokevirtual 145) 3 152 3 1 9, o0 .iastore 1, o0 (.aload_n 0) 1, oV (.iconst 3) 1 3, o0 (.iload_n 1) 1, oM (.invokevirtual 151) 3 153 3 0 9, o0 (.aload_n 0) 1, oF (.getfield 21) 3 8 3 2, oF (.getfield 111) 3 11 1 2, oV (.iconst 3) 1 3, o0 .dup2 1, o0 .iaload 1, oV (.iconst 1) 1 1, o0 .iadd 1, o0 .iastore 1, o0 .return_ 1])], [], 2)
theorem mk_151 : mj_ckM mj_TY mp_8 prog_8_method_17_code 2 none mt_151 = true := by decide +kernel
-- UnbeatenHouse$Reader.askName(II)I
def mt_152 : mj_C := ([(0, [o0 (.aload_n 0) 1, oM (.invokevirtual 97) 3 147 1 1 9, oA (.ifCond .ne 10) 3 14]), (7, [o0 (.aload_n 0) 1, oV (.iconst 1) 1 1, oM (.invokevirtual 94) 3 143 2 0 9, oV (.iconst (-1)) 1 (-1), oA .ireturn 1 0]), (14, [o0 (.aload_n 0) 1, oF (.getfield 21) 3 8 3 2, o0 (.iload_n 1) 1, o0 (.aload_n 0) 1, oF (.getfield 74) 3 8 6 0, oM (.invokevirtual 108) 3 149 3 1 12, o0 (.istore_n 3) 1, o0 (.iload_n 3) 1, oV (.iconst (-1)) 1 (-1), oA (.if_icmp .eq 8) 3 37]), (32, [o0 (.iload_n 3) 1, o0 (.iload_n 2) 1, oA (.if_icmp .ne 10) 3 44]), (37, [o0 (.aload_n 0) 1, oV (.iconst 3) 1 3, oM (.invokevirtual 94) 3 143 2 0 9, oV (.iconst (-1)) 1 (-1), oA .ireturn 1 0]), (44, [o0 (.aload_n 0) 1, oM (.invokevirtual 55) 3 139 1 0 9, o0 (.iload_n 3) 1, oA .ireturn 1 0])], [], 4)
theorem mk_152 : mj_ckM mj_TY mp_8 prog_8_method_13_code 4 (some .int) mt_152 = true := by decide +kernel
-- UnbeatenHouse$Reader.readAmounts(II)V
def mt_153 : mj_C := ([(0, [oV (.iconst 0) 1 0, o0 (.istore_n 3) 1]), (2, [o0 (.iload_n 3) 1, o0 (.aload_n 0) 1, oF (.getfield 21) 3 8 3 2, oF (.getfield 111) 3 11 1 2, oV (.iconst 0) 1 0, o0 .iaload 1, oA (.if_icmp .ge 27) 3 39]), (15, [o0 (.aload_n 0) 1, oF (.getfield 21) 3 8 3 2, oF (.getfield 154) 3 11 4 2, o0 (.iload_n 1) 1, o0 (.iload_n 2) 1, o0 (.iload_n 3) 1, oM (.invokestatic 157) 3 154 3 1 0, o0 (.aload_n 0) 1, oM (.invokevirtual 161) 3 155 1 1 9, o0 .iastore 1, oV (.iinc 3 1) 3 1, oA (.goto (-34)) 3 2]), (39, [o0 .return_ 1])], [(2, [0, 1, 2, 3])], 4)
theorem mk_153 : mj_ckM mj_TY mp_8 prog_8_method_19_code 4 none mt_153 = true := by decide +kernel
-- UnbeatenHouse$Tale.slot(III)I
def mt_154 : mj_C := ([(0, [o0 (.iload_n 0) 1, oV (.bipush 40) 2 40, o0 .imul 1, o0 (.iload_n 1) 1, o0 .iadd 1, oV (.iconst 4) 1 4, o0 .imul 1, o0 (.iload_n 2) 1, o0 .iadd 1, oA .ireturn 1 0])], [], 3)
theorem mk_154 : mj_ckM mj_TY mp_11 prog_11_method_2_code 3 (some .int) mt_154 = true := by decide +kernel
-- UnbeatenHouse$Reader.takeNumber()I
def mt_155 : mj_C := ([(0, [o0 (.aload_n 0) 1, oF (.getfield 74) 3 8 6 0, o0 (.istore_n 1) 1, o0 (.aload_n 0) 1, oF (.getfield 46) 3 8 5 0, oV (.iconst 2) 1 2, oA (.if_icmp .eq 10) 3 20]), (13, [o0 (.aload_n 0) 1, oV (.iconst 1) 1 1, oM (.invokevirtual 94) 3 143 2 0 9, oV (.iconst 0) 1 0, oA .ireturn 1 0]), (20, [o0 (.aload_n 0) 1, oM (.invokevirtual 55) 3 139 1 0 9, o0 (.iload_n 1) 1, oA .ireturn 1 0])], [], 2)
theorem mk_155 : mj_ckM mj_TY mp_8 prog_8_method_10_code 2 (some .int) mt_155 = true := by decide +kernel
-- UnbeatenHouse$Reader.readRule()V
def mt_156 : mj_C := ([(0, [o0 (.aload_n 0) 1, oF (.getfield 21) 3 8 3 2, oF (.getfield 111) 3 11 1 2, oV (.iconst 5) 1 5, o0 .iaload 1, o0 (.istore_n 1) 1, o0 (.aload_n 0) 1, oM (.invokevirtual 168) 3 157 1 0 9, o0 (.aload_n 0) 1, oF (.getfield 21) 3 8 3 2, oF (.getfield 171) 3 11 10 2, o0 (.iload_n 1) 1, o0 (.aload_n 0) 1, oF (.getfield 21) 3 8 3 2, oF (.getfield 174) 3 11 9 0, o0 .iastore 1, o0 (.aload_n 0) 1, oF (.getfield 21) 3 8 3 2, oF (.getfield 111) 3 11 1 2, oV (.iconst 5) 1 5, o0 .dup2 1, o0 .iaload 1, oV (.iconst 1) 1 1, o0 .iadd 1, o0 .iastore 1, o0 .return_ 1])], [], 2)
theorem mk_156 : mj_ckM mj_TY mp_8 prog_8_method_21_code 2 none mt_156 = true := by decide +kernel
-- UnbeatenHouse$Reader.readTest()V
def mt_157 : mj_C := ([(0, [o0 (.aload_n 0) 1, oM (.invokevirtual 177) 3 158 1 0 9, oV (.iconst 0) 1 0, o0 (.istore_n 1) 1]), (6, [o0 (.iload_n 1) 1, oV (.sipush 900) 3 900, oA (.if_icmp .ge 36) 3 46]), (13, [o0 (.aload_n 0) 1, oF (.getfield 71) 3 8 7 0, oV (.bipush 8) 2 8, oA (.if_icmp .ne 27) 3 46]), (22, [o0 (.aload_n 0) 1, oM (.invokevirtual 55) 3 139 1 0 9, o0 (.aload_n 0) 1, oM (.invokevirtual 177) 3 158 1 0 9, o0 (.aload_n 0) 1, oF (.getfield 21) 3 8 3 2, oV (.bipush 8) 2 8, oV (.iconst 0) 1 0, oM (.invokevirtual 180) 3 164 3 0 12, oV (.iinc 1 1) 3 1, oA (.goto (-37)) 3 6]), (46, [o0 .return_ 1])], [(6, [0, 1])], 2)
theorem mk_157 : mj_ckM mj_TY mp_8 prog_8_method_22_code 2 none mt_157 = true := by decide +kernel
-- UnbeatenHouse$Reader.readBoth()V
def mt_158 : mj_C := ([(0, [o0 (.aload_n 0) 1, oM (.invokevirtual 183) 3 159 1 0 9, oV (.iconst 0) 1 0, o0 (.istore_n 1) 1]), (6, [o0 (.iload_n 1) 1, oV (.sipush 900) 3 900, oA (.if_icmp .ge 36) 3 46]), (13, [o0 (.aload_n 0) 1, oF (.getfield 71) 3 8 7 0, oV (.bipush 9) 2 9, oA (.if_icmp .ne 27) 3 46]), (22, [o0 (.aload_n 0) 1, oM (.invokevirtual 55) 3 139 1 0 9, o0 (.aload_n 0) 1, oM (.invokevirtual 183) 3 159 1 0 9, o0 (.aload_n 0) 1, oF (.getfield 21) 3 8 3 2, oV (.bipush 9) 2 9, oV (.iconst 0) 1 0, oM (.invokevirtual 180) 3 164 3 0 12, oV (.iinc 1 1) 3 1, oA (.goto (-37)) 3 6]), (46, [o0 .return_ 1])], [(6, [0, 1])], 2)
theorem mk_158 : mj_ckM mj_TY mp_8 prog_8_method_23_code 2 none mt_158 = true := by decide +kernel
-- UnbeatenHouse$Reader.readFact()V
def mt_159 : mj_C := ([(0, [oV (.iconst 0) 1 0, o0 (.istore_n 1) 1, oV (.iconst 0) 1 0, o0 (.istore_n 2) 1]), (4, [o0 (.iload_n 2) 1, oV (.sipush 900) 3 900, oA (.if_icmp .ge 32) 3 40]), (11, [o0 (.aload_n 0) 1, oF (.getfield 71) 3 8 7 0, oV (.bipush 10) 2 10, oA (.if_icmp .ne 23) 3 40]), (20, [o0 (.iload_n 1) 1, oA (.ifCond .ne 7) 3 28]), (24, [oV (.iconst 1) 1 1, oA (.goto 4) 3 29]), (28, [oV (.iconst 0) 1 0]), (29, [o0 (.istore_n 1) 1, o0 (.aload_n 0) 1, oM (.invokevirtual 55) 3 139 1 0 9, oV (.iinc 2 1) 3 1, oA (.goto (-33)) 3 4]), (40, [o0 (.aload_n 0) 1, oV (.bipush 91) 2 91, oM (.invokevirtual 90) 3 160 2 1 9, oA (.ifCond .eq 25) 3 71]), (49, [o0 (.aload_n 0) 1, oV (.bipush 91) 2 91, oM (.invokevirtual 186) 3 161 2 1 9, oA (.ifCond .eq 77) 3 132]), (58, [o0 (.aload_n 0) 1, oM (.invokevirtual 168) 3 157 1 0 9, o0 (.aload_n 0) 1, oV (.bipush 93) 2 93, oM (.invokevirtual 189) 3 162 2 0 9, oA (.goto 64) 3 132]), (71, [o0 (.aload_n 0) 1, oF (.getfield 71) 3 8 7 0, oV (.bipush 11) 2 11, oA (.if_icmp .ne 20) 3 97]), (80, [o0 (.aload_n 0) 1, oF (.getfield 21) 3 8 3 2, oV (.bipush 11) 2 11, oV (.iconst 0) 1 0, oM (.invokevirtual 180) 3 164 3 0 12, o0 (.aload_n 0) 1, oM (.invokevirtual 55) 3 139 1 0 9, oA (.goto 38) 3 132]), (97, [o0 (.aload_n 0) 1, oF (.getfield 71) 3 8 7 0, oV (.bipush 12) 2 12, oA (.if_icmp .ne 25) 3 128]), (106, [o0 (.aload_n 0) 1, oM (.invokevirtual 55) 3 139 1 0 9, o0 (.aload_n 0) 1, oF (.getfield 21) 3 8 3 2, oV (.bipush 12) 2 12, o0 (.aload_n 0) 1, oV (.iconst 4) 1 4, oV (.iconst (-1)) 1 (-1), oM (.invokevirtual 145) 3 152 3 1 9, oM (.invokevirtual 180) 3 164 3 0 12, oA (.goto 7) 3 132]), (128, [o0 (.aload_n 0) 1, oM (.invokevirtual 192) 3 165 1 0 9]), (132, [o0 (.iload_n 1) 1, oA (.ifCond .eq 13) 3 146]), (136, [o0 (.aload_n 0) 1, oF (.getfield 21) 3 8 3 2, oV (.bipush 10) 2 10, oV (.iconst 0) 1 0, oM (.invokevirtual 180) 3 164 3 0 12]), (146, [o0 .return_ 1])], [(4, [0, 1, 2]), (40, [0, 1])], 3)
theorem mk_159 : mj_ckM mj_TY mp_8 prog_8_method_24_code 3 none mt_159 = true := by decide +kernel
-- UnbeatenHouse$Reader.isSign(I)Z
def mt_160 : mj_C := ([(0, [o0 (.aload_n 0) 1, oF (.getfield 46) 3 8 5 0, oV (.iconst 1) 1 1, oA (.if_icmp .ne 15) 3 20]), (8, [o0 (.aload_n 0) 1, oF (.getfield 74) 3 8 6 0, o0 (.iload_n 1) 1, oA (.if_icmp .ne 7) 3 20]), (16, [oV (.iconst 1) 1 1, oA (.goto 4) 3 21]), (20, [oV (.iconst 0) 1 0]), (21, [oA .ireturn 1 1])], [], 2)
theorem mk_160 : mj_ckM mj_TY mp_8 prog_8_method_8_code 2 (some .boolean) mt_160 = true := by decide +kernel
-- UnbeatenHouse$Reader.opensOne(I)Z
def mt_161 : mj_C := ([(0, [o0 (.aload_n 0) 1, o0 (.iload_n 1) 1, oM (.invokevirtual 90) 3 160 2 1 9, oA (.ifCond .ne 10) 3 15]), (8, [o0 (.aload_n 0) 1, oV (.iconst 1) 1 1, oM (.invokevirtual 94) 3 143 2 0 9, oV (.iconst 0) 1 0, oA .ireturn 1 1]), (15, [o0 (.aload_n 0) 1, oF (.getfield 49) 3 8 9 0, oV (.bipush 8) 2 8, oA (.if_icmp .lt 10) 3 31]), (24, [o0 (.aload_n 0) 1, oV (.iconst 5) 1 5, oM (.invokevirtual 94) 3 143 2 0 9, oV (.iconst 0) 1 0, oA .ireturn 1 1]), (31, [o0 (.aload_n 0) 1, o0 .dup 1, oF (.getfield 49) 3 8 9 0, oV (.iconst 1) 1 1, o0 .iadd 1, oF (.putfield 49) 3 8 9 0, o0 (.aload_n 0) 1, oM (.invokevirtual 55) 3 139 1 0 9, oV (.iconst 1) 1 1, oA .ireturn 1 1])], [], 2)
theorem mk_161 : mj_ckM mj_TY mp_8 prog_8_method_30_code 2 (some .boolean) mt_161 = true := by decide +kernel
-- UnbeatenHouse$Reader.closeOne(I)V
def mt_162 : mj_C := ([(0, [o0 (.aload_n 0) 1, o0 (.iload_n 1) 1, oM (.invokevirtual 61) 3 163 2 0 9, o0 (.aload_n 0) 1, o0 .dup 1, oF (.getfield 49) 3 8 9 0, oV (.iconst 1) 1 1, o0 .isub 1, oF (.putfield 49) 3 8 9 0, o0 .return_ 1])], [], 2)
theorem mk_162 : mj_ckM mj_TY mp_8 prog_8_method_31_code 2 none mt_162 = true := by decide +kernel
-- UnbeatenHouse$Reader.take(I)V
def mt_163 : mj_C := ([(0, [o0 (.aload_n 0) 1, o0 (.iload_n 1) 1, oM (.invokevirtual 90) 3 160 2 1 9, oA (.ifCond .eq 10) 3 15]), (8, [o0 (.aload_n 0) 1, oM (.invokevirtual 55) 3 139 1 0 9, oA (.goto 8) 3 20]), (15, [o0 (.aload_n 0) 1, oV (.iconst 1) 1 1, oM (.invokevirtual 94) 3 143 2 0 9]), (20, [o0 .return_ 1])], [], 2)
theorem mk_163 : mj_ckM mj_TY mp_8 prog_8_method_9_code 2 none mt_163 = true := by decide +kernel
-- UnbeatenHouse$Tale.addStep(II)V
def mt_164 : mj_C := ([(0, [o0 (.aload_n 0) 1, oF (.getfield 44) 3 11 9 0, oV (.sipush 900) 3 900, oA (.if_icmp .ge 33) 3 40]), (10, [o0 (.aload_n 0) 1, oF (.getfield 34) 3 11 8 2, o0 (.aload_n 0) 1, oF (.getfield 44) 3 11 9 0, o0 (.iload_n 1) 1, oV (.sipush 16384) 3 16384, o0 .imul 1, oV (.iconst 0) 1 0, o0 (.iload_n 2) 1, oM (.invokestatic 51) 3 1 2 1 0, o0 .iadd 1, o0 .iastore 1, o0 (.aload_n 0) 1, o0 .dup 1, oF (.getfield 44) 3 11 9 0, oV (.iconst 1) 1 1, o0 .iadd 1, oF (.putfield 44) 3 11 9 0]), (40, [o0 .return_ 1])], [], 3)
theorem mk_164 : mj_ckM mj_TY mp_11 prog_11_method_8_code 3 none mt_164 = true := by decide +kernel
-- UnbeatenHouse$Reader.readComparison()V
def mt_165 : mj_C := ([(0, [o0 (.aload_n 0) 1, oM (.invokevirtual 195) 3 166 1 0 9, o0 (.aload_n 0) 1, oF (.getfield 74) 3 8 6 0, o0 (.istore_n 1) 1, o0 (.aload_n 0) 1, oV (.bipush 60) 2 60, oM (.invokevirtual 90) 3 160 2 1 9, oA (.ifCond .ne 21) 3 36]), (18, [o0 (.aload_n 0) 1, oV (.bipush 62) 2 62, oM (.invokevirtual 90) 3 160 2 1 9, oA (.ifCond .ne 12) 3 36]), (27, [o0 (.aload_n 0) 1, oV (.bipush 61) 2 61, oM (.invokevirtual 90) 3 160 2 1 9, oA (.ifCond .eq 10) 3 43]), (36, [o0 (.aload_n 0) 1, oM (.invokevirtual 55) 3 139 1 0 9, oA (.goto 8) 3 48]), (43, [o0 (.aload_n 0) 1, oV (.iconst 1) 1 1, oM (.invokevirtual 94) 3 143 2 0 9]), (48, [o0 (.aload_n 0) 1, oM (.invokevirtual 195) 3 166 1 0 9, o0 (.aload_n 0) 1, oF (.getfield 21) 3 8 3 2, o0 (.iload_n 1) 1, oV (.iconst 0) 1 0, oM (.invokevirtual 180) 3 164 3 0 12, o0 .return_ 1])], [(36, [0, 1])], 2)
theorem mk_165 : mj_ckM mj_TY mp_8 prog_8_method_25_code 2 none mt_165 = true := by decide +kernel
-- UnbeatenHouse$Reader.readSum()V
def mt_166 : mj_C := ([(0, [o0 (.aload_n 0) 1, oM (.invokevirtual 198) 3 167 1 0 9, oV (.iconst 0) 1 0, o0 (.istore_n 1) 1]), (6, [o0 (.iload_n 1) 1, oV (.sipush 900) 3 900, oA (.if_icmp .ge 49) 3 59]), (13, [o0 (.aload_n 0) 1, oV (.bipush 43) 2 43, oM (.invokevirtual 90) 3 160 2 1 9, oA (.ifCond .ne 12) 3 31]), (22, [o0 (.aload_n 0) 1, oV (.bipush 45) 2 45, oM (.invokevirtual 90) 3 160 2 1 9, oA (.ifCond .eq 31) 3 59]), (31, [o0 (.aload_n 0) 1, oF (.getfield 74) 3 8 6 0, o0 (.istore_n 2) 1, o0 (.aload_n 0) 1, oM (.invokevirtual 55) 3 139 1 0 9, o0 (.aload_n 0) 1, oM (.invokevirtual 198) 3 167 1 0 9, o0 (.aload_n 0) 1, oF (.getfield 21) 3 8 3 2, o0 (.iload_n 2) 1, oV (.iconst 0) 1 0, oM (.invokevirtual 180) 3 164 3 0 12, oV (.iinc 1 1) 3 1, oA (.goto (-50)) 3 6]), (59, [o0 .return_ 1])], [(6, [0, 1]), (31, [0, 1])], 3)
theorem mk_166 : mj_ckM mj_TY mp_8 prog_8_method_26_code 3 none mt_166 = true := by decide +kernel
-- UnbeatenHouse$Reader.readProduct()V
def mt_167 : mj_C := ([(0, [o0 (.aload_n 0) 1, oM (.invokevirtual 201) 3 168 1 0 9, oV (.iconst 0) 1 0, o0 (.istore_n 1) 1]), (6, [o0 (.iload_n 1) 1, oV (.sipush 900) 3 900, oA (.if_icmp .ge 49) 3 59]), (13, [o0 (.aload_n 0) 1, oV (.bipush 42) 2 42, oM (.invokevirtual 90) 3 160 2 1 9, oA (.ifCond .ne 12) 3 31]), (22, [o0 (.aload_n 0) 1, oV (.bipush 47) 2 47, oM (.invokevirtual 90) 3 160 2 1 9, oA (.ifCond .eq 31) 3 59]), (31, [o0 (.aload_n 0) 1, oF (.getfield 74) 3 8 6 0, o0 (.istore_n 2) 1, o0 (.aload_n 0) 1, oM (.invokevirtual 55) 3 139 1 0 9, o0 (.aload_n 0) 1, oM (.invokevirtual 201) 3 168 1 0 9, o0 (.aload_n 0) 1, oF (.getfield 21) 3 8 3 2, o0 (.iload_n 2) 1, oV (.iconst 0) 1 0, oM (.invokevirtual 180) 3 164 3 0 12, oV (.iinc 1 1) 3 1, oA (.goto (-50)) 3 6]), (59, [o0 .return_ 1])], [(6, [0, 1]), (31, [0, 1])], 3)
theorem mk_167 : mj_ckM mj_TY mp_8 prog_8_method_27_code 3 none mt_167 = true := by decide +kernel
-- UnbeatenHouse$Reader.readPart()V
def mt_168 : mj_C := ([(0, [o0 (.aload_n 0) 1, oF (.getfield 71) 3 8 7 0, o0 (.istore_n 1) 1, o0 (.aload_n 0) 1, oF (.getfield 46) 3 8 5 0, oV (.iconst 2) 1 2, oA (.if_icmp .ne 19) 3 29]), (13, [o0 (.aload_n 0) 1, oF (.getfield 21) 3 8 3 2, oV (.bipush 17) 2 17, o0 (.aload_n 0) 1, oM (.invokevirtual 161) 3 155 1 1 9, oM (.invokevirtual 180) 3 164 3 0 12, oA (.goto 97) 3 123]), (29, [o0 (.iload_n 1) 1, oV (.bipush 13) 2 13, oA (.if_icmp .ne 20) 3 52]), (35, [o0 (.aload_n 0) 1, oF (.getfield 21) 3 8 3 2, oV (.bipush 13) 2 13, oV (.iconst 0) 1 0, oM (.invokevirtual 180) 3 164 3 0 12, o0 (.aload_n 0) 1, oM (.invokevirtual 55) 3 139 1 0 9, oA (.goto 74) 3 123]), (52, [o0 (.iload_n 1) 1, oV (.bipush 14) 2 14, oA (.if_icmp .ne 25) 3 80]), (58, [o0 (.aload_n 0) 1, oM (.invokevirtual 55) 3 139 1 0 9, o0 (.aload_n 0) 1, oF (.getfield 21) 3 8 3 2, oV (.bipush 14) 2 14, o0 (.aload_n 0) 1, oV (.iconst 0) 1 0, oV (.iconst (-1)) 1 (-1), oM (.invokevirtual 145) 3 152 3 1 9, oM (.invokevirtual 180) 3 164 3 0 12, oA (.goto 46) 3 123]), (80, [o0 (.iload_n 1) 1, oV (.bipush 15) 2 15, oA (.if_icmp .eq 9) 3 92]), (86, [o0 (.iload_n 1) 1, oV (.bipush 16) 2 16, oA (.if_icmp .ne 15) 3 104]), (92, [o0 (.aload_n 0) 1, oM (.invokevirtual 55) 3 139 1 0 9, o0 (.aload_n 0) 1, o0 (.iload_n 1) 1, oM (.invokevirtual 204) 3 169 2 0 9, oA (.goto 22) 3 123]), (104, [o0 (.aload_n 0) 1, oV (.bipush 40) 2 40, oM (.invokevirtual 186) 3 161 2 1 9, oA (.ifCond .eq 13) 3 123]), (113, [o0 (.aload_n 0) 1, oM (.invokevirtual 195) 3 166 1 0 9, o0 (.aload_n 0) 1, oV (.bipush 41) 2 41, oM (.invokevirtual 189) 3 162 2 0 9]), (123, [o0 .return_ 1])], [], 2)
theorem mk_168 : mj_ckM mj_TY mp_8 prog_8_method_28_code 2 none mt_168 = true := by decide +kernel
-- UnbeatenHouse$Reader.readPair(I)V
def mt_169 : mj_C := ([(0, [o0 (.aload_n 0) 1, oV (.bipush 40) 2 40, oM (.invokevirtual 186) 3 161 2 1 9, oA (.ifCond .eq 32) 3 38]), (9, [o0 (.aload_n 0) 1, oM (.invokevirtual 195) 3 166 1 0 9, o0 (.aload_n 0) 1, oV (.bipush 44) 2 44, oM (.invokevirtual 61) 3 163 2 0 9, o0 (.aload_n 0) 1, oM (.invokevirtual 195) 3 166 1 0 9, o0 (.aload_n 0) 1, oV (.bipush 41) 2 41, oM (.invokevirtual 189) 3 162 2 0 9, o0 (.aload_n 0) 1, oF (.getfield 21) 3 8 3 2, o0 (.iload_n 1) 1, oV (.iconst 0) 1 0, oM (.invokevirtual 180) 3 164 3 0 12]), (38, [o0 .return_ 1])], [], 2)
theorem mk_169 : mj_ckM mj_TY mp_8 prog_8_method_29_code 2 none mt_169 = true := by decide +kernel
-- UnbeatenHouse$Reader.readRow()V
def mt_170 : mj_C := ([(0, [o0 (.aload_n 0) 1, oF (.getfield 21) 3 8 3 2, oF (.getfield 111) 3 11 1 2, oV (.iconst 1) 1 1, o0 .iaload 1, o0 (.istore_n 1) 1, o0 (.aload_n 0) 1, oV (.iconst 1) 1 1, oM (.invokevirtual 123) 3 146 2 0 9, oV (.iconst 0) 1 0, o0 (.istore_n 2) 1]), (17, [o0 (.iload_n 2) 1, o0 (.aload_n 0) 1, oF (.getfield 21) 3 8 3 2, oF (.getfield 111) 3 11 1 2, oV (.iconst 0) 1 0, o0 .iaload 1, oA (.if_icmp .ge 84) 3 111]), (30, [oV (.iconst (-1)) 1 (-1), o0 (.istore_n 3) 1, oV (.iconst 0) 1 0, o0 (.istore 4) 2, o0 (.aload_n 0) 1, oV (.bipush 63) 2 63, oM (.invokevirtual 90) 3 160 2 1 9, oA (.ifCond .eq 10) 3 51]), (44, [o0 (.aload_n 0) 1, oM (.invokevirtual 55) 3 139 1 0 9, oA (.goto 27) 3 75]), (51, [o0 (.aload_n 0) 1, oM (.invokevirtual 161) 3 155 1 1 9, o0 (.istore_n 3) 1, o0 (.aload_n 0) 1, oV (.bipush 126) 2 126, oM (.invokevirtual 90) 3 160 2 1 9, oA (.ifCond .eq 13) 3 75]), (65, [o0 (.aload_n 0) 1, oM (.invokevirtual 55) 3 139 1 0 9, o0 (.aload_n 0) 1, oM (.invokevirtual 161) 3 155 1 1 9, o0 (.istore 4) 2]), (75, [o0 (.aload_n 0) 1, oF (.getfield 21) 3 8 3 2, oF (.getfield 154) 3 11 4 2, oV (.iconst 1) 1 1, o0 (.iload_n 1) 1, o0 (.iload_n 2) 1, oM (.invokestatic 157) 3 154 3 1 0, o0 (.iload_n 3) 1, o0 .iastore 1, o0 (.aload_n 0) 1, oF (.getfield 21) 3 8 3 2, oF (.getfield 165) 3 11 5 2, o0 (.iload_n 1) 1, oV (.iconst 4) 1 4, o0 .imul 1, o0 (.iload_n 2) 1, o0 .iadd 1, o0 (.iload 4) 2, o0 .iastore 1, oV (.iinc 2 1) 3 1, oA (.goto (-91)) 3 17]), (111, [o0 .return_ 1])], [(17, [0, 1, 2]), (75, [0, 1, 2, 3, 4])], 5)
theorem mk_170 : mj_ckM mj_TY mp_8 prog_8_method_20_code 5 none mt_170 = true := by decide +kernel
-- UnbeatenHouse$Reader.readThing()V
def mt_171 : mj_C := ([(0, [o0 (.aload_n 0) 1, oF (.getfield 21) 3 8 3 2, oF (.getfield 111) 3 11 1 2, oV (.iconst 4) 1 4, o0 .iaload 1, o0 (.istore_n 1) 1, o0 (.aload_n 0) 1, oV (.iconst 4) 1 4, oM (.invokevirtual 123) 3 146 2 0 9, o0 (.aload_n 0) 1, oV (.iconst 4) 1 4, o0 (.iload_n 1) 1, oM (.invokevirtual 151) 3 153 3 0 9, o0 .return_ 1])], [], 2)
theorem mk_171 : mj_ckM mj_TY mp_8 prog_8_method_18_code 2 none mt_171 = true := by decide +kernel
-- UnbeatenHouse$Reader.swap(LUnbeatenHouse$Tale;)LUnbeatenHouse$Tale;
def mt_172 : mj_C := ([(0, [o0 (.aload_n 0) 1, oF (.getfield 21) 3 8 3 2, o0 (.astore_n 2) 1, o0 (.aload_n 0) 1, o0 (.aload_n 1) 1, oF (.putfield 21) 3 8 3 2, o0 (.aload_n 2) 1, o0 .areturn 1])], [], 3)
theorem mk_172 : mj_ckM mj_TY mp_8 prog_8_method_2_code 3 (some (.object "UnbeatenHouse$Tale")) mt_172 = true := by decide +kernel
-- UnbeatenHouse$Rows.take(LUnbeatenHouse$Tale;)V
def mt_173 : mj_C := ([(0, [o0 (.aload_n 0) 1, o0 (.aload_n 1) 1, oF (.getfield 24) 3 11 1 2, oV (.iconst 1) 1 1, o0 .iaload 1, oF (.putfield 29) 3 9 0 0, o0 (.aload_n 0) 1, o0 (.aload_n 1) 1, oF (.getfield 24) 3 11 1 2, oV (.iconst 0) 1 0, o0 .iaload 1, oF (.putfield 33) 3 9 1 0, o0 (.aload_n 0) 1, oW (.lconst 0) 1 0, oF (.putfield 36) 3 9 5 1, oV (.iconst 0) 1 0, o0 (.istore_n 2) 1]), (27, [o0 (.iload_n 2) 1, o0 (.aload_n 0) 1, oF (.getfield 29) 3 9 0 0, oA (.if_icmp .ge 32) 3 64]), (35, [oV (.iconst 0) 1 0, o0 (.istore_n 3) 1]), (37, [o0 (.iload_n 3) 1, o0 (.aload_n 0) 1, oF (.getfield 33) 3 9 1 0, oA (.if_icmp .ge 16) 3 58]), (45, [o0 (.aload_n 0) 1, o0 (.aload_n 1) 1, o0 (.iload_n 2) 1, o0 (.iload_n 3) 1, oM (.invokevirtual 40) 3 174 4 0 10, oV (.iinc 3 1) 3 1, oA (.goto (-18)) 3 37]), (58, [oV (.iinc 2 1) 3 1, oA (.goto (-34)) 3 27]), (64, [o0 (.aload_n 0) 1, o0 (.aload_n 0) 1, o0 (.aload_n 0) 1, oF (.getfield 9) 3 9 2 2, o0 (.aload_n 0) 1, oF (.getfield 9) 3 9 2 2, oM (.invokevirtual 44) 3 176 3 2 10, oF (.putfield 48) 3 9 6 1, o0 .return_ 1])], [(27, [0, 1, 2]), (37, [0, 1, 2, 3])], 4)
theorem mk_173 : mj_ckM mj_TY mp_9 prog_9_method_2_code 4 none mt_173 = true := by decide +kernel
-- UnbeatenHouse$Rows.takeLoss(LUnbeatenHouse$Tale;II)V
def mt_174 : mj_C := ([(0, [o0 (.aload_n 1) 1, oF (.getfield 51) 3 11 4 2, oV (.iconst 1) 1 1, o0 (.iload_n 2) 1, o0 (.iload_n 3) 1, oM (.invokestatic 54) 3 154 3 1 0, o0 .iaload 1, o0 (.istore 4) 2, o0 (.iload_n 2) 1, oV (.iconst 4) 1 4, o0 .imul 1, o0 (.iload_n 3) 1, o0 .iadd 1, o0 (.istore 5) 2, o0 (.iload 4) 2, oV (.iconst (-1)) 1 (-1), oA (.if_icmp .ne 15) 3 38]), (26, [o0 (.aload_n 0) 1, o0 .dup 1, oF (.getfield 36) 3 9 5 1, oW (.lconst 1) 1 1, o0 (.iload_n 2) 1, o0 .lshl 1, o0 .lor 1, oF (.putfield 36) 3 9 5 1]), (38, [o0 (.aload_n 0) 1, oF (.getfield 9) 3 9 2 2, o0 (.iload 5) 2, o0 (.aload_n 1) 1, o0 (.iload_n 3) 1, o0 (.iload 4) 2, oM (.invokevirtual 58) 3 175 3 1 12, o0 .iastore 1, o0 (.aload_n 0) 1, oF (.getfield 15) 3 9 3 2, o0 (.iload 5) 2, o0 (.aload_n 0) 1, oF (.getfield 9) 3 9 2 2, o0 (.iload 5) 2, o0 .iaload 1, o0 (.aload_n 1) 1, oF (.getfield 62) 3 11 5 2, o0 (.iload 5) 2, o0 .iaload 1, o0 .isub 1, o0 .iastore 1, o0 (.aload_n 0) 1, oF (.getfield 18) 3 9 4 2, o0 (.iload 5) 2, o0 (.aload_n 0) 1, oF (.getfield 9) 3 9 2 2, o0 (.iload 5) 2, o0 .iaload 1, o0 (.aload_n 1) 1, oF (.getfield 62) 3 11 5 2, o0 (.iload 5) 2, o0 .iaload 1, o0 .iadd 1, o0 .iastore 1, o0 .return_ 1])], [(38, [0, 1, 3, 4, 5])], 6)
theorem mk_174 : mj_ckM mj_TY mp_9 prog_9_method_3_code 6 none mt_174 = true := by decide +kernel
-- UnbeatenHouse$Tale.lossFor(II)I
def mt_175 : mj_C := ([(0, [o0 (.aload_n 0) 1, oF (.getfield 18) 3 11 3 2, o0 (.iload_n 1) 1, o0 .baload 1, oA (.ifCond .eq 8) 3 14]), (9, [o0 (.iload_n 2) 1, o0 .ineg 1, oA (.goto 4) 3 15]), (14, [o0 (.iload_n 2) 1]), (15, [oA .ireturn 1 0])], [], 3)
theorem mk_175 : mj_ckM mj_TY mp_11 prog_11_method_9_code 3 (some .int) mt_175 = true := by decide +kernel
-- UnbeatenHouse$Rows.unbeaten([I[I)J
def mt_176 : mj_C := ([(0, [oW (.lconst 0) 1 0, o0 (.lstore_n 3) 1, oV (.iconst 0) 1 0, o0 (.istore 5) 2]), (5, [o0 (.iload 5) 2, o0 (.aload_n 0) 1, oF (.getfield 29) 3 9 0 0, oA (.if_icmp .ge 88) 3 99]), (14, [o0 (.aload_n 0) 1, o0 (.iload 5) 2, oM (.invokevirtual 73) 3 177 2 1 10, o0 (.istore 6) 2, oV (.iconst 0) 1 0, o0 (.istore 7) 2]), (25, [o0 (.iload 7) 2, o0 (.aload_n 0) 1, oF (.getfield 29) 3 9 0 0, oA (.if_icmp .ge 50) 3 81]), (34, [o0 (.iload 6) 2, oA (.ifCond .eq 45) 3 81]), (39, [o0 (.iload 7) 2, o0 (.iload 5) 2, oA (.if_icmp .eq 25) 3 68]), (46, [o0 (.aload_n 0) 1, o0 (.iload 7) 2, oM (.invokevirtual 73) 3 177 2 1 10, oA (.ifCond .eq 16) 3 68]), (55, [o0 (.aload_n 0) 1, o0 (.iload 7) 2, o0 (.aload_n 1) 1, o0 (.iload 5) 2, o0 (.aload_n 2) 1, oM (.invokevirtual 77) 3 179 5 1 10, oA (.ifCond .ne 7) 3 72]), (68, [oV (.iconst 1) 1 1, oA (.goto 4) 3 73]), (72, [oV (.iconst 0) 1 0]), (73, [o0 (.istore 6) 2, oV (.iinc 7 1) 3 1, oA (.goto (-53)) 3 25]), (81, [o0 (.iload 6) 2, oA (.ifCond .eq 10) 3 93]), (86, [o0 (.lload_n 3) 1, oW (.lconst 1) 1 1, o0 (.iload 5) 2, o0 .lshl 1, o0 .lor 1, o0 (.lstore_n 3) 1]), (93, [oV (.iinc 5 1) 3 1, oA (.goto (-91)) 3 5]), (99, [o0 (.lload_n 3) 1, o0 .lreturn 1])], [(5, [0, 1, 2, 3, 5]), (25, [0, 1, 2, 3, 5, 6, 7]), (81, [0, 1, 2, 3, 5, 6])], 8)
theorem mk_176 : mj_ckM mj_TY mp_9 prog_9_method_7_code 8 (some .long) mt_176 = true := by decide +kernel
-- UnbeatenHouse$Rows.isJudged(I)Z
def mt_177 : mj_C := ([(0, [o0 (.iload_n 1) 1, oA (.ifCond .lt 26) 3 27]), (4, [o0 (.iload_n 1) 1, o0 (.aload_n 0) 1, oF (.getfield 29) 3 9 0 0, oA (.if_icmp .ge 18) 3 27]), (12, [o0 (.aload_n 0) 1, oF (.getfield 36) 3 9 5 1, o0 (.iload_n 1) 1, oM (.invokestatic 65) 3 178 2 1 0, oA (.ifCond .ne 7) 3 27]), (23, [oV (.iconst 1) 1 1, oA (.goto 4) 3 28]), (27, [oV (.iconst 0) 1 0]), (28, [oA .ireturn 1 1])], [], 2)
theorem mk_177 : mj_ckM mj_TY mp_9 prog_9_method_4_code 2 (some .boolean) mt_177 = true := by decide +kernel
-- UnbeatenHouse.isIn(JI)Z
def mt_178 : mj_C := ([(0, [o0 (.lload_n 0) 1, o0 (.iload_n 2) 1, o0 .lushr 1, oW (.lconst 1) 1 1, o0 .land 1, oW (.lconst 0) 1 0, o0 .lcmp 1, oA (.ifCond .eq 7) 3 14]), (10, [oV (.iconst 1) 1 1, oA (.goto 4) 3 15]), (14, [oV (.iconst 0) 1 0]), (15, [oA .ireturn 1 1])], [], 3)
theorem mk_178 : mj_ckM mj_TY mp_1 prog_1_method_46_code 3 (some .boolean) mt_178 = true := by decide +kernel
-- UnbeatenHouse$Rows.outdoes(I[II[I)Z
def mt_179 : mj_C := ([(0, [o0 (.iload_n 1) 1, oV (.iconst 4) 1 4, o0 .imul 1, o0 (.istore 5) 2, o0 (.iload_n 3) 1, oV (.iconst 4) 1 4, o0 .imul 1, o0 (.istore 6) 2, o0 (.aload_n 2) 1, o0 (.iload 5) 2, o0 (.aload 4) 2, o0 (.iload 6) 2, o0 (.aload_n 0) 1, oF (.getfield 33) 3 9 1 0, oM (.invokestatic 69) 3 180 5 1 0, oA (.ifCond .eq 24) 3 48]), (27, [o0 (.aload 4) 2, o0 (.iload 6) 2, o0 (.aload_n 2) 1, o0 (.iload 5) 2, o0 (.aload_n 0) 1, oF (.getfield 33) 3 9 1 0, oM (.invokestatic 69) 3 180 5 1 0, oA (.ifCond .ne 7) 3 48]), (44, [oV (.iconst 1) 1 1, oA (.goto 4) 3 49]), (48, [oV (.iconst 0) 1 0]), (49, [oA .ireturn 1 1])], [], 7)
theorem mk_179 : mj_ckM mj_TY mp_9 prog_9_method_5_code 7 (some .boolean) mt_179 = true := by decide +kernel
-- UnbeatenHouse.isNowhereMore([II[III)Z
def mt_180 : mj_C := ([(0, [oV (.iconst 0) 1 0, o0 (.istore 5) 2]), (3, [o0 (.iload 5) 2, o0 (.iload 4) 2, oA (.if_icmp .ge 26) 3 33]), (10, [o0 (.aload_n 0) 1, o0 (.iload_n 1) 1, o0 (.iload 5) 2, o0 .iadd 1, o0 .iaload 1, o0 (.aload_n 2) 1, o0 (.iload_n 3) 1, o0 (.iload 5) 2, o0 .iadd 1, o0 .iaload 1, oA (.if_icmp .le 5) 3 27]), (25, [oV (.iconst 0) 1 0, oA .ireturn 1 1]), (27, [oV (.iinc 5 1) 3 1, oA (.goto (-27)) 3 3]), (33, [oV (.iconst 1) 1 1, oA .ireturn 1 1])], [(3, [0, 1, 2, 3, 4, 5])], 6)
theorem mk_180 : mj_ckM mj_TY mp_1 prog_1_method_47_code 6 (some .boolean) mt_180 = true := by decide +kernel
-- UnbeatenHouse$Front.drop()V
def mt_181 : mj_C := ([(0, [o0 (.aload_n 0) 1, oV (.iconst (-1)) 1 (-1), oM (.invokevirtual 23) 3 182 2 0 3, o0 .return_ 1])], [], 1)
theorem mk_181 : mj_ckM mj_TY mp_2 prog_2_method_2_code 1 none mt_181 = true := by decide +kernel
-- UnbeatenHouse$Front.start(I)V
def mt_182 : mj_C := ([(0, [o0 (.aload_n 0) 1, o0 (.iload_n 1) 1, oF (.putfield 9) 3 2 0 0, o0 (.aload_n 0) 1, oV (.iconst 0) 1 0, oF (.putfield 27) 3 2 1 0, o0 .return_ 1])], [], 2)
theorem mk_182 : mj_ckM mj_TY mp_2 prog_2_method_3_code 2 none mt_182 = true := by decide +kernel
-- UnbeatenHouse$Picker.forget()V
def mt_183 : mj_C := ([(0, [o0 (.aload_n 0) 1, oV (.iconst 0) 1 0, oF (.putfield 21) 3 6 4 0, o0 .return_ 1])], [], 1)
theorem mk_183 : mj_ckM mj_TY mp_6 prog_6_method_2_code 1 none mt_183 = true := by decide +kernel
-- UnbeatenHouse$Sayings.forget()V
def mt_184 : mj_C := ([(0, [o0 (.aload_n 0) 1, oV (.iconst 0) 1 0, oF (.putfield 26) 3 10 0 0, o0 .return_ 1])], [], 1)
theorem mk_184 : mj_ckM mj_TY mp_10 prog_10_method_2_code 1 none mt_184 = true := by decide +kernel
-- UnbeatenHouse$People.forget()V
def mt_185 : mj_C := ([(0, [oV (.iconst 0) 1 0, o0 (.istore_n 1) 1]), (2, [o0 (.iload_n 1) 1, oV (.bipush 6) 2 6, oA (.if_icmp .ge 23) 3 28]), (8, [o0 (.aload_n 0) 1, oF (.getfield 15) 3 5 1 2, o0 (.iload_n 1) 1, oV (.iconst 0) 1 0, o0 .bastore 1, o0 (.aload_n 0) 1, oF (.getfield 19) 3 5 2 2, o0 (.iload_n 1) 1, oW (.lconst 0) 1 0, o0 .lastore 1, oV (.iinc 1 1) 3 1, oA (.goto (-23)) 3 2]), (28, [o0 .return_ 1])], [(2, [0, 1])], 2)
theorem mk_185 : mj_ckM mj_TY mp_5 prog_5_method_3_code 2 none mt_185 = true := by decide +kernel
-- UnbeatenHouse$Weighings.make(II)V
def mt_186 : mj_C := ([(0, [o0 (.aload_n 0) 1, o0 (.iload_n 1) 1, oF (.putfield 9) 3 12 0 0, o0 (.aload_n 0) 1, o0 (.iload_n 2) 1, oF (.putfield 19) 3 12 1 0, o0 (.aload_n 0) 1, oV (.iconst 0) 1 0, oF (.putfield 22) 3 12 2 0, o0 (.aload_n 0) 1, oF (.getfield 19) 3 12 1 0, oV (.iconst 3) 1 3, oA (.if_icmp .le 10) 3 30]), (23, [o0 (.aload_n 0) 1, oF (.getfield 9) 3 12 0 0, oA (.goto 4) 3 31]), (30, [oV (.iconst 0) 1 0]), (31, [o0 (.istore_n 3) 1, oV (.iconst 0) 1 0, o0 (.istore 4) 2]), (35, [o0 (.iload 4) 2, o0 (.iload_n 3) 1, oA (.if_icmp .gt 109) 3 147]), (41, [o0 (.aload_n 0) 1, oF (.getfield 19) 3 12 1 0, oV (.iconst 2) 1 2, oA (.if_icmp .le 13) 3 59]), (49, [o0 (.aload_n 0) 1, oF (.getfield 9) 3 12 0 0, o0 (.iload 4) 2, o0 .isub 1, oA (.goto 4) 3 60]), (59, [oV (.iconst 0) 1 0]), (60, [o0 (.istore 5) 2, oV (.iconst 0) 1 0, o0 (.istore 6) 2]), (65, [o0 (.iload 6) 2, o0 (.iload 5) 2, oA (.if_icmp .gt 72) 3 141]), (72, [o0 (.aload_n 0) 1, oF (.getfield 19) 3 12 1 0, oV (.iconst 1) 1 1, oA (.if_icmp .le 16) 3 93]), (80, [o0 (.aload_n 0) 1, oF (.getfield 9) 3 12 0 0, o0 (.iload 4) 2, o0 .isub 1, o0 (.iload 6) 2, o0 .isub 1, oA (.goto 4) 3 94]), (93, [oV (.iconst 0) 1 0]), (94, [o0 (.istore 7) 2, oV (.iconst 0) 1 0, o0 (.istore 8) 2]), (99, [o0 (.iload 8) 2, o0 (.iload 7) 2, oA (.if_icmp .gt 32) 3 135]), (106, [o0 (.aload_n 0) 1, o0 (.iload 4) 2, o0 (.iload 6) 2, o0 (.iload 8) 2, o0 (.aload_n 0) 1, oF (.getfield 9) 3 12 0 0, o0 (.iload 4) 2, o0 .isub 1, o0 (.iload 6) 2, o0 .isub 1, o0 (.iload 8) 2, o0 .isub 1, oM (.invokevirtual 25) 3 187 5 0 13, oV (.iinc 8 1) 3 1, oA (.goto (-33)) 3 99]), (135, [oV (.iinc 6 1) 3 1, oA (.goto (-73)) 3 65]), (141, [oV (.iinc 4 1) 3 1, oA (.goto (-109)) 3 35]), (147, [o0 .return_ 1])], [(35, [0, 3, 4]), (65, [0, 3, 4, 5, 6]), (99, [0, 3, 4, 5, 6, 7, 8])], 9)
theorem mk_186 : mj_ckM mj_TY mp_12 prog_12_method_2_code 9 none mt_186 = true := by decide +kernel
-- UnbeatenHouse$Weighings.add(IIII)V
def mt_187 : mj_C := ([(0, [o0 (.aload_n 0) 1, oF (.getfield 19) 3 12 1 0, oA (.ifCond .eq 13) 3 17]), (7, [o0 (.aload_n 0) 1, oF (.getfield 22) 3 12 2 0, oV (.sipush 455) 3 455, oA (.if_icmp .lt 4) 3 18]), (17, [o0 .return_ 1]), (18, [o0 (.aload_n 0) 1, oF (.getfield 22) 3 12 2 0, oV (.iconst 4) 1 4, o0 .imul 1, o0 (.aload_n 0) 1, oF (.getfield 19) 3 12 1 0, o0 .iadd 1, oV (.iconst 1) 1 1, o0 .isub 1, o0 (.istore 5) 2, o0 (.aload_n 0) 1, o0 (.iload 5) 2, oV (.iconst 3) 1 3, o0 .isub 1, o0 (.iload_n 1) 1, oM (.invokevirtual 29) 3 188 3 0 13, o0 (.aload_n 0) 1, o0 (.iload 5) 2, oV (.iconst 2) 1 2, o0 .isub 1, o0 (.iload_n 2) 1, oM (.invokevirtual 29) 3 188 3 0 13, o0 (.aload_n 0) 1, o0 (.iload 5) 2, oV (.iconst 1) 1 1, o0 .isub 1, o0 (.iload_n 3) 1, oM (.invokevirtual 29) 3 188 3 0 13, o0 (.aload_n 0) 1, o0 (.iload 5) 2, o0 (.iload 4) 2, oM (.invokevirtual 29) 3 188 3 0 13, o0 (.aload_n 0) 1, o0 .dup 1, oF (.getfield 22) 3 12 2 0, oV (.iconst 1) 1 1, o0 .iadd 1, oF (.putfield 22) 3 12 2 0, o0 .return_ 1])], [], 6)
theorem mk_187 : mj_ckM mj_TY mp_12 prog_12_method_3_code 6 none mt_187 = true := by decide +kernel
-- UnbeatenHouse$Weighings.put(II)V
def mt_188 : mj_C := ([(0, [o0 (.iload_n 1) 1, o0 (.aload_n 0) 1, oF (.getfield 22) 3 12 2 0, oV (.iconst 4) 1 4, o0 .imul 1, oA (.if_icmp .lt 10) 3 17]), (10, [o0 (.aload_n 0) 1, oF (.getfield 15) 3 12 3 2, o0 (.iload_n 1) 1, o0 (.iload_n 2) 1, o0 .iastore 1]), (17, [o0 .return_ 1])], [], 3)
theorem mk_188 : mj_ckM mj_TY mp_12 prog_12_method_4_code 3 none mt_188 = true := by decide +kernel
-- UnbeatenHouse.fault(I)I
def mt_189 : mj_C := ([(0, [o0 (.iload_n 1) 1, oA (.ifCond .ne 11) 3 12]), (4, [o0 (.aload_n 0) 1, oF (.getfield 19) 3 1 2 2, oF (.getfield 140) 3 8 10 0, oA .ireturn 1 0]), (12, [o0 (.iload_n 1) 1, oV (.iconst 1) 1 1, oA (.if_icmp .ne 13) 3 27]), (17, [o0 (.aload_n 0) 1, oF (.getfield 19) 3 1 2 2, oF (.getfield 143) 3 8 11 0, oA (.goto 4) 3 28]), (27, [oV (.iconst (-1)) 1 (-1)]), (28, [oA .ireturn 1 0])], [], 2)
theorem mk_189 : mj_ckM mj_TY mp_1 prog_1_method_6_code 2 (some .int) mt_189 = true := by decide +kernel
-- UnbeatenHouse.has(I)I
def mt_190 : mj_C := ([(0, [o0 (.iload_n 1) 1, oA (.ifCond .lt 19) 3 20]), (4, [o0 (.iload_n 1) 1, oV (.bipush 6) 2 6, oA (.if_icmp .ge 13) 3 20]), (10, [o0 (.aload_n 0) 1, oF (.getfield 10) 3 1 1 2, oF (.getfield 130) 3 11 1 2, o0 (.iload_n 1) 1, o0 .iaload 1, oA .ireturn 1 0]), (20, [o0 (.iload_n 1) 1, oV (.bipush 6) 2 6, oA (.if_icmp .ne 11) 3 34]), (26, [o0 (.aload_n 0) 1, oF (.getfield 78) 3 1 12 2, oF (.getfield 146) 3 10 0 0, oA .ireturn 1 0]), (34, [o0 (.iload_n 1) 1, oV (.bipush 7) 2 7, oA (.if_icmp .ne 13) 3 50]), (40, [o0 (.aload_n 0) 1, oF (.getfield 71) 3 1 11 2, oF (.getfield 127) 3 12 0 0, oA (.goto 4) 3 51]), (50, [oV (.iconst (-1)) 1 (-1)]), (51, [oA .ireturn 1 0])], [(20, [0, 1])], 2)
theorem mk_190 : mj_ckM mj_TY mp_1 prog_1_method_7_code 2 (some .int) mt_190 = true := by decide +kernel
-- UnbeatenHouse.letter(III)I
def mt_191 : mj_C := ([(0, [o0 (.iload_n 1) 1, oA (.ifCond .lt 8) 3 9]), (4, [o0 (.iload_n 1) 1, oV (.iconst 3) 1 3, oA (.if_icmp .le 5) 3 11]), (9, [oV (.iconst (-1)) 1 (-1), oA .ireturn 1 0]), (11, [o0 (.iload_n 1) 1, oV (.iconst 3) 1 3, oA (.if_icmp .ne 7) 3 20]), (16, [oV (.iconst 4) 1 4, oA (.goto 4) 3 21]), (20, [o0 (.iload_n 1) 1]), (21, [o0 (.istore 4) 2, o0 (.aload_n 0) 1, oF (.getfield 10) 3 1 1 2, o0 (.iload 4) 2, o0 (.iload_n 2) 1, oM (.invokevirtual 149) 3 192 3 1 12, oA (.ifCond .eq 25) 3 58]), (36, [o0 (.aload_n 0) 1, oF (.getfield 10) 3 1 1 2, oF (.getfield 153) 3 11 2 2, o0 (.iload 4) 2, oV (.bipush 40) 2 40, o0 .imul 1, o0 (.iload_n 2) 1, o0 .iadd 1, o0 .iaload 1, o0 (.iload_n 3) 1, oM (.invokestatic 156) 3 193 2 1 0, oA (.goto 4) 3 59]), (58, [oV (.iconst (-1)) 1 (-1)]), (59, [oA .ireturn 1 0])], [], 5)
theorem mk_191 : mj_ckM mj_TY mp_1 prog_1_method_8_code 5 (some .int) mt_191 = true := by decide +kernel
-- UnbeatenHouse$Tale.isThere(II)Z
def mt_192 : mj_C := ([(0, [o0 (.iload_n 2) 1, oA (.ifCond .lt 17) 3 18]), (4, [o0 (.iload_n 2) 1, o0 (.aload_n 0) 1, oF (.getfield 9) 3 11 1 2, o0 (.iload_n 1) 1, o0 .iaload 1, oA (.if_icmp .ge 7) 3 18]), (14, [oV (.iconst 1) 1 1, oA (.goto 4) 3 19]), (18, [oV (.iconst 0) 1 0]), (19, [oA .ireturn 1 1])], [], 3)
theorem mk_192 : mj_ckM mj_TY mp_11 prog_11_method_4_code 3 (some .boolean) mt_192 = true := by decide +kernel
-- UnbeatenHouse.letterOf(II)I
def mt_193 : mj_C := ([(0, [oV (.iconst 0) 1 0, o0 (.istore_n 2) 1, o0 (.iload_n 0) 1, o0 (.istore_n 3) 1]), (4, [o0 (.iload_n 3) 1, oA (.ifCond .le 13) 3 18]), (8, [oV (.iinc 2 1) 3 1, o0 (.iload_n 3) 1, oV (.iconst 5) 1 5, o0 .ishr 1, o0 (.istore_n 3) 1, oA (.goto (-11)) 3 4]), (18, [o0 (.iload_n 1) 1, oA (.ifCond .lt 8) 3 27]), (22, [o0 (.iload_n 1) 1, o0 (.iload_n 2) 1, oA (.if_icmp .lt 5) 3 29]), (27, [oV (.iconst (-1)) 1 (-1), oA .ireturn 1 0]), (29, [oV (.bipush 96) 2 96, o0 (.iload_n 0) 1, oV (.iconst 5) 1 5, o0 (.iload_n 2) 1, oV (.iconst 1) 1 1, o0 .isub 1, o0 (.iload_n 1) 1, o0 .isub 1, o0 .imul 1, o0 .ishr 1, oV (.bipush 31) 2 31, o0 .iand 1, o0 .iadd 1, oA .ireturn 1 0])], [(4, [0, 1, 2, 3])], 4)
theorem mk_193 : mj_ckM mj_TY mp_1 prog_1_method_9_code 4 (some .int) mt_193 = true := by decide +kernel
-- UnbeatenHouse.price(IIZ)I
def mt_194 : mj_C := ([(0, [o0 (.aload_n 0) 1, oF (.getfield 10) 3 1 1 2, oV (.iconst 1) 1 1, o0 (.iload_n 1) 1, oM (.invokevirtual 149) 3 192 3 1 12, oA (.ifCond .eq 15) 3 24]), (12, [o0 (.aload_n 0) 1, oF (.getfield 10) 3 1 1 2, oV (.iconst 0) 1 0, o0 (.iload_n 2) 1, oM (.invokevirtual 149) 3 192 3 1 12, oA (.ifCond .ne 5) 3 26]), (24, [oV (.iconst (-1)) 1 (-1), oA .ireturn 1 0]), (26, [o0 (.aload_n 0) 1, oF (.getfield 10) 3 1 1 2, oF (.getfield 160) 3 11 4 2, oV (.iconst 1) 1 1, o0 (.iload_n 1) 1, o0 (.iload_n 2) 1, oM (.invokestatic 163) 3 154 3 1 0, o0 .iaload 1, o0 (.istore 4) 2, o0 (.iload_n 3) 1, oA (.ifCond .eq 25) 3 68]), (46, [o0 (.iload 4) 2, oV (.iconst (-1)) 1 (-1), oA (.if_icmp .eq 19) 3 68]), (52, [o0 (.aload_n 0) 1, oF (.getfield 10) 3 1 1 2, oF (.getfield 167) 3 11 5 2, o0 (.iload_n 1) 1, oV (.iconst 4) 1 4, o0 .imul 1, o0 (.iload_n 2) 1, o0 .iadd 1, o0 .iaload 1, oA (.goto 5) 3 70]), (68, [o0 (.iload 4) 2]), (70, [oA .ireturn 1 0])], [], 5)
theorem mk_194 : mj_ckM mj_TY mp_1 prog_1_method_10_code 5 (some .int) mt_194 = true := by decide +kernel
-- UnbeatenHouse.beats(II)I
def mt_195 : mj_C := ([(0, [o0 (.aload_n 0) 1, oF (.getfield 10) 3 1 1 2, oV (.iconst 1) 1 1, o0 (.iload_n 1) 1, oM (.invokevirtual 149) 3 192 3 1 12, oA (.ifCond .eq 15) 3 24]), (12, [o0 (.aload_n 0) 1, oF (.getfield 10) 3 1 1 2, oV (.iconst 1) 1 1, o0 (.iload_n 2) 1, oM (.invokevirtual 149) 3 192 3 1 12, oA (.ifCond .ne 5) 3 26]), (24, [oV (.iconst (-1)) 1 (-1), oA .ireturn 1 0]), (26, [o0 (.aload_n 0) 1, oF (.getfield 26) 3 1 3 2, o0 (.iload_n 1) 1, o0 (.iload_n 2) 1, oM (.invokevirtual 170) 3 196 3 1 10, oA (.ifCond .eq 7) 3 42]), (38, [oV (.iconst 1) 1 1, oA (.goto 4) 3 43]), (42, [oV (.iconst 0) 1 0]), (43, [oA .ireturn 1 0])], [], 3)
theorem mk_195 : mj_ckM mj_TY mp_1 prog_1_method_11_code 3 (some .int) mt_195 = true := by decide +kernel
-- UnbeatenHouse$Rows.isBetter(II)Z
def mt_196 : mj_C := ([(0, [o0 (.aload_n 0) 1, o0 (.iload_n 1) 1, oM (.invokevirtual 73) 3 177 2 1 10, oA (.ifCond .eq 32) 3 37]), (8, [o0 (.aload_n 0) 1, o0 (.iload_n 2) 1, oM (.invokevirtual 73) 3 177 2 1 10, oA (.ifCond .eq 24) 3 37]), (16, [o0 (.aload_n 0) 1, o0 (.iload_n 1) 1, o0 (.aload_n 0) 1, oF (.getfield 9) 3 9 2 2, o0 (.iload_n 2) 1, o0 (.aload_n 0) 1, oF (.getfield 9) 3 9 2 2, oM (.invokevirtual 77) 3 179 5 1 10, oA (.ifCond .eq 7) 3 37]), (33, [oV (.iconst 1) 1 1, oA (.goto 4) 3 38]), (37, [oV (.iconst 0) 1 0]), (38, [oA .ireturn 1 1])], [], 3)
theorem mk_196 : mj_ckM mj_TY mp_9 prog_9_method_6_code 3 (some .boolean) mt_196 = true := by decide +kernel
-- UnbeatenHouse.leads(I)I
def mt_197 : mj_C := ([(0, [o0 (.aload_n 0) 1, oF (.getfield 10) 3 1 1 2, oV (.iconst 1) 1 1, o0 (.iload_n 1) 1, oM (.invokevirtual 149) 3 192 3 1 12, oA (.ifCond .ne 5) 3 14]), (12, [oV (.iconst (-1)) 1 (-1), oA .ireturn 1 0]), (14, [oV (.iconst 0) 1 0, o0 (.istore_n 2) 1]), (16, [o0 (.iload_n 2) 1, o0 (.aload_n 0) 1, oF (.getfield 10) 3 1 1 2, oF (.getfield 130) 3 11 1 2, oV (.iconst 1) 1 1, o0 .iaload 1, oA (.if_icmp .ge 37) 3 63]), (29, [o0 (.aload_n 0) 1, oF (.getfield 26) 3 1 3 2, oF (.getfield 173) 3 9 6 1, o0 (.iload_n 2) 1, oM (.invokestatic 176) 3 178 2 1 0, oA (.ifCond .eq 17) 3 57]), (43, [o0 (.aload_n 0) 1, oF (.getfield 26) 3 1 3 2, o0 (.iload_n 2) 1, o0 (.iload_n 1) 1, oM (.invokevirtual 170) 3 196 3 1 10, oA (.ifCond .eq 5) 3 57]), (55, [o0 (.iload_n 2) 1, oA .ireturn 1 0]), (57, [oV (.iinc 2 1) 3 1, oA (.goto (-44)) 3 16]), (63, [oV (.iconst (-1)) 1 (-1), oA .ireturn 1 0])], [(16, [0, 1, 2])], 3)
theorem mk_197 : mj_ckM mj_TY mp_1 prog_1_method_12_code 3 (some .int) mt_197 = true := by decide +kernel
-- UnbeatenHouse.change(III)I
def mt_198 : mj_C := ([(0, [o0 (.aload_n 0) 1, oF (.getfield 10) 3 1 1 2, oV (.iconst 1) 1 1, o0 (.iload_n 1) 1, oM (.invokevirtual 149) 3 192 3 1 12, oA (.ifCond .eq 27) 3 36]), (12, [o0 (.aload_n 0) 1, oF (.getfield 10) 3 1 1 2, oV (.iconst 0) 1 0, o0 (.iload_n 2) 1, oM (.invokevirtual 149) 3 192 3 1 12, oA (.ifCond .eq 15) 3 36]), (24, [o0 (.iload_n 3) 1, oV (.iconst (-1)) 1 (-1), oA (.if_icmp .lt 10) 3 36]), (29, [o0 (.iload_n 3) 1, oV (.sipush 9999) 3 9999, oA (.if_icmp .le 5) 3 38]), (36, [oV (.iconst (-1)) 1 (-1), oA .ireturn 1 0]), (38, [o0 (.aload_n 0) 1, oF (.getfield 26) 3 1 3 2, oF (.getfield 173) 3 9 6 1, o0 (.lstore 4) 2, o0 (.aload_n 0) 1, oF (.getfield 10) 3 1 1 2, oF (.getfield 160) 3 11 4 2, oV (.iconst 1) 1 1, o0 (.iload_n 1) 1, o0 (.iload_n 2) 1, oM (.invokestatic 163) 3 154 3 1 0, o0 (.iload_n 3) 1, o0 .iastore 1, o0 (.iload_n 3) 1, oV (.iconst (-1)) 1 (-1), oA (.if_icmp .ne 17) 3 81]), (67, [o0 (.aload_n 0) 1, oF (.getfield 10) 3 1 1 2, oF (.getfield 167) 3 11 5 2, o0 (.iload_n 1) 1, oV (.iconst 4) 1 4, o0 .imul 1, o0 (.iload_n 2) 1, o0 .iadd 1, oV (.iconst 0) 1 0, o0 .iastore 1]), (81, [o0 (.aload_n 0) 1, oF (.getfield 26) 3 1 3 2, o0 (.aload_n 0) 1, oF (.getfield 10) 3 1 1 2, oM (.invokevirtual 108) 3 173 2 0 10, o0 (.aload_n 0) 1, o0 (.lload 4) 2, o0 (.aload_n 0) 1, oF (.getfield 26) 3 1 3 2, oF (.getfield 173) 3 9 6 1, oW (.ldc2_w 180) 3 (-1), o0 .lxor 1, o0 .land 1, oF (.putfield 118) 3 1 14 1, o0 (.aload_n 0) 1, o0 (.aload_n 0) 1, oF (.getfield 26) 3 1 3 2, oF (.getfield 173) 3 9 6 1, o0 (.lload 4) 2, oW (.ldc2_w 180) 3 (-1), o0 .lxor 1, o0 .land 1, oF (.putfield 122) 3 1 15 1, o0 (.aload_n 0) 1, oF (.getfield 118) 3 1 14 1, oM (.invokestatic 182) 3 2 1 1 0, o0 (.aload_n 0) 1, oF (.getfield 122) 3 1 15 1, oM (.invokestatic 182) 3 2 1 1 0, o0 .iadd 1, oA .ireturn 1 0])], [(81, [0, 4])], 6)
theorem mk_198 : mj_ckM mj_TY mp_1 prog_1_method_13_code 6 (some .int) mt_198 = true := by decide +kernel
-- UnbeatenHouse.changed(Z)J
def mt_199 : mj_C := ([(0, [o0 (.iload_n 1) 1, oA (.ifCond .eq 10) 3 11]), (4, [o0 (.aload_n 0) 1, oF (.getfield 122) 3 1 15 1, oA (.goto 7) 3 15]), (11, [o0 (.aload_n 0) 1, oF (.getfield 118) 3 1 14 1]), (15, [o0 .lreturn 1])], [], 2)
theorem mk_199 : mj_ckM mj_TY mp_1 prog_1_method_14_code 2 (some .long) mt_199 = true := by decide +kernel
-- UnbeatenHouse.rows()J
def mt_200 : mj_C := ([(0, [o0 (.aload_n 0) 1, oF (.getfield 26) 3 1 3 2, oF (.getfield 173) 3 9 6 1, o0 .lreturn 1])], [], 1)
theorem mk_200 : mj_ckM mj_TY mp_1 prog_1_method_15_code 1 (some .long) mt_200 = true := by decide +kernel
-- UnbeatenHouse.unsure(Z)J
def mt_201 : mj_C := ([(0, [o0 (.iload_n 1) 1, oA (.ifCond .eq 27) 3 28]), (4, [o0 (.aload_n 0) 1, oF (.getfield 26) 3 1 3 2, o0 (.aload_n 0) 1, oF (.getfield 26) 3 1 3 2, oF (.getfield 188) 3 9 3 2, o0 (.aload_n 0) 1, oF (.getfield 26) 3 1 3 2, oF (.getfield 191) 3 9 4 2, oM (.invokevirtual 194) 3 176 3 2 10, oA (.goto 24) 3 49]), (28, [o0 (.aload_n 0) 1, oF (.getfield 26) 3 1 3 2, o0 (.aload_n 0) 1, oF (.getfield 26) 3 1 3 2, oF (.getfield 191) 3 9 4 2, o0 (.aload_n 0) 1, oF (.getfield 26) 3 1 3 2, oF (.getfield 188) 3 9 3 2, oM (.invokevirtual 194) 3 176 3 2 10]), (49, [o0 .lreturn 1])], [], 2)
theorem mk_201 : mj_ckM mj_TY mp_1 prog_1_method_16_code 2 (some .long) mt_201 = true := by decide +kernel
-- UnbeatenHouse.maybe(II)I
def mt_202 : mj_C := ([(0, [o0 (.aload_n 0) 1, oF (.getfield 26) 3 1 3 2, o0 (.iload_n 1) 1, oM (.invokevirtual 198) 3 177 2 1 10, oA (.ifCond .eq 19) 3 27]), (11, [o0 (.aload_n 0) 1, oF (.getfield 26) 3 1 3 2, o0 (.iload_n 2) 1, oM (.invokevirtual 198) 3 177 2 1 10, oA (.ifCond .eq 8) 3 27]), (22, [o0 (.iload_n 1) 1, o0 (.iload_n 2) 1, oA (.if_icmp .ne 5) 3 29]), (27, [oV (.iconst (-1)) 1 (-1), oA .ireturn 1 0]), (29, [o0 (.aload_n 0) 1, oF (.getfield 26) 3 1 3 2, o0 (.iload_n 1) 1, o0 (.aload_n 0) 1, oF (.getfield 26) 3 1 3 2, oF (.getfield 191) 3 9 4 2, o0 (.iload_n 2) 1, o0 (.aload_n 0) 1, oF (.getfield 26) 3 1 3 2, oF (.getfield 188) 3 9 3 2, oM (.invokevirtual 201) 3 179 5 1 10, oA (.ifCond .eq 5) 3 57]), (55, [oV (.iconst 2) 1 2, oA .ireturn 1 0]), (57, [o0 (.aload_n 0) 1, oF (.getfield 26) 3 1 3 2, o0 (.iload_n 1) 1, o0 (.aload_n 0) 1, oF (.getfield 26) 3 1 3 2, oF (.getfield 188) 3 9 3 2, o0 (.iload_n 2) 1, o0 (.aload_n 0) 1, oF (.getfield 26) 3 1 3 2, oF (.getfield 191) 3 9 4 2, oM (.invokevirtual 201) 3 179 5 1 10, oA (.ifCond .eq 7) 3 87]), (83, [oV (.iconst 1) 1 1, oA (.goto 4) 3 88]), (87, [oV (.iconst 0) 1 0]), (88, [oA .ireturn 1 0])], [], 3)
theorem mk_202 : mj_ckM mj_TY mp_1 prog_1_method_17_code 3 (some .int) mt_202 = true := by decide +kernel
-- UnbeatenHouse.front(III)I
def mt_203 : mj_C := ([(0, [o0 (.iload_n 1) 1, oA (.ifCond .lt 20) 3 21]), (4, [o0 (.iload_n 1) 1, oV (.iconst 2) 1 2, oA (.if_icmp .gt 15) 3 21]), (9, [o0 (.aload_n 0) 1, oF (.getfield 10) 3 1 1 2, oF (.getfield 130) 3 11 1 2, oV (.iconst 0) 1 0, o0 .iaload 1, oA (.ifCond .ne 5) 3 23]), (21, [oV (.iconst (-1)) 1 (-1), oA .ireturn 1 0]), (23, [o0 (.iload_n 1) 1, oA (.ifCond .ne 22) 3 46]), (27, [o0 (.aload_n 0) 1, oF (.getfield 26) 3 1 3 2, o0 (.aload_n 0) 1, oF (.getfield 47) 3 1 6 2, oM (.invokevirtual 205) 3 204 2 0 10, o0 (.aload_n 0) 1, oF (.getfield 47) 3 1 6 2, oF (.getfield 209) 3 2 1 0, oA .ireturn 1 0]), (46, [o0 (.iload_n 1) 1, oV (.iconst 1) 1 1, oA (.if_icmp .ne 10) 3 58]), (51, [o0 (.aload_n 0) 1, o0 (.iload_n 2) 1, o0 (.iload_n 3) 1, oM (.invokevirtual 210) 3 206 3 1 2, oA .ireturn 1 0]), (58, [o0 (.aload_n 0) 1, oM (.invokevirtual 213) 3 220 1 1 2, oA .ireturn 1 0])], [], 4)
theorem mk_203 : mj_ckM mj_TY mp_1 prog_1_method_18_code 4 (some .int) mt_203 = true := by decide +kernel
-- UnbeatenHouse$Rows.putFront(LUnbeatenHouse$Front;)V
def mt_204 : mj_C := ([(0, [o0 (.aload_n 1) 1, oV (.iconst 0) 1 0, oM (.invokevirtual 83) 3 182 2 0 3, oV (.iconst 0) 1 0, o0 (.istore_n 2) 1]), (7, [o0 (.iload_n 2) 1, o0 (.aload_n 0) 1, oF (.getfield 29) 3 9 0 0, oA (.if_icmp .ge 33) 3 45]), (15, [o0 (.aload_n 0) 1, oF (.getfield 48) 3 9 6 1, o0 (.iload_n 2) 1, oM (.invokestatic 65) 3 178 2 1 0, oA (.ifCond .eq 16) 3 39]), (26, [o0 (.aload_n 1) 1, o0 (.aload_n 0) 1, oF (.getfield 9) 3 9 2 2, o0 (.iload_n 2) 1, oV (.iconst 4) 1 4, o0 .imul 1, o0 (.iload_n 2) 1, o0 .i2l 1, oM (.invokevirtual 87) 3 205 4 0 3]), (39, [oV (.iinc 2 1) 3 1, oA (.goto (-35)) 3 7]), (45, [o0 .return_ 1])], [(7, [0, 1, 2])], 3)
theorem mk_204 : mj_ckM mj_TY mp_9 prog_9_method_8_code 3 none mt_204 = true := by decide +kernel
-- UnbeatenHouse$Front.add([IIJ)V
def mt_205 : mj_C := ([(0, [o0 (.aload_n 0) 1, oF (.getfield 27) 3 2 1 0, oV (.bipush 100) 2 100, oA (.if_icmp .ge 39) 3 45]), (9, [o0 (.aload_n 1) 1, o0 (.iload_n 2) 1, o0 (.aload_n 0) 1, oF (.getfield 15) 3 2 2 2, o0 (.aload_n 0) 1, oF (.getfield 27) 3 2 1 0, oV (.iconst 4) 1 4, o0 .imul 1, oV (.iconst 4) 1 4, oA (.invokestatic 30) 3 999, o0 (.aload_n 0) 1, oF (.getfield 19) 3 2 3 2, o0 (.aload_n 0) 1, oF (.getfield 27) 3 2 1 0, o0 (.lload_n 3) 1, o0 .lastore 1, o0 (.aload_n 0) 1, o0 .dup 1, oF (.getfield 27) 3 2 1 0, oV (.iconst 1) 1 1, o0 .iadd 1, oF (.putfield 27) 3 2 1 0]), (45, [o0 .return_ 1])], [], 5)
theorem mk_205 : mj_ckM mj_TY mp_2 prog_2_method_6_code 5 none mt_205 = true := by decide +kernel
-- UnbeatenHouse.takeWays(II)I
def mt_206 : mj_C := ([(0, [o0 (.aload_n 0) 1, oF (.getfield 10) 3 1 1 2, oV (.iconst 2) 1 2, o0 (.iload_n 1) 1, oM (.invokevirtual 149) 3 192 3 1 12, oA (.ifCond .eq 20) 3 29]), (12, [o0 (.aload_n 0) 1, oF (.getfield 10) 3 1 1 2, oV (.iconst 2) 1 2, o0 (.iload_n 2) 1, oM (.invokevirtual 149) 3 192 3 1 12, oA (.ifCond .eq 8) 3 29]), (24, [o0 (.iload_n 1) 1, o0 (.iload_n 2) 1, oA (.if_icmp .ne 5) 3 31]), (29, [oV (.iconst (-1)) 1 (-1), oA .ireturn 1 0]), (31, [o0 (.aload_n 0) 1, oF (.getfield 40) 3 1 5 2, o0 (.aload_n 0) 1, oF (.getfield 10) 3 1 1 2, o0 (.iload_n 1) 1, o0 (.iload_n 2) 1, o0 (.aload_n 0) 1, oF (.getfield 33) 3 1 4 2, oM (.invokevirtual 217) 3 207 5 0 4, o0 (.aload_n 0) 1, oF (.getfield 33) 3 1 4 2, o0 (.aload_n 0) 1, oF (.getfield 51) 3 1 7 2, oV (.iconst 1) 1 1, oM (.invokevirtual 221) 3 213 3 1 8, o0 (.istore_n 3) 1, o0 (.iload_n 3) 1, oV (.bipush (-2)) 2 (-2), oA (.if_icmp .eq 14) 3 78]), (67, [o0 (.aload_n 0) 1, oF (.getfield 47) 3 1 6 2, o0 (.aload_n 0) 1, oF (.getfield 51) 3 1 7 2, oM (.invokevirtual 224) 3 219 2 0 3]), (78, [o0 (.iload_n 3) 1, oA .ireturn 1 0])], [], 4)
theorem mk_206 : mj_ckM mj_TY mp_1 prog_1_method_19_code 4 (some .int) mt_206 = true := by decide +kernel
-- UnbeatenHouse$Gatherer.gatherWays(LUnbeatenHouse$Tale;IILUnbeatenHouse$Pool;)V
def mt_207 : mj_C := ([(0, [o0 (.aload 4) 2, o0 (.aload_n 1) 1, oF (.getfield 25) 3 11 1 2, oV (.iconst 0) 1 0, o0 .iaload 1, oM (.invokevirtual 30) 3 208 2 0 8, oV (.iconst 0) 1 0, o0 (.istore 5) 2]), (14, [o0 (.iload 5) 2, oV (.iconst 4) 1 4, oA (.if_icmp .ge 17) 3 34]), (20, [o0 (.aload_n 0) 1, oF (.getfield 18) 3 3 1 2, o0 (.iload 5) 2, oV (.iconst 0) 1 0, o0 .iastore 1, oV (.iinc 5 1) 3 1, oA (.goto (-17)) 3 14]), (34, [o0 (.aload_n 0) 1, o0 (.aload_n 1) 1, o0 (.aload 4) 2, o0 (.iload_n 3) 1, o0 (.iload_n 2) 1, oV (.iconst 0) 1 0, oV (.iconst 1) 1 1, o0 (.iload_n 2) 1, o0 .ishl 1, o0 (.iload_n 2) 1, o0 .i2l 1, oV (.bipush 40) 2 40, o0 .lshl 1, oM (.invokevirtual 36) 3 209 8 0 4, o0 .return_ 1])], [(14, [0, 1, 2, 3, 4, 5])], 6)
theorem mk_207 : mj_ckM mj_TY mp_3 prog_3_method_2_code 6 none mt_207 = true := by decide +kernel
-- UnbeatenHouse$Pool.clear(I)V
def mt_208 : mj_C := ([(0, [o0 (.aload_n 0) 1, oV (.iconst 0) 1 0, oF (.putfield 22) 3 7 3 0, o0 (.aload_n 0) 1, o0 (.iload_n 1) 1, oF (.putfield 26) 3 7 4 0, o0 .return_ 1])], [], 2)
theorem mk_208 : mj_ckM mj_TY mp_7 prog_7_method_2_code 2 none mt_208 = true := by decide +kernel
-- UnbeatenHouse$Gatherer.walk(LUnbeatenHouse$Tale;LUnbeatenHouse$Pool;IIIIJ)V
def mt_209 : mj_C := ([(0, [o0 (.iload 4) 2, o0 (.iload_n 3) 1, oA (.if_icmp .ne 29) 3 32]), (6, [o0 (.aload_n 0) 1, o0 (.aload_n 1) 1, o0 (.iload 5) 2, oV (.iconst 4) 1 4, o0 .imul 1, oM (.invokevirtual 40) 3 210 3 0 4, o0 (.aload_n 2) 1, o0 (.aload_n 0) 1, oF (.getfield 22) 3 3 2 2, o0 (.lload 7) 2, o0 (.iload 5) 2, oV (.iconst 1) 1 1, o0 .iadd 1, o0 .i2l 1, o0 .lor 1, oM (.invokevirtual 44) 3 211 3 0 8, o0 .return_ 1]), (32, [o0 (.iload 5) 2, oV (.iconst 1) 1 1, o0 .iadd 1, oV (.bipush 10) 2 10, oA (.if_icmp .lt 4) 3 42]), (41, [o0 .return_ 1]), (42, [oV (.iconst 0) 1 0, o0 (.istore 9) 2]), (45, [o0 (.iload 9) 2, o0 (.aload_n 1) 1, oF (.getfield 25) 3 11 1 2, oV (.iconst 3) 1 3, o0 .iaload 1, oA (.if_icmp .ge 87) 3 140]), (56, [o0 (.aload_n 1) 1, oF (.getfield 48) 3 11 7 2, o0 (.iload 9) 2, o0 .iaload 1, o0 (.istore 10) 2, o0 (.aload_n 1) 1, oF (.getfield 51) 3 11 6 2, o0 (.iload 9) 2, o0 .iaload 1, o0 (.iload 4) 2, oA (.if_icmp .ne 60) 3 134]), (77, [o0 (.iload 6) 2, o0 (.iload 10) 2, o0 .ishr 1, oV (.iconst 1) 1 1, o0 .iand 1, oA (.ifCond .ne 50) 3 134]), (87, [o0 (.aload_n 0) 1, o0 (.aload_n 1) 1, o0 (.iload 9) 2, o0 (.iload 5) 2, oM (.invokevirtual 54) 3 212 4 0 4, o0 (.lload 7) 2, o0 (.iload 10) 2, o0 .i2l 1, oV (.iconst 4) 1 4, oV (.bipush 9) 2 9, o0 (.iload 5) 2, o0 .isub 1, o0 .imul 1, o0 .lshl 1, o0 .lor 1, o0 (.lstore 11) 2, o0 (.aload_n 0) 1, o0 (.aload_n 1) 1, o0 (.aload_n 2) 1, o0 (.iload_n 3) 1, o0 (.iload 10) 2, o0 (.iload 5) 2, oV (.iconst 1) 1 1, o0 .iadd 1, o0 (.iload 6) 2, oV (.iconst 1) 1 1, o0 (.iload 10) 2, o0 .ishl 1, o0 .ior 1, o0 (.lload 11) 2, oM (.invokevirtual 36) 3 209 8 0 4]), (134, [oV (.iinc 9 1) 3 1, oA (.goto (-92)) 3 45]), (140, [o0 .return_ 1])], [(45, [0, 1, 2, 3, 4, 5, 6, 7, 9])], 13)
theorem mk_209 : mj_ckM mj_TY mp_3 prog_3_method_3_code 13 none mt_209 = true := by decide +kernel
-- UnbeatenHouse$Gatherer.putLosses(LUnbeatenHouse$Tale;I)V
def mt_210 : mj_C := ([(0, [oV (.iconst 0) 1 0, o0 (.istore_n 3) 1]), (2, [o0 (.iload_n 3) 1, o0 (.aload_n 1) 1, oF (.getfield 25) 3 11 1 2, oV (.iconst 0) 1 0, o0 .iaload 1, oA (.if_icmp .ge 28) 3 37]), (12, [o0 (.aload_n 0) 1, oF (.getfield 22) 3 3 2 2, o0 (.iload_n 3) 1, o0 (.aload_n 1) 1, o0 (.iload_n 3) 1, o0 (.aload_n 0) 1, oF (.getfield 18) 3 3 1 2, o0 (.iload_n 2) 1, o0 (.iload_n 3) 1, o0 .iadd 1, o0 .iaload 1, oM (.invokevirtual 65) 3 175 3 1 12, o0 .iastore 1, oV (.iinc 3 1) 3 1, oA (.goto (-32)) 3 2]), (37, [o0 .return_ 1])], [(2, [0, 1, 2, 3])], 4)
theorem mk_210 : mj_ckM mj_TY mp_3 prog_3_method_5_code 4 none mt_210 = true := by decide +kernel
-- UnbeatenHouse$Pool.add([IJ)V
def mt_211 : mj_C := ([(0, [o0 (.aload_n 0) 1, oF (.getfield 22) 3 7 3 0, oV (.sipush 6561) 3 6561, oA (.if_icmp .ge 52) 3 59]), (10, [o0 (.aload_n 1) 1, oV (.iconst 0) 1 0, o0 (.aload_n 0) 1, oF (.getfield 9) 3 7 0 2, o0 (.aload_n 0) 1, oF (.getfield 22) 3 7 3 0, oV (.iconst 4) 1 4, o0 .imul 1, oV (.iconst 4) 1 4, oA (.invokestatic 29) 3 999, o0 (.aload_n 0) 1, oF (.getfield 15) 3 7 1 2, o0 (.aload_n 0) 1, oF (.getfield 22) 3 7 3 0, o0 (.lload_n 2) 1, o0 .lastore 1, o0 (.aload_n 0) 1, oF (.getfield 19) 3 7 2 2, o0 (.aload_n 0) 1, oF (.getfield 22) 3 7 3 0, o0 (.aload_n 0) 1, oF (.getfield 22) 3 7 3 0, o0 .iastore 1, o0 (.aload_n 0) 1, o0 .dup 1, oF (.getfield 22) 3 7 3 0, oV (.iconst 1) 1 1, o0 .iadd 1, oF (.putfield 22) 3 7 3 0]), (59, [o0 .return_ 1])], [], 4)
theorem mk_211 : mj_ckM mj_TY mp_7 prog_7_method_3_code 4 none mt_211 = true := by decide +kernel
end
section
/-! code tables, by program -/
-- UnbeatenHouse$Gatherer.goAlong(LUnbeatenHouse$Tale;II)V
def mt_212 : mj_C := ([(0, [o0 (.iload_n 3) 1, oV (.iconst 4) 1 4, o0 .imul 1, o0 (.istore 4) 2, oV (.iconst 0) 1 0, o0 (.istore 5) 2]), (8, [o0 (.iload 5) 2, o0 (.aload_n 1) 1, oF (.getfield 25) 3 11 1 2, oV (.iconst 0) 1 0, o0 .iaload 1, oA (.if_icmp .ge 44) 3 60]), (19, [o0 (.aload_n 0) 1, oF (.getfield 18) 3 3 1 2, o0 (.iload 4) 2, oV (.iconst 4) 1 4, o0 .iadd 1, o0 (.iload 5) 2, o0 .iadd 1, o0 (.aload_n 0) 1, oF (.getfield 18) 3 3 1 2, o0 (.iload 4) 2, o0 (.iload 5) 2, o0 .iadd 1, o0 .iaload 1, o0 (.aload_n 1) 1, oF (.getfield 58) 3 11 4 2, oV (.iconst 3) 1 3, o0 (.iload_n 2) 1, o0 (.iload 5) 2, oM (.invokestatic 61) 3 154 3 1 0, o0 .iaload 1, o0 .iadd 1, o0 .iastore 1, oV (.iinc 5 1) 3 1, oA (.goto (-49)) 3 8]), (60, [o0 .return_ 1])], [(8, [0, 1, 2, 4, 5])], 6)
theorem mk_212 : mj_ckM mj_TY mp_3 prog_3_method_4_code 6 none mt_212 = true := by decide +kernel
-- UnbeatenHouse$Pool.putFront(LUnbeatenHouse$Front;I)I
def mt_213 : mj_C := ([(0, [o0 (.aload_n 0) 1, oM (.invokevirtual 35) 3 214 1 0 8, o0 (.aload_n 1) 1, o0 (.iload_n 2) 1, oM (.invokevirtual 38) 3 182 2 0 3, oV (.iconst 0) 1 0, o0 (.istore_n 3) 1]), (11, [o0 (.iload_n 3) 1, o0 (.aload_n 0) 1, oF (.getfield 22) 3 7 3 0, oA (.if_icmp .ge 69) 3 85]), (19, [o0 (.aload_n 0) 1, oF (.getfield 19) 3 7 2 2, o0 (.iload_n 3) 1, o0 .iaload 1, oV (.iconst 4) 1 4, o0 .imul 1, o0 (.istore 4) 2, o0 (.aload_n 1) 1, o0 (.aload_n 0) 1, oF (.getfield 9) 3 7 0 2, o0 (.iload 4) 2, o0 (.aload_n 0) 1, oF (.getfield 26) 3 7 4 0, oM (.invokevirtual 44) 3 218 4 1 3, oA (.ifCond .ne 36) 3 79]), (46, [o0 (.aload_n 1) 1, oF (.getfield 48) 3 2 1 0, oV (.bipush 100) 2 100, oA (.if_icmp .lt 6) 3 58]), (55, [oV (.bipush (-2)) 2 (-2), oA .ireturn 1 0]), (58, [o0 (.aload_n 1) 1, o0 (.aload_n 0) 1, oF (.getfield 9) 3 7 0 2, o0 (.iload 4) 2, o0 (.aload_n 0) 1, oF (.getfield 15) 3 7 1 2, o0 (.aload_n 0) 1, oF (.getfield 19) 3 7 2 2, o0 (.iload_n 3) 1, o0 .iaload 1, o0 .laload 1, oM (.invokevirtual 49) 3 205 4 0 3]), (79, [oV (.iinc 3 1) 3 1, oA (.goto (-71)) 3 11]), (85, [o0 (.aload_n 1) 1, oF (.getfield 48) 3 2 1 0, oA .ireturn 1 0])], [(11, [0, 1, 3])], 5)
theorem mk_213 : mj_ckM mj_TY mp_7 prog_7_method_4_code 5 (some .int) mt_213 = true := by decide +kernel
-- UnbeatenHouse$Pool.sort()V
def mt_214 : mj_C := ([(0, [o0 (.aload_n 0) 1, oF (.getfield 22) 3 7 3 0, oV (.iconst 2) 1 2, o0 .idiv 1, oV (.iconst 1) 1 1, o0 .isub 1, o0 (.istore_n 1) 1]), (9, [o0 (.iload_n 1) 1, oA (.ifCond .lt 18) 3 28]), (13, [o0 (.aload_n 0) 1, o0 (.iload_n 1) 1, o0 (.aload_n 0) 1, oF (.getfield 22) 3 7 3 0, oM (.invokevirtual 53) 3 215 3 0 8, oV (.iinc 1 (-1)) 3 (-1), oA (.goto (-16)) 3 9]), (28, [o0 (.aload_n 0) 1, oF (.getfield 22) 3 7 3 0, oV (.iconst 1) 1 1, o0 .isub 1, o0 (.istore_n 1) 1]), (35, [o0 (.iload_n 1) 1, oA (.ifCond .le 21) 3 57]), (39, [o0 (.aload_n 0) 1, oV (.iconst 0) 1 0, o0 (.iload_n 1) 1, oM (.invokevirtual 57) 3 217 3 0 8, o0 (.aload_n 0) 1, oV (.iconst 0) 1 0, o0 (.iload_n 1) 1, oM (.invokevirtual 53) 3 215 3 0 8, oV (.iinc 1 (-1)) 3 (-1), oA (.goto (-19)) 3 35]), (57, [o0 .return_ 1])], [(9, [0, 1]), (35, [0, 1])], 2)
theorem mk_214 : mj_ckM mj_TY mp_7 prog_7_method_5_code 2 none mt_214 = true := by decide +kernel
-- UnbeatenHouse$Pool.sink(II)V
def mt_215 : mj_C := ([(0, [o0 (.iload_n 1) 1, o0 (.istore_n 3) 1, oV (.iconst 0) 1 0, o0 (.istore 4) 2]), (5, [o0 (.iload 4) 2, oV (.bipush 32) 2 32, oA (.if_icmp .ge 90) 3 99]), (12, [oV (.iconst 2) 1 2, o0 (.iload_n 3) 1, o0 .imul 1, oV (.iconst 1) 1 1, o0 .iadd 1, o0 (.iload_n 2) 1, oA (.if_icmp .ge 81) 3 99]), (21, [oV (.iconst 2) 1 2, o0 (.iload_n 3) 1, o0 .imul 1, oV (.iconst 1) 1 1, o0 .iadd 1, o0 (.istore 5) 2, o0 (.iload 5) 2, oV (.iconst 1) 1 1, o0 .iadd 1, o0 (.iload_n 2) 1, oA (.if_icmp .ge 29) 3 62]), (36, [o0 (.aload_n 0) 1, o0 (.aload_n 0) 1, oF (.getfield 19) 3 7 2 2, o0 (.iload 5) 2, o0 .iaload 1, o0 (.aload_n 0) 1, oF (.getfield 19) 3 7 2 2, o0 (.iload 5) 2, oV (.iconst 1) 1 1, o0 .iadd 1, o0 .iaload 1, oM (.invokevirtual 60) 3 216 3 1 8, oA (.ifCond .eq 6) 3 62]), (59, [oV (.iinc 5 1) 3 1]), (62, [o0 (.aload_n 0) 1, o0 (.aload_n 0) 1, oF (.getfield 19) 3 7 2 2, o0 (.iload_n 3) 1, o0 .iaload 1, o0 (.aload_n 0) 1, oF (.getfield 19) 3 7 2 2, o0 (.iload 5) 2, o0 .iaload 1, oM (.invokevirtual 60) 3 216 3 1 8, oA (.ifCond .ne 4) 3 83]), (82, [o0 .return_ 1]), (83, [o0 (.aload_n 0) 1, o0 (.iload_n 3) 1, o0 (.iload 5) 2, oM (.invokevirtual 57) 3 217 3 0 8, o0 (.iload 5) 2, o0 (.istore_n 3) 1, oV (.iinc 4 1) 3 1, oA (.goto (-91)) 3 5]), (99, [o0 .return_ 1])], [(5, [0, 2, 3, 4]), (62, [0, 2, 3, 4, 5])], 6)
theorem mk_215 : mj_ckM mj_TY mp_7 prog_7_method_6_code 6 none mt_215 = true := by decide +kernel
-- UnbeatenHouse$Pool.isAhead(II)Z
def mt_216 : mj_C := ([(0, [oV (.iconst 0) 1 0, o0 (.istore_n 3) 1]), (2, [o0 (.iload_n 3) 1, o0 (.aload_n 0) 1, oF (.getfield 26) 3 7 4 0, oA (.if_icmp .ge 53) 3 60]), (10, [o0 (.aload_n 0) 1, oF (.getfield 9) 3 7 0 2, o0 (.iload_n 1) 1, oV (.iconst 4) 1 4, o0 .imul 1, o0 (.iload_n 3) 1, o0 .iadd 1, o0 .iaload 1, o0 (.istore 4) 2, o0 (.aload_n 0) 1, oF (.getfield 9) 3 7 0 2, o0 (.iload_n 2) 1, oV (.iconst 4) 1 4, o0 .imul 1, o0 (.iload_n 3) 1, o0 .iadd 1, o0 .iaload 1, o0 (.istore 5) 2, o0 (.iload 4) 2, o0 (.iload 5) 2, oA (.if_icmp .eq 16) 3 54]), (41, [o0 (.iload 4) 2, o0 (.iload 5) 2, oA (.if_icmp .ge 7) 3 52]), (48, [oV (.iconst 1) 1 1, oA (.goto 4) 3 53]), (52, [oV (.iconst 0) 1 0]), (53, [oA .ireturn 1 1]), (54, [oV (.iinc 3 1) 3 1, oA (.goto (-55)) 3 2]), (60, [o0 (.aload_n 0) 1, oF (.getfield 15) 3 7 1 2, o0 (.iload_n 1) 1, o0 .laload 1, o0 (.aload_n 0) 1, oF (.getfield 15) 3 7 1 2, o0 (.iload_n 2) 1, o0 .laload 1, o0 .lcmp 1, oA (.ifCond .ge 7) 3 80]), (76, [oV (.iconst 1) 1 1, oA (.goto 4) 3 81]), (80, [oV (.iconst 0) 1 0]), (81, [oA .ireturn 1 1])], [(2, [0, 1, 2, 3])], 6)
theorem mk_216 : mj_ckM mj_TY mp_7 prog_7_method_8_code 6 (some .boolean) mt_216 = true := by decide +kernel
-- UnbeatenHouse$Pool.swap(II)V
def mt_217 : mj_C := ([(0, [o0 (.aload_n 0) 1, oF (.getfield 19) 3 7 2 2, o0 (.iload_n 1) 1, o0 .iaload 1, o0 (.istore_n 3) 1, o0 (.aload_n 0) 1, oF (.getfield 19) 3 7 2 2, o0 (.iload_n 1) 1, o0 (.aload_n 0) 1, oF (.getfield 19) 3 7 2 2, o0 (.iload_n 2) 1, o0 .iaload 1, o0 .iastore 1, o0 (.aload_n 0) 1, oF (.getfield 19) 3 7 2 2, o0 (.iload_n 2) 1, o0 (.iload_n 3) 1, o0 .iastore 1, o0 .return_ 1])], [], 4)
theorem mk_217 : mj_ckM mj_TY mp_7 prog_7_method_7_code 4 none mt_217 = true := by decide +kernel
-- UnbeatenHouse$Front.standsUnder([III)Z
def mt_218 : mj_C := ([(0, [oV (.iconst 0) 1 0, o0 (.istore 4) 2]), (3, [o0 (.iload 4) 2, o0 (.aload_n 0) 1, oF (.getfield 27) 3 2 1 0, oA (.if_icmp .ge 28) 3 37]), (12, [o0 (.aload_n 0) 1, oF (.getfield 15) 3 2 2 2, o0 (.iload 4) 2, oV (.iconst 4) 1 4, o0 .imul 1, o0 (.aload_n 1) 1, o0 (.iload_n 2) 1, o0 (.iload_n 3) 1, oM (.invokestatic 40) 3 180 5 1 0, oA (.ifCond .eq 5) 3 31]), (29, [oV (.iconst 1) 1 1, oA .ireturn 1 1]), (31, [oV (.iinc 4 1) 3 1, oA (.goto (-31)) 3 3]), (37, [oV (.iconst 0) 1 0, oA .ireturn 1 1])], [(3, [0, 1, 2, 3, 4])], 5)
theorem mk_218 : mj_ckM mj_TY mp_2 prog_2_method_8_code 5 (some .boolean) mt_218 = true := by decide +kernel
-- UnbeatenHouse$Front.copy(LUnbeatenHouse$Front;)V
def mt_219 : mj_C := ([(0, [o0 (.aload_n 0) 1, o0 (.aload_n 1) 1, oF (.getfield 9) 3 2 0 0, oM (.invokevirtual 23) 3 182 2 0 3, oV (.iconst 0) 1 0, o0 (.istore_n 2) 1]), (10, [o0 (.iload_n 2) 1, o0 (.aload_n 1) 1, oF (.getfield 27) 3 2 1 0, oA (.if_icmp .ge 26) 3 41]), (18, [o0 (.aload_n 0) 1, o0 (.aload_n 1) 1, oF (.getfield 15) 3 2 2 2, o0 (.iload_n 2) 1, oV (.iconst 4) 1 4, o0 .imul 1, o0 (.aload_n 1) 1, oF (.getfield 19) 3 2 3 2, o0 (.iload_n 2) 1, o0 .laload 1, oM (.invokevirtual 36) 3 205 4 0 3, oV (.iinc 2 1) 3 1, oA (.goto (-28)) 3 10]), (41, [o0 .return_ 1])], [(10, [0, 1, 2])], 3)
theorem mk_219 : mj_ckM mj_TY mp_2 prog_2_method_7_code 3 none mt_219 = true := by decide +kernel
-- UnbeatenHouse.takeSets()I
def mt_220 : mj_C := ([(0, [o0 (.aload_n 0) 1, oF (.getfield 57) 3 1 9 0, oV (.bipush (-3)) 2 (-3), oA (.if_icmp .ne 34) 3 40]), (9, [o0 (.aload_n 0) 1, oF (.getfield 40) 3 1 5 2, o0 (.aload_n 0) 1, oF (.getfield 10) 3 1 1 2, o0 (.aload_n 0) 1, oF (.getfield 33) 3 1 4 2, oM (.invokevirtual 227) 3 221 3 0 4, o0 (.aload_n 0) 1, o0 (.aload_n 0) 1, oF (.getfield 33) 3 1 4 2, o0 (.aload_n 0) 1, oF (.getfield 54) 3 1 8 2, oV (.iconst 2) 1 2, oM (.invokevirtual 221) 3 213 3 1 8, oF (.putfield 57) 3 1 9 0]), (40, [o0 (.aload_n 0) 1, oF (.getfield 57) 3 1 9 0, oV (.bipush (-2)) 2 (-2), oA (.if_icmp .eq 14) 3 60]), (49, [o0 (.aload_n 0) 1, oF (.getfield 47) 3 1 6 2, o0 (.aload_n 0) 1, oF (.getfield 54) 3 1 8 2, oM (.invokevirtual 224) 3 219 2 0 3]), (60, [o0 (.aload_n 0) 1, oF (.getfield 57) 3 1 9 0, oA .ireturn 1 0])], [(40, [0])], 1)
theorem mk_220 : mj_ckM mj_TY mp_1 prog_1_method_20_code 1 (some .int) mt_220 = true := by decide +kernel
-- UnbeatenHouse$Gatherer.gatherSets(LUnbeatenHouse$Tale;LUnbeatenHouse$Pool;)V
def mt_221 : mj_C := ([(0, [o0 (.aload_n 2) 1, o0 (.aload_n 1) 1, oF (.getfield 25) 3 11 1 2, oV (.iconst 0) 1 0, o0 .iaload 1, oM (.invokevirtual 30) 3 208 2 0 8, oV (.iconst 0) 1 0, o0 (.istore_n 3) 1]), (12, [o0 (.iload_n 3) 1, oV (.iconst 1) 1 1, o0 (.aload_n 1) 1, oF (.getfield 25) 3 11 1 2, oV (.iconst 4) 1 4, o0 .iaload 1, o0 .ishl 1, oA (.if_icmp .ge 47) 3 68]), (24, [o0 (.aload_n 0) 1, o0 (.aload_n 1) 1, o0 (.iload_n 3) 1, oM (.invokevirtual 69) 3 222 3 0 4, o0 (.aload_n 0) 1, oF (.getfield 12) 3 3 0 2, o0 (.aload_n 1) 1, o0 (.iload_n 3) 1, o0 (.aload_n 0) 1, oF (.getfield 18) 3 3 1 2, oM (.invokevirtual 72) 3 223 4 1 5, oA (.ifCond .eq 19) 3 62]), (46, [o0 (.aload_n 0) 1, o0 (.aload_n 1) 1, oV (.iconst 0) 1 0, oM (.invokevirtual 40) 3 210 3 0 4, o0 (.aload_n 2) 1, o0 (.aload_n 0) 1, oF (.getfield 22) 3 3 2 2, o0 (.iload_n 3) 1, o0 .i2l 1, oM (.invokevirtual 44) 3 211 3 0 8]), (62, [oV (.iinc 3 1) 3 1, oA (.goto (-53)) 3 12]), (68, [o0 .return_ 1])], [(12, [0, 1, 2, 3])], 4)
theorem mk_221 : mj_ckM mj_TY mp_3 prog_3_method_6_code 4 none mt_221 = true := by decide +kernel
-- UnbeatenHouse$Gatherer.addUp(LUnbeatenHouse$Tale;I)V
def mt_222 : mj_C := ([(0, [oV (.iconst 0) 1 0, o0 (.istore_n 3) 1]), (2, [o0 (.iload_n 3) 1, o0 (.aload_n 1) 1, oF (.getfield 25) 3 11 1 2, oV (.iconst 0) 1 0, o0 .iaload 1, oA (.if_icmp .ge 66) 3 75]), (12, [o0 (.aload_n 0) 1, oF (.getfield 18) 3 3 1 2, o0 (.iload_n 3) 1, oV (.iconst 0) 1 0, o0 .iastore 1, oV (.iconst 0) 1 0, o0 (.istore 4) 2]), (22, [o0 (.iload 4) 2, o0 (.aload_n 1) 1, oF (.getfield 25) 3 11 1 2, oV (.iconst 4) 1 4, o0 .iaload 1, oA (.if_icmp .ge 39) 3 69]), (33, [o0 (.iload_n 2) 1, o0 (.iload 4) 2, o0 .ishr 1, oV (.iconst 1) 1 1, o0 .iand 1, oA (.ifCond .eq 24) 3 63]), (42, [o0 (.aload_n 0) 1, oF (.getfield 18) 3 3 1 2, o0 (.iload_n 3) 1, o0 .dup2 1, o0 .iaload 1, o0 (.aload_n 1) 1, oF (.getfield 58) 3 11 4 2, oV (.iconst 4) 1 4, o0 (.iload 4) 2, o0 (.iload_n 3) 1, oM (.invokestatic 61) 3 154 3 1 0, o0 .iaload 1, o0 .iadd 1, o0 .iastore 1]), (63, [oV (.iinc 4 1) 3 1, oA (.goto (-44)) 3 22]), (69, [oV (.iinc 3 1) 3 1, oA (.goto (-70)) 3 2]), (75, [o0 .return_ 1])], [(2, [0, 1, 2, 3]), (22, [0, 1, 2, 3, 4])], 5)
theorem mk_222 : mj_ckM mj_TY mp_3 prog_3_method_7_code 5 none mt_222 = true := by decide +kernel
-- UnbeatenHouse$Judge.allows(LUnbeatenHouse$Tale;I[I)Z
def mt_223 : mj_C := ([(0, [oV (.iconst 0) 1 0, o0 (.istore 4) 2, oV (.iconst 0) 1 0, o0 (.istore 5) 2]), (6, [o0 (.iload 5) 2, o0 (.aload_n 1) 1, oF (.getfield 15) 3 11 1 2, oV (.iconst 5) 1 5, o0 .iaload 1, oA (.if_icmp .ge 68) 3 82]), (17, [o0 (.aload_n 0) 1, oV (.iconst 0) 1 0, oF (.putfield 20) 3 4 1 0]), (22, [o0 (.iload 4) 2, o0 (.aload_n 1) 1, oF (.getfield 24) 3 11 10 2, o0 (.iload 5) 2, o0 .iaload 1, oA (.if_icmp .ge 36) 3 67]), (34, [o0 (.aload_n 0) 1, o0 (.aload_n 1) 1, oF (.getfield 27) 3 11 8 2, o0 (.iload 4) 2, o0 .iaload 1, oV (.bipush 14) 2 14, o0 .ishr 1, o0 (.aload_n 1) 1, oF (.getfield 27) 3 11 8 2, o0 (.iload 4) 2, o0 .iaload 1, oV (.sipush 16383) 3 16383, o0 .iand 1, o0 (.iload_n 2) 1, o0 (.aload_n 3) 1, oM (.invokevirtual 30) 3 224 5 0 5, oV (.iinc 4 1) 3 1, oA (.goto (-42)) 3 22]), (67, [o0 (.aload_n 0) 1, oM (.invokevirtual 34) 3 226 1 1 5, oA (.ifCond .ne 5) 3 76]), (74, [oV (.iconst 0) 1 0, oA .ireturn 1 1]), (76, [oV (.iinc 5 1) 3 1, oA (.goto (-73)) 3 6]), (82, [oV (.iconst 1) 1 1, oA .ireturn 1 1])], [(6, [0, 1, 2, 3, 4, 5]), (22, [0, 1, 2, 3, 4, 5])], 6)
theorem mk_223 : mj_ckM mj_TY mp_4 prog_4_method_2_code 6 (some .boolean) mt_223 = true := by decide +kernel
-- UnbeatenHouse$Judge.work(III[I)V
def mt_224 : mj_C := ([(0, [o0 (.iload_n 1) 1, oT (.tableswitch 119 10 17 #[106, 86, 94, 55, 66, 119, 119, 47]) 47 120 [(10, 107), (11, 87), (12, 95), (13, 56), (14, 67), (15, 120), (16, 120), (17, 48)]]), (48, [o0 (.aload_n 0) 1, o0 (.iload_n 2) 1, oM (.invokevirtual 38) 3 225 2 0 5, oA (.goto 91) 3 144]), (56, [o0 (.aload_n 0) 1, o0 (.iload_n 3) 1, oM (.invokestatic 42) 3 3 1 1 0, oM (.invokevirtual 38) 3 225 2 0 5, oA (.goto 80) 3 144]), (67, [o0 (.aload_n 0) 1, o0 (.iload_n 2) 1, oV (.iconst 4) 1 4, oA (.if_icmp .ge 10) 3 80]), (73, [o0 (.aload 4) 2, o0 (.iload_n 2) 1, o0 .iaload 1, oA (.goto 4) 3 81]), (80, [oV (.iconst 0) 1 0]), (81, [oM (.invokevirtual 38) 3 225 2 0 5, oA (.goto 60) 3 144]), (87, [o0 (.aload_n 0) 1, oV (.iconst 1) 1 1, oM (.invokevirtual 38) 3 225 2 0 5, oA (.goto 52) 3 144]), (95, [o0 (.aload_n 0) 1, o0 (.iload_n 3) 1, o0 (.iload_n 2) 1, o0 .ishr 1, oV (.iconst 1) 1 1, o0 .iand 1, oM (.invokevirtual 38) 3 225 2 0 5, oA (.goto 40) 3 144]), (107, [o0 (.aload_n 0) 1, oV (.iconst 1) 1 1, o0 (.aload_n 0) 1, oM (.invokevirtual 34) 3 226 1 1 5, o0 .isub 1, oM (.invokevirtual 38) 3 225 2 0 5, oA (.goto 27) 3 144]), (120, [o0 (.aload_n 0) 1, oM (.invokevirtual 34) 3 226 1 1 5, o0 (.istore 5) 2, o0 (.aload_n 0) 1, oM (.invokevirtual 34) 3 226 1 1 5, o0 (.istore 6) 2, o0 (.aload_n 0) 1, o0 (.iload_n 1) 1, o0 (.iload 6) 2, o0 (.iload 5) 2, oM (.invokestatic 48) 3 227 3 1 0, oM (.invokevirtual 38) 3 225 2 0 5]), (144, [o0 .return_ 1])], [], 7)
theorem mk_224 : mj_ckM mj_TY mp_4 prog_4_method_5_code 7 none mt_224 = true := by decide +kernel
-- UnbeatenHouse$Judge.push(I)V
def mt_225 : mj_C := ([(0, [o0 (.aload_n 0) 1, oF (.getfield 20) 3 4 1 0, oV (.bipush 64) 2 64, oA (.if_icmp .ge 23) 3 29]), (9, [o0 (.aload_n 0) 1, oF (.getfield 11) 3 4 0 2, o0 (.aload_n 0) 1, oF (.getfield 20) 3 4 1 0, o0 (.iload_n 1) 1, o0 .iastore 1, o0 (.aload_n 0) 1, o0 .dup 1, oF (.getfield 20) 3 4 1 0, oV (.iconst 1) 1 1, o0 .iadd 1, oF (.putfield 20) 3 4 1 0]), (29, [o0 .return_ 1])], [], 2)
theorem mk_225 : mj_ckM mj_TY mp_4 prog_4_method_3_code 2 none mt_225 = true := by decide +kernel
-- UnbeatenHouse$Judge.pop()I
def mt_226 : mj_C := ([(0, [o0 (.aload_n 0) 1, oF (.getfield 20) 3 4 1 0, oA (.ifCond .ne 5) 3 9]), (7, [oV (.iconst 0) 1 0, oA .ireturn 1 0]), (9, [o0 (.aload_n 0) 1, o0 .dup 1, oF (.getfield 20) 3 4 1 0, oV (.iconst 1) 1 1, o0 .isub 1, oF (.putfield 20) 3 4 1 0, o0 (.aload_n 0) 1, oF (.getfield 11) 3 4 0 2, o0 (.aload_n 0) 1, oF (.getfield 20) 3 4 1 0, o0 .iaload 1, oA .ireturn 1 0])], [], 1)
theorem mk_226 : mj_ckM mj_TY mp_4 prog_4_method_4_code 1 (some .int) mt_226 = true := by decide +kernel
-- UnbeatenHouse$Judge.join(III)I
def mt_227 : mj_C := ([(0, [o0 (.iload_n 0) 1, oT (.lookupswitch 112 #[(15, 100), (16, 106), (42, 77), (43, 59), (45, 68), (47, 86)]) 59 113 [(15, 101), (16, 107), (42, 78), (43, 60), (45, 69), (47, 87)]]), (60, [o0 (.iload_n 1) 1, o0 .i2l 1, o0 (.iload_n 2) 1, o0 .i2l 1, o0 .ladd 1, oM (.invokestatic 52) 3 228 1 1 0, oA .ireturn 1 0]), (69, [o0 (.iload_n 1) 1, o0 .i2l 1, o0 (.iload_n 2) 1, o0 .i2l 1, o0 .lsub 1, oM (.invokestatic 52) 3 228 1 1 0, oA .ireturn 1 0]), (78, [o0 (.iload_n 1) 1, o0 .i2l 1, o0 (.iload_n 2) 1, o0 .i2l 1, o0 .lmul 1, oM (.invokestatic 52) 3 228 1 1 0, oA .ireturn 1 0]), (87, [o0 (.iload_n 2) 1, oA (.ifCond .ne 7) 3 95]), (91, [oV (.iconst 0) 1 0, oA (.goto 8) 3 100]), (95, [o0 (.iload_n 1) 1, o0 (.iload_n 2) 1, oM (.invokestatic 56) 3 6 2 1 0]), (100, [oA .ireturn 1 0]), (101, [o0 (.iload_n 1) 1, o0 (.iload_n 2) 1, oM (.invokestatic 62) 3 0 2 1 0, oA .ireturn 1 0]), (107, [o0 (.iload_n 1) 1, o0 (.iload_n 2) 1, oM (.invokestatic 65) 3 1 2 1 0, oA .ireturn 1 0]), (113, [o0 (.iload_n 0) 1, o0 (.iload_n 1) 1, o0 (.iload_n 2) 1, oM (.invokestatic 68) 3 229 3 1 0, oA (.ifCond .eq 7) 3 126]), (122, [oV (.iconst 1) 1 1, oA (.goto 4) 3 127]), (126, [oV (.iconst 0) 1 0]), (127, [oA .ireturn 1 0])], [], 3)
theorem mk_227 : mj_ckM mj_TY mp_4 prog_4_method_6_code 3 (some .int) mt_227 = true := by decide +kernel
-- UnbeatenHouse$Judge.bounded(J)I
def mt_228 : mj_C := ([(0, [oW (.ldc2_w 72) 3 (-1000000000), oW (.ldc2_w 74) 3 1000000000, o0 (.lload_n 0) 1, oM (.invokestatic 76) 3 4 2 2 0, oM (.invokestatic 79) 3 5 2 2 0, o0 .l2i 1, oA .ireturn 1 0])], [], 2)
theorem mk_228 : mj_ckM mj_TY mp_4 prog_4_method_8_code 2 (some .int) mt_228 = true := by decide +kernel
-- UnbeatenHouse$Judge.holds(III)Z
def mt_229 : mj_C := ([(0, [o0 (.iload_n 0) 1, oT (.lookupswitch 90 #[(9, 76), (60, 43), (61, 65), (62, 54)]) 43 91 [(9, 77), (60, 44), (61, 66), (62, 55)]]), (44, [o0 (.iload_n 1) 1, o0 (.iload_n 2) 1, oA (.if_icmp .ge 7) 3 53]), (49, [oV (.iconst 1) 1 1, oA (.goto 4) 3 54]), (53, [oV (.iconst 0) 1 0]), (54, [oA .ireturn 1 1]), (55, [o0 (.iload_n 1) 1, o0 (.iload_n 2) 1, oA (.if_icmp .le 7) 3 64]), (60, [oV (.iconst 1) 1 1, oA (.goto 4) 3 65]), (64, [oV (.iconst 0) 1 0]), (65, [oA .ireturn 1 1]), (66, [o0 (.iload_n 1) 1, o0 (.iload_n 2) 1, oA (.if_icmp .ne 7) 3 75]), (71, [oV (.iconst 1) 1 1, oA (.goto 4) 3 76]), (75, [oV (.iconst 0) 1 0]), (76, [oA .ireturn 1 1]), (77, [o0 (.iload_n 1) 1, oA (.ifCond .eq 11) 3 89]), (81, [o0 (.iload_n 2) 1, oA (.ifCond .eq 7) 3 89]), (85, [oV (.iconst 1) 1 1, oA (.goto 4) 3 90]), (89, [oV (.iconst 0) 1 0]), (90, [oA .ireturn 1 1]), (91, [o0 (.iload_n 1) 1, oA (.ifCond .ne 7) 3 99]), (95, [o0 (.iload_n 2) 1, oA (.ifCond .eq 7) 3 103]), (99, [oV (.iconst 1) 1 1, oA (.goto 4) 3 104]), (103, [oV (.iconst 0) 1 0]), (104, [oA .ireturn 1 1])], [], 3)
theorem mk_229 : mj_ckM mj_TY mp_4 prog_4_method_7_code 3 (some .boolean) mt_229 = true := by decide +kernel
-- UnbeatenHouse.loss(II)I
def mt_230 : mj_C := ([(0, [o0 (.aload_n 0) 1, oF (.getfield 47) 3 1 6 2, o0 (.iload_n 1) 1, oM (.invokevirtual 231) 3 231 2 1 3, oA (.ifCond .eq 31) 3 39]), (11, [o0 (.aload_n 0) 1, oF (.getfield 10) 3 1 1 2, oV (.iconst 0) 1 0, o0 (.iload_n 2) 1, oM (.invokevirtual 149) 3 192 3 1 12, oA (.ifCond .eq 19) 3 39]), (23, [o0 (.aload_n 0) 1, oF (.getfield 47) 3 1 6 2, oF (.getfield 233) 3 2 2 2, o0 (.iload_n 1) 1, oV (.iconst 4) 1 4, o0 .imul 1, o0 (.iload_n 2) 1, o0 .iadd 1, o0 .iaload 1, oA (.goto 5) 3 41]), (39, [oV (.ldc 236) 2 (-2000000000)]), (41, [oA .ireturn 1 0])], [], 3)
theorem mk_230 : mj_ckM mj_TY mp_1 prog_1_method_21_code 3 (some .int) mt_230 = true := by decide +kernel
-- UnbeatenHouse$Front.isThere(I)Z
def mt_231 : mj_C := ([(0, [o0 (.iload_n 1) 1, oA (.ifCond .lt 15) 3 16]), (4, [o0 (.iload_n 1) 1, o0 (.aload_n 0) 1, oF (.getfield 27) 3 2 1 0, oA (.if_icmp .ge 7) 3 16]), (12, [oV (.iconst 1) 1 1, oA (.goto 4) 3 17]), (16, [oV (.iconst 0) 1 0]), (17, [oA .ireturn 1 1])], [], 2)
theorem mk_231 : mj_ckM mj_TY mp_2 prog_2_method_5_code 2 (some .boolean) mt_231 = true := by decide +kernel
-- UnbeatenHouse.who(I)I
def mt_232 : mj_C := ([(0, [o0 (.aload_n 0) 1, oF (.getfield 47) 3 1 6 2, o0 (.iload_n 1) 1, oM (.invokevirtual 231) 3 231 2 1 3, oA (.ifCond .ne 5) 3 13]), (11, [oV (.iconst (-1)) 1 (-1), oA .ireturn 1 0]), (13, [o0 (.aload_n 0) 1, oF (.getfield 47) 3 1 6 2, oF (.getfield 237) 3 2 0 0, oV (.iconst 1) 1 1, oA (.if_icmp .ne 18) 3 39]), (24, [o0 (.aload_n 0) 1, oF (.getfield 47) 3 1 6 2, oF (.getfield 240) 3 2 3 2, o0 (.iload_n 1) 1, o0 .laload 1, oM (.invokestatic 244) 3 233 1 1 0, oA (.goto 13) 3 49]), (39, [o0 (.aload_n 0) 1, oF (.getfield 47) 3 1 6 2, oF (.getfield 240) 3 2 3 2, o0 (.iload_n 1) 1, o0 .laload 1, o0 .l2i 1]), (49, [oA .ireturn 1 0])], [], 2)
theorem mk_232 : mj_ckM mj_TY mp_1 prog_1_method_22_code 2 (some .int) mt_232 = true := by decide +kernel
-- UnbeatenHouse$Front.knotsOf(J)I
def mt_233 : mj_C := ([(0, [o0 (.lload_n 0) 1, oW (.ldc2_w 48) 3 15, o0 .land 1, o0 .l2i 1, oA .ireturn 1 0])], [], 2)
theorem mk_233 : mj_ckM mj_TY mp_2 prog_2_method_11_code 2 (some .int) mt_233 = true := by decide +kernel
-- UnbeatenHouse.knot(II)I
def mt_234 : mj_C := ([(0, [o0 (.aload_n 0) 1, oF (.getfield 47) 3 1 6 2, o0 (.iload_n 1) 1, oM (.invokevirtual 231) 3 231 2 1 3, oA (.ifCond .eq 14) 3 22]), (11, [o0 (.aload_n 0) 1, oF (.getfield 47) 3 1 6 2, oF (.getfield 237) 3 2 0 0, oV (.iconst 1) 1 1, oA (.if_icmp .eq 5) 3 24]), (22, [oV (.iconst (-1)) 1 (-1), oA .ireturn 1 0]), (24, [o0 (.iload_n 2) 1, oA (.ifCond .lt 35) 3 60]), (28, [o0 (.iload_n 2) 1, o0 (.aload_n 0) 1, oF (.getfield 47) 3 1 6 2, oF (.getfield 240) 3 2 3 2, o0 (.iload_n 1) 1, o0 .laload 1, oM (.invokestatic 244) 3 233 1 1 0, oA (.if_icmp .ge 19) 3 60]), (44, [o0 (.aload_n 0) 1, oF (.getfield 47) 3 1 6 2, oF (.getfield 240) 3 2 3 2, o0 (.iload_n 1) 1, o0 .laload 1, o0 (.iload_n 2) 1, oM (.invokestatic 247) 3 235 2 1 0, oA (.goto 4) 3 61]), (60, [oV (.iconst (-1)) 1 (-1)]), (61, [oA .ireturn 1 0])], [], 3)
theorem mk_234 : mj_ckM mj_TY mp_1 prog_1_method_23_code 3 (some .int) mt_234 = true := by decide +kernel
-- UnbeatenHouse$Front.knotOf(JI)I
def mt_235 : mj_C := ([(0, [o0 (.lload_n 0) 1, oV (.iconst 4) 1 4, oV (.bipush 10) 2 10, o0 (.iload_n 2) 1, o0 .isub 1, o0 .imul 1, o0 .lshr 1, o0 .l2i 1, oV (.bipush 15) 2 15, o0 .iand 1, oA .ireturn 1 0])], [], 3)
theorem mk_235 : mj_ckM mj_TY mp_2 prog_2_method_12_code 3 (some .int) mt_235 = true := by decide +kernel
-- UnbeatenHouse.grid(I)Z
def mt_236 : mj_C := ([(0, [o0 (.iload_n 1) 1, oV (.iconst 1) 1 1, oA (.if_icmp .lt 9) 3 11]), (5, [o0 (.iload_n 1) 1, oV (.bipush 12) 2 12, oA (.if_icmp .le 5) 3 13]), (11, [oV (.iconst 0) 1 0, oA .ireturn 1 1]), (13, [o0 (.aload_n 0) 1, oF (.getfield 71) 3 1 11 2, o0 (.iload_n 1) 1, o0 (.aload_n 0) 1, oF (.getfield 10) 3 1 1 2, oF (.getfield 130) 3 11 1 2, oV (.iconst 0) 1 0, o0 .iaload 1, oM (.invokevirtual 133) 3 186 3 0 13, oV (.iconst 1) 1 1, oA .ireturn 1 1])], [], 2)
theorem mk_236 : mj_ckM mj_TY mp_1 prog_1_method_24_code 2 (some .boolean) mt_236 = true := by decide +kernel
-- UnbeatenHouse.corner(I)I
def mt_237 : mj_C := ([(0, [o0 (.aload_n 0) 1, oF (.getfield 47) 3 1 6 2, o0 (.iload_n 1) 1, oM (.invokevirtual 231) 3 231 2 1 3, oA (.ifCond .ne 5) 3 13]), (11, [oV (.iconst (-1)) 1 (-1), oA .ireturn 1 0]), (13, [oV (.iconst 0) 1 0, o0 (.istore_n 2) 1, oV (.iconst 0) 1 0, o0 (.istore_n 3) 1]), (17, [o0 (.iload_n 3) 1, o0 (.aload_n 0) 1, oF (.getfield 71) 3 1 11 2, oF (.getfield 251) 3 12 2 0, oA (.if_icmp .ge 28) 3 53]), (28, [o0 (.aload_n 0) 1, oF (.getfield 71) 3 1 11 2, o0 (.iload_n 3) 1, o0 (.aload_n 0) 1, oF (.getfield 47) 3 1 6 2, o0 (.iload_n 1) 1, oM (.invokevirtual 252) 3 238 4 1 13, oA (.ifCond .eq 6) 3 47]), (44, [oV (.iinc 2 1) 3 1]), (47, [oV (.iinc 3 1) 3 1, oA (.goto (-33)) 3 17]), (53, [o0 (.iload_n 2) 1, oA .ireturn 1 0])], [(17, [0, 1, 2, 3])], 4)
theorem mk_237 : mj_ckM mj_TY mp_1 prog_1_method_25_code 4 (some .int) mt_237 = true := by decide +kernel
-- UnbeatenHouse$Weighings.isFirst(ILUnbeatenHouse$Front;I)Z
def mt_238 : mj_C := ([(0, [o0 (.aload_n 0) 1, o0 (.iload_n 1) 1, o0 (.aload_n 2) 1, oF (.getfield 33) 3 2 2 2, o0 (.iload_n 3) 1, oV (.iconst 4) 1 4, o0 .imul 1, oM (.invokevirtual 38) 3 239 4 1 13, o0 (.istore 4) 2, oV (.iconst 0) 1 0, o0 (.istore 5) 2]), (17, [o0 (.iload 5) 2, o0 (.aload_n 2) 1, oF (.getfield 42) 3 2 1 0, oA (.if_icmp .ge 29) 3 52]), (26, [o0 (.aload_n 0) 1, o0 (.iload_n 1) 1, o0 (.aload_n 2) 1, oF (.getfield 33) 3 2 2 2, o0 (.iload 5) 2, oV (.iconst 4) 1 4, o0 .imul 1, oM (.invokevirtual 38) 3 239 4 1 13, o0 (.iload 4) 2, oA (.if_icmp .ge 5) 3 46]), (44, [oV (.iconst 0) 1 0, oA .ireturn 1 1]), (46, [oV (.iinc 5 1) 3 1, oA (.goto (-32)) 3 17]), (52, [oV (.iconst 1) 1 1, oA .ireturn 1 1])], [(17, [0, 1, 2, 4, 5])], 6)
theorem mk_238 : mj_ckM mj_TY mp_12 prog_12_method_6_code 6 (some .boolean) mt_238 = true := by decide +kernel
-- UnbeatenHouse$Weighings.weigh(I[II)I
def mt_239 : mj_C := ([(0, [oV (.iconst 0) 1 0, o0 (.istore 4) 2, oV (.iconst 0) 1 0, o0 (.istore 5) 2]), (6, [o0 (.iload 5) 2, o0 (.aload_n 0) 1, oF (.getfield 19) 3 12 1 0, oA (.if_icmp .ge 32) 3 44]), (15, [o0 (.iload 4) 2, o0 (.aload_n 0) 1, oF (.getfield 15) 3 12 3 2, o0 (.iload_n 1) 1, oV (.iconst 4) 1 4, o0 .imul 1, o0 (.iload 5) 2, o0 .iadd 1, o0 .iaload 1, o0 (.aload_n 2) 1, o0 (.iload_n 3) 1, o0 (.iload 5) 2, o0 .iadd 1, o0 .iaload 1, o0 .imul 1, o0 .iadd 1, o0 (.istore 4) 2, oV (.iinc 5 1) 3 1, oA (.goto (-35)) 3 6]), (44, [o0 (.iload 4) 2, oA .ireturn 1 0])], [(6, [0, 1, 2, 3, 4, 5])], 6)
theorem mk_239 : mj_ckM mj_TY mp_12 prog_12_method_5_code 6 (some .int) mt_239 = true := by decide +kernel
-- UnbeatenHouse.weight(II)I
def mt_240 : mj_C := ([(0, [o0 (.aload_n 0) 1, oF (.getfield 47) 3 1 6 2, o0 (.iload_n 1) 1, oM (.invokevirtual 231) 3 231 2 1 3, oA (.ifCond .eq 15) 3 23]), (11, [o0 (.aload_n 0) 1, oF (.getfield 10) 3 1 1 2, oV (.iconst 0) 1 0, o0 (.iload_n 2) 1, oM (.invokevirtual 149) 3 192 3 1 12, oA (.ifCond .ne 5) 3 25]), (23, [oV (.iconst (-1)) 1 (-1), oA .ireturn 1 0]), (25, [oV (.iconst 0) 1 0, o0 (.istore_n 3) 1]), (27, [o0 (.iload_n 3) 1, o0 (.aload_n 0) 1, oF (.getfield 71) 3 1 11 2, oF (.getfield 251) 3 12 2 0, oA (.if_icmp .ge 39) 3 74]), (38, [o0 (.aload_n 0) 1, oF (.getfield 71) 3 1 11 2, o0 (.iload_n 3) 1, o0 (.aload_n 0) 1, oF (.getfield 47) 3 1 6 2, o0 (.iload_n 1) 1, oM (.invokevirtual 252) 3 238 4 1 13, oA (.ifCond .eq 17) 3 68]), (54, [o0 (.aload_n 0) 1, oF (.getfield 71) 3 1 11 2, oF (.getfield 256) 3 12 3 2, o0 (.iload_n 3) 1, oV (.iconst 4) 1 4, o0 .imul 1, o0 (.iload_n 2) 1, o0 .iadd 1, o0 .iaload 1, oA .ireturn 1 0]), (68, [oV (.iinc 3 1) 3 1, oA (.goto (-44)) 3 27]), (74, [oV (.iconst (-1)) 1 (-1), oA .ireturn 1 0])], [(27, [0, 1, 2, 3])], 4)
theorem mk_240 : mj_ckM mj_TY mp_1 prog_1_method_26_code 4 (some .int) mt_240 = true := by decide +kernel
-- UnbeatenHouse.near(I)I
def mt_241 : mj_C := ([(0, [o0 (.iload_n 1) 1, oA (.ifCond .lt 32) 3 33]), (4, [o0 (.iload_n 1) 1, oV (.sipush 9999) 3 9999, oA (.if_icmp .gt 25) 3 33]), (11, [o0 (.aload_n 0) 1, oF (.getfield 47) 3 1 6 2, oM (.invokevirtual 259) 3 242 1 1 3, oA (.ifCond .eq 15) 3 33]), (21, [o0 (.aload_n 0) 1, oF (.getfield 47) 3 1 6 2, oF (.getfield 209) 3 2 1 0, oV (.bipush 16) 2 16, oA (.if_icmp .le 5) 3 35]), (33, [oV (.iconst (-1)) 1 (-1), oA .ireturn 1 0]), (35, [o0 (.aload_n 0) 1, oF (.getfield 64) 3 1 10 2, o0 (.aload_n 0) 1, oF (.getfield 47) 3 1 6 2, o0 (.aload_n 0) 1, oF (.getfield 10) 3 1 1 2, oF (.getfield 130) 3 11 1 2, oV (.iconst 0) 1 0, o0 .iaload 1, o0 (.iload_n 1) 1, oM (.invokevirtual 263) 3 243 4 1 7, oA .ireturn 1 0])], [], 2)
theorem mk_241 : mj_ckM mj_TY mp_1 prog_1_method_27_code 2 (some .int) mt_241 = true := by decide +kernel
-- UnbeatenHouse$Front.isAtHand()Z
def mt_242 : mj_C := ([(0, [o0 (.aload_n 0) 1, oF (.getfield 9) 3 2 0 0, oV (.iconst (-1)) 1 (-1), oA (.if_icmp .eq 7) 3 12]), (8, [oV (.iconst 1) 1 1, oA (.goto 4) 3 13]), (12, [oV (.iconst 0) 1 0]), (13, [oA .ireturn 1 1])], [], 1)
theorem mk_242 : mj_ckM mj_TY mp_2 prog_2_method_4_code 1 (some .boolean) mt_242 = true := by decide +kernel
-- UnbeatenHouse$Picker.pickFewest(LUnbeatenHouse$Front;II)I
def mt_243 : mj_C := ([(0, [o0 (.aload_n 0) 1, o0 (.aload_n 1) 1, o0 (.iload_n 2) 1, oM (.invokevirtual 25) 3 244 3 0 7, oV (.iconst 0) 1 0, o0 (.istore 4) 2]), (9, [o0 (.iload 4) 2, o0 (.aload_n 0) 1, oF (.getfield 29) 3 6 0 0, oA (.if_icmp .gt 33) 3 48]), (18, [o0 (.iload 4) 2, oV (.bipush 16) 2 16, oA (.if_icmp .gt 26) 3 48]), (25, [o0 (.aload_n 0) 1, o0 (.iload 4) 2, o0 (.iload_n 3) 1, oV (.iconst 1) 1 1, o0 .iadd 1, o0 (.iload_n 3) 1, oM (.invokevirtual 32) 3 246 4 1 7, o0 (.iload_n 3) 1, oA (.if_icmp .gt 6) 3 42]), (39, [o0 (.iload 4) 2, oA .ireturn 1 0]), (42, [oV (.iinc 4 1) 3 1, oA (.goto (-36)) 3 9]), (48, [oV (.iconst (-1)) 1 (-1), oA .ireturn 1 0])], [(9, [0, 3, 4])], 5)
theorem mk_243 : mj_ckM mj_TY mp_6 prog_6_method_3_code 5 (some .int) mt_243 = true := by decide +kernel
-- UnbeatenHouse$Picker.measure(LUnbeatenHouse$Front;I)V
def mt_244 : mj_C := ([(0, [o0 (.aload_n 0) 1, o0 (.aload_n 1) 1, oF (.getfield 39) 3 2 1 0, oV (.bipush 24) 2 24, oM (.invokestatic 42) 3 0 2 1 0, oF (.putfield 29) 3 6 0 0, oV (.iconst 0) 1 0, o0 (.istore_n 3) 1]), (15, [o0 (.iload_n 3) 1, o0 (.aload_n 0) 1, oF (.getfield 29) 3 6 0 0, oA (.if_icmp .ge 75) 3 95]), (23, [oV (.iconst 0) 1 0, o0 (.istore 4) 2]), (26, [o0 (.iload 4) 2, o0 (.aload_n 0) 1, oF (.getfield 29) 3 6 0 0, oA (.if_icmp .ge 57) 3 89]), (35, [oV (.iconst 0) 1 0, o0 (.istore 5) 2, oV (.iconst 0) 1 0, o0 (.istore 6) 2]), (41, [o0 (.iload 6) 2, o0 (.iload_n 2) 1, oA (.if_icmp .ge 25) 3 69]), (47, [o0 (.iload 5) 2, o0 (.aload_n 1) 1, o0 (.iload_n 3) 1, o0 (.iload 4) 2, o0 (.iload 6) 2, oM (.invokevirtual 48) 3 245 4 1 3, oM (.invokestatic 51) 3 1 2 1 0, o0 (.istore 5) 2, oV (.iinc 6 1) 3 1, oA (.goto (-25)) 3 41]), (69, [o0 (.aload_n 0) 1, oF (.getfield 11) 3 6 1 2, o0 (.iload_n 3) 1, oV (.bipush 24) 2 24, o0 .imul 1, o0 (.iload 4) 2, o0 .iadd 1, o0 (.iload 5) 2, o0 .iastore 1, oV (.iinc 4 1) 3 1, oA (.goto (-60)) 3 26]), (89, [oV (.iinc 3 1) 3 1, oA (.goto (-77)) 3 15]), (95, [o0 .return_ 1])], [(15, [0, 1, 2, 3]), (26, [0, 1, 2, 3, 4]), (41, [0, 1, 2, 3, 4, 5, 6])], 7)
theorem mk_244 : mj_ckM mj_TY mp_6 prog_6_method_5_code 7 none mt_244 = true := by decide +kernel
-- UnbeatenHouse$Front.difference(III)I
def mt_245 : mj_C := ([(0, [o0 (.aload_n 0) 1, oF (.getfield 15) 3 2 2 2, o0 (.iload_n 1) 1, oV (.iconst 4) 1 4, o0 .imul 1, o0 (.iload_n 3) 1, o0 .iadd 1, o0 .iaload 1, o0 (.aload_n 0) 1, oF (.getfield 15) 3 2 2 2, o0 (.iload_n 2) 1, oV (.iconst 4) 1 4, o0 .imul 1, o0 (.iload_n 3) 1, o0 .iadd 1, o0 .iaload 1, o0 .isub 1, oA .ireturn 1 0])], [], 4)
theorem mk_245 : mj_ckM mj_TY mp_2 prog_2_method_9_code 4 (some .int) mt_245 = true := by decide +kernel
-- UnbeatenHouse$Picker.pickOf(III)I
def mt_246 : mj_C := ([(0, [o0 (.iload_n 2) 1, o0 (.istore 4) 2, oV (.iconst 1) 1 1, o0 (.istore 5) 2, oV (.iconst 0) 1 0, o0 (.istore 6) 2]), (9, [o0 (.iload 6) 2, o0 (.iload_n 1) 1, oA (.if_icmp .ge 18) 3 30]), (15, [o0 (.aload_n 0) 1, oF (.getfield 15) 3 6 2 2, o0 (.iload 6) 2, o0 (.iload 6) 2, o0 .iastore 1, oV (.iinc 6 1) 3 1, oA (.goto (-18)) 3 9]), (30, [oV (.iconst 0) 1 0, o0 (.istore 6) 2]), (33, [o0 (.iload 6) 2, oV (.sipush 20000) 3 20000, oA (.if_icmp .ge 74) 3 112]), (41, [o0 (.iload 5) 2, oA (.ifCond .eq 69) 3 112]), (46, [o0 (.aload_n 0) 1, o0 (.iload_n 1) 1, o0 (.iload 4) 2, oM (.invokevirtual 54) 3 247 3 1 7, o0 (.istore 7) 2, o0 (.iload 7) 2, o0 (.iload 4) 2, oA (.if_icmp .ge 26) 3 85]), (62, [o0 (.iload 7) 2, o0 (.istore 4) 2, o0 (.aload_n 0) 1, o0 (.iload_n 1) 1, oF (.putfield 21) 3 6 4 0, o0 (.aload_n 0) 1, oF (.getfield 15) 3 6 2 2, oV (.iconst 0) 1 0, o0 (.aload_n 0) 1, oF (.getfield 18) 3 6 3 2, oV (.iconst 0) 1 0, o0 (.iload_n 1) 1, oA (.invokestatic 57) 3 999]), (85, [o0 (.iload 4) 2, o0 (.iload_n 3) 1, oA (.if_icmp .le 15) 3 103]), (91, [o0 (.aload_n 0) 1, o0 (.iload_n 1) 1, oM (.invokevirtual 63) 3 248 2 1 7, oA (.ifCond .eq 7) 3 103]), (99, [oV (.iconst 1) 1 1, oA (.goto 4) 3 104]), (103, [oV (.iconst 0) 1 0]), (104, [o0 (.istore 5) 2, oV (.iinc 6 1) 3 1, oA (.goto (-76)) 3 33]), (112, [o0 (.iload 4) 2, oA .ireturn 1 0])], [(9, [0, 1, 3, 4, 5, 6]), (33, [0, 1, 3, 4, 5, 6]), (85, [0, 1, 3, 4, 6])], 8)
theorem mk_246 : mj_ckM mj_TY mp_6 prog_6_method_6_code 8 (some .int) mt_246 = true := by decide +kernel
-- UnbeatenHouse$Picker.farthest(II)I
def mt_247 : mj_C := ([(0, [oV (.iconst 0) 1 0, o0 (.istore_n 3) 1, oV (.iconst 0) 1 0, o0 (.istore 4) 2]), (5, [o0 (.iload 4) 2, o0 (.aload_n 0) 1, oF (.getfield 29) 3 6 0 0, oA (.if_icmp .ge 65) 3 76]), (14, [o0 (.iload_n 3) 1, o0 (.iload_n 2) 1, oA (.if_icmp .ge 60) 3 76]), (19, [oV (.ldc 38) 2 2147483647, o0 (.istore 5) 2, oV (.iconst 0) 1 0, o0 (.istore 6) 2]), (26, [o0 (.iload 6) 2, o0 (.iload_n 1) 1, oA (.if_icmp .ge 34) 3 63]), (32, [o0 (.iload 5) 2, o0 (.aload_n 0) 1, oF (.getfield 11) 3 6 1 2, o0 (.aload_n 0) 1, oF (.getfield 15) 3 6 2 2, o0 (.iload 6) 2, o0 .iaload 1, oV (.bipush 24) 2 24, o0 .imul 1, o0 (.iload 4) 2, o0 .iadd 1, o0 .iaload 1, oM (.invokestatic 42) 3 0 2 1 0, o0 (.istore 5) 2, oV (.iinc 6 1) 3 1, oA (.goto (-34)) 3 26]), (63, [o0 (.iload_n 3) 1, o0 (.iload 5) 2, oM (.invokestatic 51) 3 1 2 1 0, o0 (.istore_n 3) 1, oV (.iinc 4 1) 3 1, oA (.goto (-68)) 3 5]), (76, [o0 (.iload_n 3) 1, oA .ireturn 1 0])], [(5, [0, 1, 2, 3, 4]), (26, [0, 1, 2, 3, 4, 5, 6])], 7)
theorem mk_247 : mj_ckM mj_TY mp_6 prog_6_method_7_code 7 (some .int) mt_247 = true := by decide +kernel
-- UnbeatenHouse$Picker.moveOn(I)Z
def mt_248 : mj_C := ([(0, [o0 (.iload_n 1) 1, oV (.iconst 1) 1 1, o0 .isub 1, o0 (.istore_n 2) 1]), (4, [o0 (.iload_n 2) 1, oA (.ifCond .lt 69) 3 74]), (8, [o0 (.aload_n 0) 1, oF (.getfield 15) 3 6 2 2, o0 (.iload_n 2) 1, o0 .iaload 1, o0 (.aload_n 0) 1, oF (.getfield 29) 3 6 0 0, o0 (.iload_n 1) 1, o0 .isub 1, o0 (.iload_n 2) 1, o0 .iadd 1, oA (.if_icmp .ge 46) 3 68]), (25, [o0 (.aload_n 0) 1, oF (.getfield 15) 3 6 2 2, o0 (.iload_n 2) 1, o0 .dup2 1, o0 .iaload 1, oV (.iconst 1) 1 1, o0 .iadd 1, o0 .iastore 1, o0 (.iload_n 2) 1, oV (.iconst 1) 1 1, o0 .iadd 1, o0 (.istore_n 3) 1]), (39, [o0 (.iload_n 3) 1, o0 (.iload_n 1) 1, oA (.if_icmp .ge 25) 3 66]), (44, [o0 (.aload_n 0) 1, oF (.getfield 15) 3 6 2 2, o0 (.iload_n 3) 1, o0 (.aload_n 0) 1, oF (.getfield 15) 3 6 2 2, o0 (.iload_n 3) 1, oV (.iconst 1) 1 1, o0 .isub 1, o0 .iaload 1, oV (.iconst 1) 1 1, o0 .iadd 1, o0 .iastore 1, oV (.iinc 3 1) 3 1, oA (.goto (-24)) 3 39]), (66, [oV (.iconst 1) 1 1, oA .ireturn 1 1]), (68, [oV (.iinc 2 (-1)) 3 (-1), oA (.goto (-67)) 3 4]), (74, [oV (.iconst 0) 1 0, oA .ireturn 1 1])], [(4, [0, 1, 2]), (39, [0, 1, 3])], 4)
theorem mk_248 : mj_ckM mj_TY mp_6 prog_6_method_8_code 4 (some .boolean) mt_248 = true := by decide +kernel
-- UnbeatenHouse.standIns(I)I
def mt_249 : mj_C := ([(0, [o0 (.iload_n 1) 1, oV (.iconst 1) 1 1, oA (.if_icmp .lt 41) 3 43]), (5, [o0 (.iload_n 1) 1, oV (.iconst 4) 1 4, oA (.if_icmp .gt 36) 3 43]), (10, [o0 (.aload_n 0) 1, oF (.getfield 47) 3 1 6 2, oM (.invokevirtual 259) 3 242 1 1 3, oA (.ifCond .eq 26) 3 43]), (20, [o0 (.iload_n 1) 1, o0 (.aload_n 0) 1, oF (.getfield 47) 3 1 6 2, oF (.getfield 209) 3 2 1 0, oA (.if_icmp .gt 15) 3 43]), (31, [o0 (.aload_n 0) 1, oF (.getfield 47) 3 1 6 2, oF (.getfield 209) 3 2 1 0, oV (.bipush 24) 2 24, oA (.if_icmp .le 5) 3 45]), (43, [oV (.iconst (-1)) 1 (-1), oA .ireturn 1 0]), (45, [o0 (.aload_n 0) 1, oF (.getfield 64) 3 1 10 2, o0 (.aload_n 0) 1, oF (.getfield 47) 3 1 6 2, o0 (.aload_n 0) 1, oF (.getfield 10) 3 1 1 2, oF (.getfield 130) 3 11 1 2, oV (.iconst 0) 1 0, o0 .iaload 1, o0 (.iload_n 1) 1, oM (.invokevirtual 267) 3 250 4 1 7, oA .ireturn 1 0])], [], 2)
theorem mk_249 : mj_ckM mj_TY mp_1 prog_1_method_28_code 2 (some .int) mt_249 = true := by decide +kernel
-- UnbeatenHouse$Picker.pickClosest(LUnbeatenHouse$Front;II)I
def mt_250 : mj_C := ([(0, [o0 (.aload_n 0) 1, o0 (.aload_n 1) 1, o0 (.iload_n 2) 1, oM (.invokevirtual 25) 3 244 3 0 7, o0 (.aload_n 0) 1, o0 (.iload_n 3) 1, oV (.ldc 38) 2 2147483647, oV (.iconst 0) 1 0, oM (.invokevirtual 32) 3 246 4 1 7, oA .ireturn 1 0])], [], 4)
theorem mk_250 : mj_ckM mj_TY mp_6 prog_6_method_4_code 4 (some .int) mt_250 = true := by decide +kernel
-- UnbeatenHouse.kept(I)I
def mt_251 : mj_C := ([(0, [o0 (.iload_n 1) 1, oA (.ifCond .lt 26) 3 27]), (4, [o0 (.iload_n 1) 1, o0 (.aload_n 0) 1, oF (.getfield 64) 3 1 10 2, oF (.getfield 270) 3 6 4 0, oA (.if_icmp .ge 15) 3 27]), (15, [o0 (.aload_n 0) 1, oF (.getfield 64) 3 1 10 2, oF (.getfield 273) 3 6 3 2, o0 (.iload_n 1) 1, o0 .iaload 1, oA (.goto 4) 3 28]), (27, [oV (.iconst (-1)) 1 (-1)]), (28, [oA .ireturn 1 0])], [], 2)
theorem mk_251 : mj_ckM mj_TY mp_1 prog_1_method_29_code 2 (some .int) mt_251 = true := by decide +kernel
-- UnbeatenHouse.cost(IIIZ)I
def mt_252 : mj_C := ([(0, [o0 (.aload_n 0) 1, oF (.getfield 47) 3 1 6 2, o0 (.iload_n 1) 1, oM (.invokevirtual 231) 3 231 2 1 3, oA (.ifCond .eq 32) 3 40]), (11, [o0 (.aload_n 0) 1, oF (.getfield 10) 3 1 1 2, oV (.iconst 0) 1 0, o0 (.iload_n 2) 1, oM (.invokevirtual 149) 3 192 3 1 12, oA (.ifCond .eq 20) 3 40]), (23, [o0 (.aload_n 0) 1, oF (.getfield 10) 3 1 1 2, oV (.iconst 0) 1 0, o0 (.iload_n 3) 1, oM (.invokevirtual 149) 3 192 3 1 12, oA (.ifCond .eq 8) 3 40]), (35, [o0 (.iload_n 2) 1, o0 (.iload_n 3) 1, oA (.if_icmp .ne 5) 3 42]), (40, [oV (.iconst (-1)) 1 (-1), oA .ireturn 1 0]), (42, [oW (.lconst 0) 1 0, o0 (.lstore 5) 2, oW (.lconst 0) 1 0, o0 (.lstore 7) 2, oV (.iconst 0) 1 0, o0 (.istore 9) 2]), (51, [o0 (.iload 9) 2, o0 (.aload_n 0) 1, oF (.getfield 47) 3 1 6 2, oF (.getfield 209) 3 2 1 0, oA (.if_icmp .ge 80) 3 140]), (63, [o0 (.aload_n 0) 1, oF (.getfield 47) 3 1 6 2, o0 (.iload_n 1) 1, o0 (.iload 9) 2, o0 (.iload_n 2) 1, oM (.invokevirtual 276) 3 245 4 1 3, o0 .i2l 1, o0 (.lstore 10) 2, o0 (.aload_n 0) 1, oF (.getfield 47) 3 1 6 2, o0 (.iload 9) 2, o0 (.iload_n 1) 1, o0 (.iload_n 3) 1, oM (.invokevirtual 276) 3 245 4 1 3, o0 .i2l 1, o0 (.lstore 12) 2, o0 (.lload 10) 2, oW (.lconst 0) 1 0, o0 .lcmp 1, oA (.ifCond .le 39) 3 134]), (98, [o0 (.lload 12) 2, oW (.lconst 0) 1 0, o0 .lcmp 1, oA (.ifCond .le 32) 3 134]), (105, [o0 (.lload 7) 2, oW (.lconst 0) 1 0, o0 .lcmp 1, oA (.ifCond .eq 17) 3 126]), (112, [o0 (.lload 12) 2, o0 (.lload 7) 2, o0 .lmul 1, o0 (.lload 5) 2, o0 (.lload 10) 2, o0 .lmul 1, o0 .lcmp 1, oA (.ifCond .ge 11) 3 134]), (126, [o0 (.lload 12) 2, o0 (.lstore 5) 2, o0 (.lload 10) 2, o0 (.lstore 7) 2]), (134, [oV (.iinc 9 1) 3 1, oA (.goto (-86)) 3 51]), (140, [o0 (.lload 7) 2, oW (.lconst 0) 1 0, o0 .lcmp 1, oA (.ifCond .ne 5) 3 149]), (147, [oV (.iconst (-1)) 1 (-1), oA .ireturn 1 0]), (149, [o0 (.lload 5) 2, o0 (.lload 7) 2, oM (.invokestatic 279) 3 253 2 2 0, o0 (.lstore 9) 2, o0 (.iload 4) 2, oA (.ifCond .eq 8) 3 168]), (163, [o0 (.lload 5) 2, oA (.goto 5) 3 170]), (168, [o0 (.lload 7) 2]), (170, [o0 (.lload 9) 2, o0 .ldiv 1, o0 .l2i 1, oA .ireturn 1 0])], [(51, [0, 1, 2, 3, 4, 5, 7, 9])], 14)
theorem mk_252 : mj_ckM mj_TY mp_1 prog_1_method_30_code 14 (some .int) mt_252 = true := by decide +kernel
-- UnbeatenHouse.commonDivisor(JJ)J
def mt_253 : mj_C := ([(0, [o0 (.lload_n 0) 1, o0 (.lstore 4) 2, o0 (.lload_n 2) 1, o0 (.lstore 6) 2, oV (.iconst 0) 1 0, o0 (.istore 8) 2]), (9, [o0 (.iload 8) 2, oV (.sipush 200) 3 200, oA (.if_icmp .ge 31) 3 45]), (17, [o0 (.lload 6) 2, oW (.lconst 0) 1 0, o0 .lcmp 1, oA (.ifCond .le 24) 3 45]), (24, [o0 (.lload 4) 2, o0 (.lload 6) 2, o0 .lrem 1, o0 (.lstore 9) 2, o0 (.lload 6) 2, o0 (.lstore 4) 2, o0 (.lload 9) 2, o0 (.lstore 6) 2, oV (.iinc 8 1) 3 1, oA (.goto (-33)) 3 9]), (45, [oW (.lconst 1) 1 1, o0 (.lload 4) 2, oM (.invokestatic 283) 3 5 2 2 0, o0 .lreturn 1])], [(9, [4, 6, 8])], 11)
theorem mk_253 : mj_ckM mj_TY mp_1 prog_1_method_31_code 11 (some .long) mt_253 = true := by decide +kernel
-- UnbeatenHouse.hole(I)I
def mt_254 : mj_C := ([(0, [o0 (.aload_n 0) 1, oF (.getfield 47) 3 1 6 2, oM (.invokevirtual 259) 3 242 1 1 3, oA (.ifCond .eq 15) 3 22]), (10, [o0 (.aload_n 0) 1, oF (.getfield 10) 3 1 1 2, oV (.iconst 0) 1 0, o0 (.iload_n 1) 1, oM (.invokevirtual 149) 3 192 3 1 12, oA (.ifCond .ne 5) 3 24]), (22, [oV (.iconst (-1)) 1 (-1), oA .ireturn 1 0]), (24, [oV (.iconst 0) 1 0, o0 (.istore_n 2) 1, oV (.iconst 0) 1 0, o0 (.istore_n 3) 1]), (28, [o0 (.iload_n 3) 1, o0 (.aload_n 0) 1, oF (.getfield 47) 3 1 6 2, oF (.getfield 209) 3 2 1 0, oA (.if_icmp .ge 23) 3 59]), (39, [o0 (.iload_n 2) 1, o0 (.aload_n 0) 1, oF (.getfield 47) 3 1 6 2, o0 (.iload_n 3) 1, o0 (.iload_n 1) 1, oM (.invokevirtual 288) 3 255 3 1 3, oM (.invokestatic 291) 3 1 2 1 0, o0 (.istore_n 2) 1, oV (.iinc 3 1) 3 1, oA (.goto (-28)) 3 28]), (59, [o0 (.iload_n 2) 1, oA .ireturn 1 0])], [(28, [0, 1, 2, 3])], 4)
theorem mk_254 : mj_ckM mj_TY mp_1 prog_1_method_32_code 4 (some .int) mt_254 = true := by decide +kernel
-- UnbeatenHouse$Front.stepAbove(II)I
def mt_255 : mj_C := ([(0, [oV (.iconst 0) 1 0, o0 (.istore_n 3) 1, oV (.iconst 0) 1 0, o0 (.istore 4) 2]), (5, [o0 (.iload 4) 2, o0 (.aload_n 0) 1, oF (.getfield 27) 3 2 1 0, oA (.if_icmp .ge 37) 3 48]), (14, [o0 (.aload_n 0) 1, o0 (.iload 4) 2, o0 (.iload_n 1) 1, o0 (.iload_n 2) 1, oM (.invokevirtual 44) 3 245 4 1 3, o0 (.istore 5) 2, o0 (.iload 5) 2, oA (.ifCond .le 16) 3 42]), (29, [o0 (.iload_n 3) 1, oA (.ifCond .eq 9) 3 39]), (33, [o0 (.iload 5) 2, o0 (.iload_n 3) 1, oA (.if_icmp .ge 6) 3 42]), (39, [o0 (.iload 5) 2, o0 (.istore_n 3) 1]), (42, [oV (.iinc 4 1) 3 1, oA (.goto (-40)) 3 5]), (48, [o0 (.iload_n 3) 1, oA .ireturn 1 0])], [(5, [0, 1, 2, 3, 4])], 6)
theorem mk_255 : mj_ckM mj_TY mp_2 prog_2_method_10_code 6 (some .int) mt_255 = true := by decide +kernel
-- UnbeatenHouse.rather(II)I
def mt_256 : mj_C := ([(0, [o0 (.aload_n 0) 1, oF (.getfield 26) 3 1 3 2, o0 (.iload_n 1) 1, oM (.invokevirtual 198) 3 177 2 1 10, oA (.ifCond .eq 31) 3 39]), (11, [o0 (.aload_n 0) 1, oF (.getfield 26) 3 1 3 2, o0 (.iload_n 2) 1, oM (.invokevirtual 198) 3 177 2 1 10, oA (.ifCond .eq 20) 3 39]), (22, [o0 (.iload_n 1) 1, o0 (.iload_n 2) 1, oA (.if_icmp .eq 15) 3 39]), (27, [o0 (.aload_n 0) 1, oF (.getfield 78) 3 1 12 2, oF (.getfield 146) 3 10 0 0, oV (.bipush 12) 2 12, oA (.if_icmp .lt 5) 3 41]), (39, [oV (.iconst (-1)) 1 (-1), oA .ireturn 1 0]), (41, [o0 (.aload_n 0) 1, oF (.getfield 78) 3 1 12 2, o0 (.iload_n 1) 1, o0 (.iload_n 2) 1, oM (.invokevirtual 293) 3 257 3 1 11, oA .ireturn 1 0])], [], 3)
theorem mk_256 : mj_ckM mj_TY mp_1 prog_1_method_33_code 3 (some .int) mt_256 = true := by decide +kernel
-- UnbeatenHouse$Sayings.add(II)I
def mt_257 : mj_C := ([(0, [o0 (.aload_n 0) 1, oF (.getfield 9) 3 10 1 2, o0 (.aload_n 0) 1, oF (.getfield 26) 3 10 0 0, o0 (.iload_n 1) 1, o0 .iastore 1, o0 (.aload_n 0) 1, oF (.getfield 15) 3 10 2 2, o0 (.aload_n 0) 1, oF (.getfield 26) 3 10 0 0, o0 (.iload_n 2) 1, o0 .iastore 1, o0 (.aload_n 0) 1, o0 .dup 1, oF (.getfield 26) 3 10 0 0, oV (.iconst 1) 1 1, o0 .iadd 1, oF (.putfield 26) 3 10 0 0, o0 (.aload_n 0) 1, oF (.getfield 26) 3 10 0 0, oA .ireturn 1 0])], [], 3)
theorem mk_257 : mj_ckM mj_TY mp_10 prog_10_method_3_code 3 (some .int) mt_257 = true := by decide +kernel
-- UnbeatenHouse.unsay()I
def mt_258 : mj_C := ([(0, [o0 (.aload_n 0) 1, oF (.getfield 78) 3 1 12 2, oF (.getfield 146) 3 10 0 0, oA (.ifCond .ne 5) 3 12]), (10, [oV (.iconst (-1)) 1 (-1), oA .ireturn 1 0]), (12, [o0 (.aload_n 0) 1, oF (.getfield 78) 3 1 12 2, o0 .dup 1, oF (.getfield 146) 3 10 0 0, oV (.iconst 1) 1 1, o0 .isub 1, oF (.putfield 146) 3 10 0 0, o0 (.aload_n 0) 1, oF (.getfield 78) 3 1 12 2, oF (.getfield 146) 3 10 0 0, oA .ireturn 1 0])], [], 1)
theorem mk_258 : mj_ckM mj_TY mp_1 prog_1_method_34_code 1 (some .int) mt_258 = true := by decide +kernel
-- UnbeatenHouse.agree()I
def mt_259 : mj_C := ([(0, [o0 (.aload_n 0) 1, oF (.getfield 10) 3 1 1 2, oF (.getfield 130) 3 11 1 2, oV (.iconst 0) 1 0, o0 .iaload 1, oA (.ifCond .ne 5) 3 14]), (12, [oV (.iconst (-1)) 1 (-1), oA .ireturn 1 0]), (14, [oV (.iconst 0) 1 0, o0 (.istore_n 1) 1, oV (.iconst 0) 1 0, o0 (.istore_n 2) 1]), (18, [o0 (.iload_n 2) 1, o0 (.aload_n 0) 1, oF (.getfield 71) 3 1 11 2, oF (.getfield 251) 3 12 2 0, oA (.if_icmp .ge 31) 3 57]), (29, [o0 (.aload_n 0) 1, oF (.getfield 78) 3 1 12 2, o0 (.iload_n 2) 1, o0 (.aload_n 0) 1, oF (.getfield 71) 3 1 11 2, o0 (.aload_n 0) 1, oF (.getfield 26) 3 1 3 2, oM (.invokevirtual 296) 3 260 4 1 11, oA (.ifCond .eq 6) 3 51]), (48, [oV (.iinc 1 1) 3 1]), (51, [oV (.iinc 2 1) 3 1, oA (.goto (-36)) 3 18]), (57, [o0 (.iload_n 1) 1, oA .ireturn 1 0])], [(18, [0, 1, 2])], 3)
theorem mk_259 : mj_ckM mj_TY mp_1 prog_1_method_35_code 3 (some .int) mt_259 = true := by decide +kernel
-- UnbeatenHouse$Sayings.isAgreed(ILUnbeatenHouse$Weighings;LUnbeatenHouse$Rows;)Z
def mt_260 : mj_C := ([(0, [oV (.iconst 0) 1 0, o0 (.istore 4) 2]), (3, [o0 (.iload 4) 2, o0 (.aload_n 0) 1, oF (.getfield 26) 3 10 0 0, oA (.if_icmp .ge 23) 3 32]), (12, [o0 (.aload_n 0) 1, o0 (.iload 4) 2, o0 (.iload_n 1) 1, o0 (.aload_n 2) 1, o0 (.aload_n 3) 1, oM (.invokevirtual 45) 3 261 5 1 11, oA (.ifCond .ne 5) 3 26]), (24, [oV (.iconst 0) 1 0, oA .ireturn 1 1]), (26, [oV (.iinc 4 1) 3 1, oA (.goto (-26)) 3 3]), (32, [oV (.iconst 1) 1 1, oA .ireturn 1 1])], [(3, [0, 1, 2, 3, 4])], 5)
theorem mk_260 : mj_ckM mj_TY mp_10 prog_10_method_5_code 5 (some .boolean) mt_260 = true := by decide +kernel
-- UnbeatenHouse$Sayings.isSayingAgreed(IILUnbeatenHouse$Weighings;LUnbeatenHouse$Rows;)Z
def mt_261 : mj_C := ([(0, [o0 (.aload_n 0) 1, oF (.getfield 9) 3 10 1 2, o0 (.iload_n 1) 1, o0 .iaload 1, o0 (.istore 5) 2, o0 (.aload_n 0) 1, oF (.getfield 15) 3 10 2 2, o0 (.iload_n 1) 1, o0 .iaload 1, o0 (.istore 6) 2, o0 (.aload 4) 2, o0 (.iload 5) 2, oM (.invokevirtual 30) 3 177 2 1 10, oA (.ifCond .eq 13) 3 36]), (26, [o0 (.aload 4) 2, o0 (.iload 6) 2, oM (.invokevirtual 30) 3 177 2 1 10, oA (.ifCond .ne 5) 3 38]), (36, [oV (.iconst 1) 1 1, oA .ireturn 1 1]), (38, [o0 (.aload_n 3) 1, o0 (.iload_n 2) 1, o0 (.aload 4) 2, oF (.getfield 36) 3 9 2 2, o0 (.iload 5) 2, oV (.iconst 4) 1 4, o0 .imul 1, oM (.invokevirtual 39) 3 239 4 1 13, o0 (.aload_n 3) 1, o0 (.iload_n 2) 1, o0 (.aload 4) 2, oF (.getfield 36) 3 9 2 2, o0 (.iload 6) 2, oV (.iconst 4) 1 4, o0 .imul 1, oM (.invokevirtual 39) 3 239 4 1 13, oA (.if_icmp .gt 7) 3 73]), (69, [oV (.iconst 1) 1 1, oA (.goto 4) 3 74]), (73, [oV (.iconst 0) 1 0]), (74, [oA .ireturn 1 1])], [], 7)
theorem mk_261 : mj_ckM mj_TY mp_10 prog_10_method_4_code 7 (some .boolean) mt_261 = true := by decide +kernel
-- UnbeatenHouse.could()J
def mt_262 : mj_C := ([(0, [oW (.lconst 0) 1 0, o0 (.lstore_n 1) 1, oV (.iconst 0) 1 0, o0 (.istore_n 3) 1]), (4, [o0 (.iload_n 3) 1, o0 (.aload_n 0) 1, oF (.getfield 71) 3 1 11 2, oF (.getfield 251) 3 12 2 0, oA (.if_icmp .ge 44) 3 56]), (15, [o0 (.aload_n 0) 1, oF (.getfield 78) 3 1 12 2, o0 (.iload_n 3) 1, o0 (.aload_n 0) 1, oF (.getfield 71) 3 1 11 2, o0 (.aload_n 0) 1, oF (.getfield 26) 3 1 3 2, oM (.invokevirtual 296) 3 260 4 1 11, oA (.ifCond .eq 19) 3 50]), (34, [o0 (.lload_n 1) 1, o0 (.aload_n 0) 1, oF (.getfield 26) 3 1 3 2, o0 (.iload_n 3) 1, o0 (.aload_n 0) 1, oF (.getfield 71) 3 1 11 2, oV (.iconst 0) 1 0, oM (.invokevirtual 300) 3 263 4 2 10, o0 .lor 1, o0 (.lstore_n 1) 1]), (50, [oV (.iinc 3 1) 3 1, oA (.goto (-49)) 3 4]), (56, [o0 (.lload_n 1) 1, o0 .lreturn 1])], [(4, [0, 1, 3])], 4)
theorem mk_262 : mj_ckM mj_TY mp_1 prog_1_method_36_code 4 (some .long) mt_262 = true := by decide +kernel
-- UnbeatenHouse$Rows.firstBy(ILUnbeatenHouse$Weighings;I)J
def mt_263 : mj_C := ([(0, [oV (.ldc 93) 2 2147483647, o0 (.istore 4) 2, oV (.iconst 0) 1 0, o0 (.istore 5) 2]), (7, [o0 (.iload 5) 2, o0 (.aload_n 0) 1, oF (.getfield 29) 3 9 0 0, oA (.if_icmp .ge 55) 3 68]), (16, [o0 (.aload_n 0) 1, oF (.getfield 21) 3 9 7 2, o0 (.iload 5) 2, o0 (.aload_n 2) 1, o0 (.iload_n 1) 1, o0 (.aload_n 0) 1, oF (.getfield 9) 3 9 2 2, o0 (.iload 5) 2, oV (.iconst 4) 1 4, o0 .imul 1, oM (.invokevirtual 94) 3 239 4 1 13, o0 .iastore 1, o0 (.aload_n 0) 1, oF (.getfield 48) 3 9 6 1, o0 (.iload 5) 2, oM (.invokestatic 65) 3 178 2 1 0, oA (.ifCond .eq 17) 3 62]), (48, [o0 (.iload 4) 2, o0 (.aload_n 0) 1, oF (.getfield 21) 3 9 7 2, o0 (.iload 5) 2, o0 .iaload 1, oM (.invokestatic 100) 3 0 2 1 0, o0 (.istore 4) 2]), (62, [oV (.iinc 5 1) 3 1, oA (.goto (-58)) 3 7]), (68, [oW (.lconst 0) 1 0, o0 (.lstore 5) 2, oV (.iconst 0) 1 0, o0 (.istore 7) 2]), (74, [o0 (.iload 7) 2, o0 (.aload_n 0) 1, oF (.getfield 29) 3 9 0 0, oA (.if_icmp .ge 44) 3 124]), (83, [o0 (.aload_n 0) 1, oF (.getfield 48) 3 9 6 1, o0 (.iload 7) 2, oM (.invokestatic 65) 3 178 2 1 0, oA (.ifCond .eq 26) 3 118]), (95, [o0 (.aload_n 0) 1, oF (.getfield 21) 3 9 7 2, o0 (.iload 7) 2, o0 .iaload 1, o0 (.iload 4) 2, o0 .isub 1, o0 (.iload_n 3) 1, oA (.if_icmp .gt 12) 3 118]), (109, [o0 (.lload 5) 2, oW (.lconst 1) 1 1, o0 (.iload 7) 2, o0 .lshl 1, o0 .lor 1, o0 (.lstore 5) 2]), (118, [oV (.iinc 7 1) 3 1, oA (.goto (-47)) 3 74]), (124, [o0 (.lload 5) 2, o0 .lreturn 1])], [(7, [0, 1, 2, 3, 4, 5]), (74, [0, 3, 4, 5, 7])], 8)
theorem mk_263 : mj_ckM mj_TY mp_9 prog_9_method_9_code 8 (some .long) mt_263 = true := by decide +kernel
-- UnbeatenHouse.question(I)I
def mt_264 : mj_C := ([(0, [o0 (.iload_n 1) 1, oA (.ifCond .lt 26) 3 27]), (4, [o0 (.iload_n 1) 1, oV (.iconst 2) 1 2, oA (.if_icmp .gt 21) 3 27]), (9, [o0 (.aload_n 0) 1, oF (.getfield 78) 3 1 12 2, o0 (.aload_n 0) 1, oF (.getfield 71) 3 1 11 2, o0 (.aload_n 0) 1, oF (.getfield 26) 3 1 3 2, oM (.invokevirtual 304) 3 265 3 1 11, oA (.ifCond .ne 5) 3 29]), (27, [oV (.iconst (-1)) 1 (-1), oA .ireturn 1 0]), (29, [o0 (.iload_n 1) 1, oV (.iconst 2) 1 2, oA (.if_icmp .ne 11) 3 42]), (34, [o0 (.aload_n 0) 1, oF (.getfield 78) 3 1 12 2, oF (.getfield 308) 3 10 7 0, oA .ireturn 1 0]), (42, [o0 (.iload_n 1) 1, oA (.ifCond .ne 13) 3 56]), (46, [o0 (.aload_n 0) 1, oF (.getfield 78) 3 1 12 2, oF (.getfield 311) 3 10 5 0, oA (.goto 10) 3 63]), (56, [o0 (.aload_n 0) 1, oF (.getfield 78) 3 1 12 2, oF (.getfield 314) 3 10 6 0]), (63, [oA .ireturn 1 0])], [], 2)
theorem mk_264 : mj_ckM mj_TY mp_1 prog_1_method_37_code 2 (some .int) mt_264 = true := by decide +kernel
-- UnbeatenHouse$Sayings.ask(LUnbeatenHouse$Weighings;LUnbeatenHouse$Rows;)Z
def mt_265 : mj_C := ([(0, [oV (.iconst 0) 1 0, o0 (.istore_n 3) 1]), (2, [o0 (.iload_n 3) 1, oV (.sipush 1600) 3 1600, oA (.if_icmp .ge 16) 3 22]), (9, [o0 (.aload_n 0) 1, oF (.getfield 18) 3 10 3 2, o0 (.iload_n 3) 1, oW (.lconst 0) 1 0, o0 .lastore 1, oV (.iinc 3 1) 3 1, oA (.goto (-17)) 3 2]), (22, [oV (.iconst 0) 1 0, o0 (.istore_n 3) 1]), (24, [o0 (.iload_n 3) 1, o0 (.aload_n 1) 1, oF (.getfield 49) 3 12 2 0, oA (.if_icmp .ge 31) 3 60]), (32, [o0 (.aload_n 0) 1, o0 (.iload_n 3) 1, o0 (.aload_n 1) 1, o0 (.aload_n 2) 1, oM (.invokevirtual 50) 3 260 4 1 11, oA (.ifCond .eq 15) 3 54]), (42, [o0 (.aload_n 0) 1, o0 (.aload_n 2) 1, o0 (.iload_n 3) 1, o0 (.aload_n 1) 1, oV (.iconst 0) 1 0, oM (.invokevirtual 54) 3 263 4 2 10, o0 (.aload_n 2) 1, oM (.invokevirtual 58) 3 266 3 0 11]), (54, [oV (.iinc 3 1) 3 1, oA (.goto (-33)) 3 24]), (60, [o0 (.aload_n 0) 1, oV (.iconst (-1)) 1 (-1), oF (.putfield 62) 3 10 7 0, oV (.iconst 0) 1 0, o0 (.istore_n 3) 1]), (67, [o0 (.iload_n 3) 1, o0 (.aload_n 2) 1, oF (.getfield 65) 3 9 0 0, oA (.if_icmp .ge 59) 3 131]), (75, [o0 (.iload_n 3) 1, oV (.iconst 1) 1 1, o0 .iadd 1, o0 (.istore 4) 2]), (80, [o0 (.iload 4) 2, o0 (.aload_n 2) 1, oF (.getfield 65) 3 9 0 0, oA (.if_icmp .ge 39) 3 125]), (89, [o0 (.aload_n 2) 1, oF (.getfield 66) 3 9 6 1, o0 (.iload_n 3) 1, oM (.invokestatic 70) 3 178 2 1 0, oA (.ifCond .eq 22) 3 119]), (100, [o0 (.aload_n 2) 1, oF (.getfield 66) 3 9 6 1, o0 (.iload 4) 2, oM (.invokestatic 70) 3 178 2 1 0, oA (.ifCond .eq 10) 3 119]), (112, [o0 (.aload_n 0) 1, o0 (.iload_n 3) 1, o0 (.iload 4) 2, oM (.invokevirtual 74) 3 267 3 0 11]), (119, [oV (.iinc 4 1) 3 1, oA (.goto (-42)) 3 80]), (125, [oV (.iinc 3 1) 3 1, oA (.goto (-61)) 3 67]), (131, [o0 (.aload_n 0) 1, oF (.getfield 62) 3 10 7 0, oV (.iconst (-1)) 1 (-1), oA (.if_icmp .eq 7) 3 143]), (139, [oV (.iconst 1) 1 1, oA (.goto 4) 3 144]), (143, [oV (.iconst 0) 1 0]), (144, [oA .ireturn 1 1])], [(2, [0, 1, 2, 3]), (24, [0, 1, 2, 3]), (67, [0, 2, 3]), (80, [0, 2, 3, 4])], 5)
theorem mk_265 : mj_ckM mj_TY mp_10 prog_10_method_6_code 5 (some .boolean) mt_265 = true := by decide +kernel
-- UnbeatenHouse$Sayings.noteFirst(JLUnbeatenHouse$Rows;)V
def mt_266 : mj_C := ([(0, [oV (.iconst 0) 1 0, o0 (.istore 4) 2]), (3, [o0 (.iload 4) 2, o0 (.aload_n 3) 1, oF (.getfield 65) 3 9 0 0, oA (.if_icmp .ge 61) 3 70]), (12, [oV (.iconst 0) 1 0, o0 (.istore 5) 2]), (15, [o0 (.iload 5) 2, o0 (.aload_n 3) 1, oF (.getfield 65) 3 9 0 0, oA (.if_icmp .ge 43) 3 64]), (24, [o0 (.aload_n 3) 1, oF (.getfield 78) 3 9 7 2, o0 (.iload 4) 2, o0 .iaload 1, o0 (.aload_n 3) 1, oF (.getfield 78) 3 9 7 2, o0 (.iload 5) 2, o0 .iaload 1, oA (.if_icmp .gt 20) 3 58]), (41, [o0 (.aload_n 0) 1, oF (.getfield 18) 3 10 3 2, o0 (.iload 4) 2, oV (.bipush 40) 2 40, o0 .imul 1, o0 (.iload 5) 2, o0 .iadd 1, o0 .dup2 1, o0 .laload 1, o0 (.lload_n 1) 1, o0 .lor 1, o0 .lastore 1]), (58, [oV (.iinc 5 1) 3 1, oA (.goto (-46)) 3 15]), (64, [oV (.iinc 4 1) 3 1, oA (.goto (-64)) 3 3]), (70, [o0 .return_ 1])], [(3, [0, 1, 3, 4]), (15, [0, 1, 3, 4, 5])], 6)
theorem mk_266 : mj_ckM mj_TY mp_10 prog_10_method_7_code 6 none mt_266 = true := by decide +kernel
-- UnbeatenHouse$Sayings.tryQuestion(II)V
def mt_267 : mj_C := ([(0, [o0 (.aload_n 0) 1, oF (.getfield 18) 3 10 3 2, o0 (.iload_n 1) 1, oV (.bipush 40) 2 40, o0 .imul 1, o0 (.iload_n 2) 1, o0 .iadd 1, o0 .laload 1, oM (.invokestatic 81) 3 2 1 1 0, o0 (.aload_n 0) 1, oF (.getfield 18) 3 10 3 2, o0 (.iload_n 2) 1, oV (.bipush 40) 2 40, o0 .imul 1, o0 (.iload_n 1) 1, o0 .iadd 1, o0 .laload 1, oM (.invokestatic 81) 3 2 1 1 0, oM (.invokestatic 87) 3 1 2 1 0, o0 (.istore_n 3) 1, o0 (.aload_n 0) 1, oF (.getfield 62) 3 10 7 0, oV (.iconst (-1)) 1 (-1), oA (.if_icmp .eq 11) 3 48]), (40, [o0 (.iload_n 3) 1, o0 (.aload_n 0) 1, oF (.getfield 62) 3 10 7 0, oA (.if_icmp .ge 18) 3 63]), (48, [o0 (.aload_n 0) 1, o0 (.iload_n 1) 1, oF (.putfield 93) 3 10 5 0, o0 (.aload_n 0) 1, o0 (.iload_n 2) 1, oF (.putfield 96) 3 10 6 0, o0 (.aload_n 0) 1, o0 (.iload_n 3) 1, oF (.putfield 62) 3 10 7 0]), (63, [o0 .return_ 1])], [(48, [0, 1, 2, 3])], 4)
theorem mk_267 : mj_ckM mj_TY mp_10 prog_10_method_8_code 4 none mt_267 = true := by decide +kernel
-- UnbeatenHouse.quarrel()I
def mt_268 : mj_C := ([(0, [o0 (.aload_n 0) 1, oF (.getfield 78) 3 1 12 2, o0 (.aload_n 0) 1, oF (.getfield 71) 3 1 11 2, o0 (.aload_n 0) 1, oF (.getfield 26) 3 1 3 2, oM (.invokevirtual 317) 3 269 3 1 11, oA .ireturn 1 0])], [], 1)
theorem mk_268 : mj_ckM mj_TY mp_1 prog_1_method_38_code 1 (some .int) mt_268 = true := by decide +kernel
-- UnbeatenHouse$Sayings.fewestAtOdds(LUnbeatenHouse$Weighings;LUnbeatenHouse$Rows;)I
def mt_269 : mj_C := ([(0, [oV (.iconst 1) 1 1, o0 (.aload_n 0) 1, oF (.getfield 26) 3 10 0 0, o0 .ishl 1, o0 (.istore_n 3) 1, oV (.iconst 0) 1 0, o0 (.istore 4) 2]), (10, [o0 (.iload 4) 2, o0 (.iload_n 3) 1, oA (.if_icmp .ge 17) 3 30]), (16, [o0 (.aload_n 0) 1, oF (.getfield 22) 3 10 4 2, o0 (.iload 4) 2, oV (.iconst 0) 1 0, o0 .bastore 1, oV (.iinc 4 1) 3 1, oA (.goto (-17)) 3 10]), (30, [oV (.iconst 0) 1 0, o0 (.istore 4) 2]), (33, [o0 (.iload 4) 2, o0 (.aload_n 1) 1, oF (.getfield 49) 3 12 2 0, oA (.if_icmp .ge 23) 3 62]), (42, [o0 (.aload_n 0) 1, oF (.getfield 22) 3 10 4 2, o0 (.aload_n 0) 1, o0 (.iload 4) 2, o0 (.aload_n 1) 1, o0 (.aload_n 2) 1, oM (.invokevirtual 99) 3 270 4 1 11, oV (.iconst 1) 1 1, o0 .bastore 1, oV (.iinc 4 1) 3 1, oA (.goto (-26)) 3 33]), (62, [o0 (.aload_n 0) 1, o0 (.iload_n 3) 1, oM (.invokevirtual 103) 3 271 2 0 11, oV (.iconst 0) 1 0, o0 (.istore 4) 2, oV (.iconst 1) 1 1, o0 (.istore 5) 2]), (73, [o0 (.iload 5) 2, o0 (.iload_n 3) 1, oA (.if_icmp .ge 38) 3 114]), (79, [o0 (.aload_n 0) 1, oF (.getfield 22) 3 10 4 2, o0 (.iload 5) 2, o0 .baload 1, oA (.ifCond .ne 22) 3 108]), (89, [o0 (.iload 4) 2, oA (.ifCond .eq 13) 3 104]), (94, [o0 (.iload 5) 2, o0 (.iload 4) 2, oM (.invokestatic 107) 3 272 2 1 0, oA (.ifCond .eq 7) 3 108]), (104, [o0 (.iload 5) 2, o0 (.istore 4) 2]), (108, [oV (.iinc 5 1) 3 1, oA (.goto (-38)) 3 73]), (114, [o0 (.iload 4) 2, oA .ireturn 1 0])], [(10, [0, 1, 2, 3, 4]), (33, [0, 1, 2, 3, 4]), (73, [0, 3, 4, 5])], 6)
theorem mk_269 : mj_ckM mj_TY mp_10 prog_10_method_9_code 6 (some .int) mt_269 = true := by decide +kernel
-- UnbeatenHouse$Sayings.agreedSayings(ILUnbeatenHouse$Weighings;LUnbeatenHouse$Rows;)I
def mt_270 : mj_C := ([(0, [oV (.iconst 0) 1 0, o0 (.istore 4) 2, oV (.iconst 0) 1 0, o0 (.istore 5) 2]), (6, [o0 (.iload 5) 2, o0 (.aload_n 0) 1, oF (.getfield 26) 3 10 0 0, oA (.if_icmp .ge 30) 3 42]), (15, [o0 (.aload_n 0) 1, o0 (.iload 5) 2, o0 (.iload_n 1) 1, o0 (.aload_n 2) 1, o0 (.aload_n 3) 1, oM (.invokevirtual 45) 3 261 5 1 11, oA (.ifCond .eq 12) 3 36]), (27, [o0 (.iload 4) 2, oV (.iconst 1) 1 1, o0 (.iload 5) 2, o0 .ishl 1, o0 .ior 1, o0 (.istore 4) 2]), (36, [oV (.iinc 5 1) 3 1, oA (.goto (-33)) 3 6]), (42, [o0 (.iload 4) 2, oA .ireturn 1 0])], [(6, [0, 1, 2, 3, 4, 5])], 6)
theorem mk_270 : mj_ckM mj_TY mp_10 prog_10_method_10_code 6 (some .int) mt_270 = true := by decide +kernel
-- UnbeatenHouse$Sayings.spreadToParts(I)V
def mt_271 : mj_C := ([(0, [oV (.iconst 0) 1 0, o0 (.istore_n 2) 1]), (2, [o0 (.iload_n 2) 1, o0 (.aload_n 0) 1, oF (.getfield 26) 3 10 0 0, oA (.if_icmp .ge 44) 3 51]), (10, [oV (.iconst 0) 1 0, o0 (.istore_n 3) 1]), (12, [o0 (.iload_n 3) 1, o0 (.iload_n 1) 1, oA (.if_icmp .ge 31) 3 45]), (17, [o0 (.aload_n 0) 1, oF (.getfield 22) 3 10 4 2, o0 (.iload_n 3) 1, o0 .baload 1, oA (.ifCond .eq 16) 3 39]), (26, [o0 (.aload_n 0) 1, oF (.getfield 22) 3 10 4 2, o0 (.iload_n 3) 1, oV (.iconst 1) 1 1, o0 (.iload_n 2) 1, o0 .ishl 1, oV (.iconst (-1)) 1 (-1), o0 .ixor 1, o0 .iand 1, oV (.iconst 1) 1 1, o0 .bastore 1]), (39, [oV (.iinc 3 1) 3 1, oA (.goto (-30)) 3 12]), (45, [oV (.iinc 2 1) 3 1, oA (.goto (-46)) 3 2]), (51, [o0 .return_ 1])], [(2, [0, 1, 2]), (12, [0, 1, 2, 3])], 4)
theorem mk_271 : mj_ckM mj_TY mp_10 prog_10_method_11_code 4 none mt_271 = true := by decide +kernel
-- UnbeatenHouse$Sayings.isAhead(II)Z
def mt_272 : mj_C := ([(0, [o0 (.iload_n 0) 1, oM (.invokestatic 111) 3 3 1 1 0, o0 (.iload_n 1) 1, oM (.invokestatic 111) 3 3 1 1 0, o0 .isub 1, o0 (.istore_n 2) 1, o0 (.iload_n 0) 1, o0 (.iload_n 1) 1, o0 .ixor 1, o0 (.istore_n 3) 1, o0 (.iload_n 2) 1, oA (.ifCond .lt 16) 3 31]), (18, [o0 (.iload_n 2) 1, oA (.ifCond .ne 16) 3 35]), (22, [o0 (.iload_n 0) 1, o0 (.iload_n 3) 1, o0 .iand 1, o0 (.iload_n 3) 1, o0 .ineg 1, o0 .iand 1, oA (.ifCond .eq 7) 3 35]), (31, [oV (.iconst 1) 1 1, oA (.goto 4) 3 36]), (35, [oV (.iconst 0) 1 0]), (36, [oA .ireturn 1 1])], [], 4)
theorem mk_272 : mj_ckM mj_TY mp_10 prog_10_method_12_code 4 (some .boolean) mt_272 = true := by decide +kernel
-- UnbeatenHouse.stop(I)I
def mt_273 : mj_C := ([(0, [o0 (.iload_n 1) 1, oA (.ifCond .lt 10) 3 11]), (4, [o0 (.iload_n 1) 1, oV (.sipush 9999) 3 9999, oA (.if_icmp .le 5) 3 13]), (11, [oV (.iconst (-1)) 1 (-1), oA .ireturn 1 0]), (13, [oV (.iconst 0) 1 0, o0 (.istore_n 2) 1, o0 (.aload_n 0) 1, oF (.getfield 26) 3 1 3 2, oF (.getfield 173) 3 9 6 1, o0 (.lstore_n 3) 1, oV (.iconst 0) 1 0, o0 (.istore 5) 2]), (26, [o0 (.iload 5) 2, o0 (.aload_n 0) 1, oF (.getfield 71) 3 1 11 2, oF (.getfield 251) 3 12 2 0, oA (.if_icmp .ge 56) 3 91]), (38, [o0 (.aload_n 0) 1, oF (.getfield 78) 3 1 12 2, o0 (.iload 5) 2, o0 (.aload_n 0) 1, oF (.getfield 71) 3 1 11 2, o0 (.aload_n 0) 1, oF (.getfield 26) 3 1 3 2, oM (.invokevirtual 296) 3 260 4 1 11, oA (.ifCond .eq 30) 3 85]), (58, [oV (.iconst 1) 1 1, o0 (.istore_n 2) 1, o0 (.lload_n 3) 1, o0 (.aload_n 0) 1, oF (.getfield 26) 3 1 3 2, o0 (.iload 5) 2, o0 (.aload_n 0) 1, oF (.getfield 71) 3 1 11 2, o0 (.iload_n 1) 1, o0 (.aload_n 0) 1, oF (.getfield 71) 3 1 11 2, oF (.getfield 127) 3 12 0 0, o0 .imul 1, oM (.invokevirtual 300) 3 263 4 2 10, o0 .land 1, o0 (.lstore_n 3) 1]), (85, [oV (.iinc 5 1) 3 1, oA (.goto (-62)) 3 26]), (91, [o0 (.iload_n 2) 1, oA (.ifCond .eq 16) 3 108]), (95, [o0 (.lload_n 3) 1, oW (.lconst 0) 1 0, o0 .lcmp 1, oA (.ifCond .eq 10) 3 108]), (101, [o0 (.lload_n 3) 1, oM (.invokestatic 321) 3 7 1 1 0, oA (.goto 4) 3 109]), (108, [oV (.iconst (-1)) 1 (-1)]), (109, [oA .ireturn 1 0])], [(26, [0, 1, 2, 3, 5])], 6)
theorem mk_273 : mj_ckM mj_TY mp_1 prog_1_method_39_code 6 (some .int) mt_273 = true := by decide +kernel
-- UnbeatenHouse.person(IIIII)Z
def mt_274 : mj_C := ([(0, [o0 (.aload_n 0) 1, oF (.getfield 10) 3 1 1 2, oF (.getfield 130) 3 11 1 2, oV (.iconst 0) 1 0, o0 .iaload 1, o0 (.istore 6) 2, o0 (.iload_n 1) 1, oM (.invokestatic 324) 3 275 1 1 0, oA (.ifCond .eq 45) 3 60]), (18, [o0 (.iload_n 2) 1, oV (.iconst 0) 1 0, o0 (.iload 6) 2, oM (.invokestatic 327) 3 276 3 1 0, oA (.ifCond .eq 35) 3 60]), (28, [o0 (.iload_n 3) 1, oV (.iconst 1) 1 1, o0 (.iload 6) 2, oM (.invokestatic 327) 3 276 3 1 0, oA (.ifCond .eq 25) 3 60]), (38, [o0 (.iload 4) 2, oV (.iconst 2) 1 2, o0 (.iload 6) 2, oM (.invokestatic 327) 3 276 3 1 0, oA (.ifCond .eq 14) 3 60]), (49, [o0 (.iload 5) 2, oV (.iconst 3) 1 3, o0 (.iload 6) 2, oM (.invokestatic 327) 3 276 3 1 0, oA (.ifCond .ne 5) 3 62]), (60, [oV (.iconst 0) 1 0, oA .ireturn 1 1]), (62, [o0 (.iload_n 1) 1, oV (.iconst 4) 1 4, o0 .imul 1, o0 (.istore 7) 2, o0 (.aload_n 0) 1, oF (.getfield 85) 3 1 13 2, oF (.getfield 331) 3 5 0 2, o0 (.iload 7) 2, o0 (.iload_n 2) 1, o0 .iastore 1, o0 (.aload_n 0) 1, oF (.getfield 85) 3 1 13 2, oF (.getfield 331) 3 5 0 2, o0 (.iload 7) 2, oV (.iconst 1) 1 1, o0 .iadd 1, o0 (.iload_n 3) 1, o0 .iastore 1, o0 (.aload_n 0) 1, oF (.getfield 85) 3 1 13 2, oF (.getfield 331) 3 5 0 2, o0 (.iload 7) 2, oV (.iconst 2) 1 2, o0 .iadd 1, o0 (.iload 4) 2, o0 .iastore 1, o0 (.aload_n 0) 1, oF (.getfield 85) 3 1 13 2, oF (.getfield 331) 3 5 0 2, o0 (.iload 7) 2, oV (.iconst 3) 1 3, o0 .iadd 1, o0 (.iload 5) 2, o0 .iastore 1]), (119, [o0 (.aload_n 0) 1, oF (.getfield 85) 3 1 13 2, oF (.getfield 332) 3 5 1 2, o0 (.iload_n 1) 1, o0 (.iload_n 2) 1, o0 (.iload_n 3) 1, o0 .ior 1, o0 (.iload 4) 2, o0 .ior 1, o0 (.iload 5) 2, o0 .ior 1, oA (.ifCond .eq 7) 3 143]), (139, [oV (.iconst 1) 1 1, oA (.goto 4) 3 144]), (143, [oV (.iconst 0) 1 0]), (144, [o0 .bastore 1, oV (.iconst 1) 1 1, oA .ireturn 1 1])], [(119, [0, 1, 2, 3, 4, 5])], 8)
theorem mk_274 : mj_ckM mj_TY mp_1 prog_1_method_40_code 8 (some .boolean) mt_274 = true := by decide +kernel
-- UnbeatenHouse$People.isOne(I)Z
def mt_275 : mj_C := ([(0, [o0 (.iload_n 0) 1, oA (.ifCond .lt 13) 3 14]), (4, [o0 (.iload_n 0) 1, oV (.bipush 6) 2 6, oA (.if_icmp .ge 7) 3 14]), (10, [oV (.iconst 1) 1 1, oA (.goto 4) 3 15]), (14, [oV (.iconst 0) 1 0]), (15, [oA .ireturn 1 1])], [], 1)
theorem mk_275 : mj_ckM mj_TY mp_5 prog_5_method_2_code 1 (some .boolean) mt_275 = true := by decide +kernel
-- UnbeatenHouse.isWeight(III)Z
def mt_276 : mj_C := ([(0, [o0 (.iload_n 0) 1, oA (.ifCond .lt 22) 3 23]), (4, [o0 (.iload_n 0) 1, o0 (.iload_n 1) 1, o0 (.iload_n 2) 1, oA (.if_icmp .ge 8) 3 15]), (10, [oV (.bipush 9) 2 9, oA (.goto 4) 3 16]), (15, [oV (.iconst 0) 1 0]), (16, [oA (.if_icmp .gt 7) 3 23]), (19, [oV (.iconst 1) 1 1, oA (.goto 4) 3 24]), (23, [oV (.iconst 0) 1 0]), (24, [oA .ireturn 1 1])], [], 3)
theorem mk_276 : mj_ckM mj_TY mp_1 prog_1_method_41_code 3 (some .boolean) mt_276 = true := by decide +kernel
-- UnbeatenHouse.bar(IIZ)Z
def mt_277 : mj_C := ([(0, [o0 (.iload_n 1) 1, oM (.invokestatic 324) 3 275 1 1 0, oA (.ifCond .eq 15) 3 19]), (7, [o0 (.aload_n 0) 1, oF (.getfield 10) 3 1 1 2, oV (.iconst 1) 1 1, o0 (.iload_n 2) 1, oM (.invokevirtual 149) 3 192 3 1 12, oA (.ifCond .ne 5) 3 21]), (19, [oV (.iconst 0) 1 0, oA .ireturn 1 1]), (21, [oW (.lconst 1) 1 1, o0 (.iload_n 2) 1, o0 .lshl 1, o0 (.lstore 4) 2, o0 (.aload_n 0) 1, oF (.getfield 85) 3 1 13 2, oF (.getfield 336) 3 5 2 2, o0 (.iload_n 1) 1, o0 (.iload_n 3) 1, oA (.ifCond .eq 18) 3 53]), (38, [o0 (.aload_n 0) 1, oF (.getfield 85) 3 1 13 2, oF (.getfield 336) 3 5 2 2, o0 (.iload_n 1) 1, o0 .laload 1, o0 (.lload 4) 2, o0 .lor 1, oA (.goto 19) 3 69]), (53, [o0 (.aload_n 0) 1, oF (.getfield 85) 3 1 13 2, oF (.getfield 336) 3 5 2 2, o0 (.iload_n 1) 1, o0 .laload 1, o0 (.lload 4) 2, oW (.ldc2_w 180) 3 (-1), o0 .lxor 1, o0 .land 1]), (69, [o0 .lastore 1, oV (.iconst 1) 1 1, oA .ireturn 1 1])], [], 6)
theorem mk_277 : mj_ckM mj_TY mp_1 prog_1_method_42_code 6 (some .boolean) mt_277 = true := by decide +kernel
-- UnbeatenHouse.choose(I)I
def mt_278 : mj_C := ([(0, [o0 (.aload_n 0) 1, oF (.getfield 85) 3 1 13 2, o0 (.aload_n 0) 1, oF (.getfield 26) 3 1 3 2, oM (.invokevirtual 339) 3 279 2 1 6, oA (.ifCond .eq 21) 3 32]), (14, [o0 (.aload_n 0) 1, oF (.getfield 85) 3 1 13 2, o0 (.iload_n 1) 1, o0 (.aload_n 0) 1, oF (.getfield 85) 3 1 13 2, oF (.getfield 343) 3 5 5 1, oM (.invokevirtual 346) 3 281 3 1 6, oA (.goto 4) 3 33]), (32, [oV (.iconst (-1)) 1 (-1)]), (33, [oA .ireturn 1 0])], [], 2)
theorem mk_278 : mj_ckM mj_TY mp_1 prog_1_method_43_code 2 (some .int) mt_278 = true := by decide +kernel
-- UnbeatenHouse$People.gather(LUnbeatenHouse$Rows;)Z
def mt_279 : mj_C := ([(0, [o0 (.aload_n 0) 1, o0 (.aload_n 1) 1, oF (.getfield 26) 3 9 6 1, oF (.putfield 32) 3 5 5 1, o0 (.aload_n 0) 1, oV (.iconst 0) 1 0, oF (.putfield 35) 3 5 4 0, oV (.iconst 0) 1 0, o0 (.istore_n 2) 1]), (15, [o0 (.iload_n 2) 1, oV (.bipush 6) 2 6, oA (.if_icmp .ge 53) 3 71]), (21, [o0 (.aload_n 0) 1, o0 .dup 1, oF (.getfield 32) 3 5 5 1, o0 (.aload_n 0) 1, oF (.getfield 19) 3 5 2 2, o0 (.iload_n 2) 1, o0 .laload 1, oW (.ldc2_w 39) 3 (-1), o0 .lxor 1, o0 .land 1, oF (.putfield 32) 3 5 5 1, o0 (.aload_n 0) 1, oF (.getfield 15) 3 5 1 2, o0 (.iload_n 2) 1, o0 .baload 1, oA (.ifCond .eq 19) 3 65]), (49, [o0 (.aload_n 0) 1, o0 .dup 1, oF (.getfield 35) 3 5 4 0, oV (.iconst 1) 1 1, o0 .iadd 1, oF (.putfield 35) 3 5 4 0, o0 (.aload_n 0) 1, o0 (.iload_n 2) 1, o0 (.aload_n 1) 1, oM (.invokevirtual 41) 3 280 3 0 6]), (65, [oV (.iinc 2 1) 3 1, oA (.goto (-53)) 3 15]), (71, [o0 (.aload_n 0) 1, oF (.getfield 35) 3 5 4 0, oA (.ifCond .le 7) 3 82]), (78, [oV (.iconst 1) 1 1, oA (.goto 4) 3 83]), (82, [oV (.iconst 0) 1 0]), (83, [oA .ireturn 1 1])], [(15, [0, 1, 2])], 3)
theorem mk_279 : mj_ckM mj_TY mp_5 prog_5_method_4_code 3 (some .boolean) mt_279 = true := by decide +kernel
-- UnbeatenHouse$People.weighAll(ILUnbeatenHouse$Rows;)V
def mt_280 : mj_C := ([(0, [oV (.iconst 0) 1 0, o0 (.istore_n 3) 1]), (2, [o0 (.iload_n 3) 1, o0 (.aload_n 2) 1, oF (.getfield 45) 3 9 0 0, oA (.if_icmp .ge 71) 3 78]), (10, [oV (.iconst 0) 1 0, o0 (.istore 4) 2, oV (.iconst 0) 1 0, o0 (.istore 5) 2]), (16, [o0 (.iload 5) 2, o0 (.aload_n 2) 1, oF (.getfield 48) 3 9 1 0, oA (.if_icmp .ge 37) 3 59]), (25, [o0 (.iload 4) 2, o0 (.aload_n 0) 1, oF (.getfield 9) 3 5 0 2, o0 (.iload_n 1) 1, oV (.iconst 4) 1 4, o0 .imul 1, o0 (.iload 5) 2, o0 .iadd 1, o0 .iaload 1, o0 (.aload_n 2) 1, oF (.getfield 51) 3 9 2 2, o0 (.iload_n 3) 1, oV (.iconst 4) 1 4, o0 .imul 1, o0 (.iload 5) 2, o0 .iadd 1, o0 .iaload 1, o0 .imul 1, o0 .iadd 1, o0 (.istore 4) 2, oV (.iinc 5 1) 3 1, oA (.goto (-40)) 3 16]), (59, [o0 (.aload_n 0) 1, oF (.getfield 23) 3 5 3 2, o0 (.iload_n 1) 1, oV (.bipush 40) 2 40, o0 .imul 1, o0 (.iload_n 3) 1, o0 .iadd 1, o0 (.iload 4) 2, o0 .iastore 1, oV (.iinc 3 1) 3 1, oA (.goto (-73)) 3 2]), (78, [o0 .return_ 1])], [(2, [0, 1, 2, 3]), (16, [0, 1, 2, 3, 4, 5])], 6)
theorem mk_280 : mj_ckM mj_TY mp_5 prog_5_method_5_code 6 none mt_280 = true := by decide +kernel
-- UnbeatenHouse$People.pick(IJ)I
def mt_281 : mj_C := ([(0, [o0 (.iload_n 1) 1, oV (.iconst 3) 1 3, oA (.if_icmp .ne 9) 3 11]), (5, [o0 (.aload_n 0) 1, o0 (.lload_n 2) 1, oM (.invokevirtual 62) 3 282 2 1 6, oA .ireturn 1 0]), (11, [o0 (.iload_n 1) 1, oA (.ifCond .lt 8) 3 20]), (15, [o0 (.iload_n 1) 1, oV (.iconst 3) 1 3, oA (.if_icmp .le 5) 3 22]), (20, [oV (.iconst (-1)) 1 (-1), oA .ireturn 1 0]), (22, [oV (.iconst (-1)) 1 (-1), o0 (.istore 4) 2, oV (.iconst 0) 1 0, o0 (.istore 5) 2, oV (.iconst 0) 1 0, o0 (.istore 6) 2]), (31, [o0 (.iload 6) 2, oV (.bipush 40) 2 40, oA (.if_icmp .ge 49) 3 84]), (38, [o0 (.lload_n 2) 1, o0 (.iload 6) 2, oM (.invokestatic 54) 3 178 2 1 0, oA (.ifCond .eq 34) 3 78]), (47, [o0 (.aload_n 0) 1, o0 (.iload_n 1) 1, o0 (.iload 6) 2, o0 (.lload_n 2) 1, oM (.invokevirtual 66) 3 285 4 1 6, o0 (.istore 7) 2, o0 (.iload 4) 2, oV (.iconst (-1)) 1 (-1), oA (.if_icmp .eq 10) 3 70]), (63, [o0 (.iload 7) 2, o0 (.iload 5) 2, oA (.if_icmp .ge 11) 3 78]), (70, [o0 (.iload 6) 2, o0 (.istore 4) 2, o0 (.iload 7) 2, o0 (.istore 5) 2]), (78, [oV (.iinc 6 1) 3 1, oA (.goto (-50)) 3 31]), (84, [o0 (.iload 4) 2, oA .ireturn 1 0])], [(31, [0, 1, 2, 4, 5, 6])], 8)
theorem mk_281 : mj_ckM mj_TY mp_5 prog_5_method_9_code 8 (some .int) mt_281 = true := by decide +kernel
-- UnbeatenHouse$People.pickAheadOfAll(J)I
def mt_282 : mj_C := ([(0, [oV (.iconst 0) 1 0, o0 (.istore_n 3) 1]), (2, [o0 (.iload_n 3) 1, oV (.bipush 40) 2 40, oA (.if_icmp .ge 76) 3 81]), (8, [o0 (.lload_n 1) 1, o0 (.iload_n 3) 1, oM (.invokestatic 54) 3 178 2 1 0, o0 (.istore 4) 2, oV (.iconst 0) 1 0, o0 (.istore 5) 2]), (18, [o0 (.iload 5) 2, oV (.bipush 40) 2 40, oA (.if_icmp .ge 46) 3 68]), (25, [o0 (.iload 4) 2, oA (.ifCond .eq 41) 3 68]), (30, [o0 (.iload 5) 2, o0 (.iload_n 3) 1, oA (.if_icmp .eq 22) 3 55]), (36, [o0 (.lload_n 1) 1, o0 (.iload 5) 2, oM (.invokestatic 54) 3 178 2 1 0, oA (.ifCond .eq 13) 3 55]), (45, [o0 (.aload_n 0) 1, o0 (.iload_n 3) 1, o0 (.iload 5) 2, oM (.invokevirtual 79) 3 283 3 1 6, oA (.ifCond .eq 7) 3 59]), (55, [oV (.iconst 1) 1 1, oA (.goto 4) 3 60]), (59, [oV (.iconst 0) 1 0]), (60, [o0 (.istore 4) 2, oV (.iinc 5 1) 3 1, oA (.goto (-47)) 3 18]), (68, [o0 (.iload 4) 2, oA (.ifCond .eq 5) 3 75]), (73, [o0 (.iload_n 3) 1, oA .ireturn 1 0]), (75, [oV (.iinc 3 1) 3 1, oA (.goto (-76)) 3 2]), (81, [oV (.iconst (-1)) 1 (-1), oA .ireturn 1 0])], [(2, [0, 1, 3]), (18, [0, 1, 3, 4, 5])], 6)
theorem mk_282 : mj_ckM mj_TY mp_5 prog_5_method_11_code 6 (some .int) mt_282 = true := by decide +kernel
-- UnbeatenHouse$People.isAheadForMost(II)Z
def mt_283 : mj_C := ([(0, [oV (.iconst 0) 1 0, o0 (.istore_n 3) 1, oV (.iconst 0) 1 0, o0 (.istore 4) 2]), (5, [o0 (.iload 4) 2, oV (.bipush 6) 2 6, oA (.if_icmp .ge 33) 3 42]), (12, [o0 (.aload_n 0) 1, oF (.getfield 15) 3 5 1 2, o0 (.iload 4) 2, o0 .baload 1, oA (.ifCond .eq 17) 3 36]), (22, [o0 (.aload_n 0) 1, o0 (.iload 4) 2, o0 (.iload_n 1) 1, o0 (.iload_n 2) 1, oM (.invokevirtual 58) 3 284 4 1 6, oA (.ifCond .eq 6) 3 36]), (33, [oV (.iinc 3 1) 3 1]), (36, [oV (.iinc 4 1) 3 1, oA (.goto (-34)) 3 5]), (42, [oV (.iconst 2) 1 2, o0 (.iload_n 3) 1, o0 .imul 1, o0 (.aload_n 0) 1, oF (.getfield 35) 3 5 4 0, oA (.if_icmp .le 7) 3 56]), (52, [oV (.iconst 1) 1 1, oA (.goto 4) 3 57]), (56, [oV (.iconst 0) 1 0]), (57, [oA .ireturn 1 1])], [(5, [0, 1, 2, 3, 4])], 5)
theorem mk_283 : mj_ckM mj_TY mp_5 prog_5_method_8_code 5 (some .boolean) mt_283 = true := by decide +kernel
-- UnbeatenHouse$People.isAhead(III)Z
def mt_284 : mj_C := ([(0, [o0 (.aload_n 0) 1, oF (.getfield 23) 3 5 3 2, o0 (.iload_n 1) 1, oV (.bipush 40) 2 40, o0 .imul 1, o0 (.iload_n 2) 1, o0 .iadd 1, o0 .iaload 1, o0 (.aload_n 0) 1, oF (.getfield 23) 3 5 3 2, o0 (.iload_n 1) 1, oV (.bipush 40) 2 40, o0 .imul 1, o0 (.iload_n 3) 1, o0 .iadd 1, o0 .iaload 1, o0 .isub 1, o0 (.istore 4) 2, o0 (.iload 4) 2, oA (.ifCond .lt 13) 3 40]), (30, [o0 (.iload 4) 2, oA (.ifCond .ne 12) 3 44]), (35, [o0 (.iload_n 2) 1, o0 (.iload_n 3) 1, oA (.if_icmp .ge 7) 3 44]), (40, [oV (.iconst 1) 1 1, oA (.goto 4) 3 45]), (44, [oV (.iconst 0) 1 0]), (45, [oA .ireturn 1 1])], [], 5)
theorem mk_284 : mj_ckM mj_TY mp_5 prog_5_method_6_code 5 (some .boolean) mt_284 = true := by decide +kernel
-- UnbeatenHouse$People.blameOf(IIJ)I
def mt_285 : mj_C := ([(0, [oV (.iconst 0) 1 0, o0 (.istore 5) 2, oV (.iconst 0) 1 0, o0 (.istore 6) 2]), (6, [o0 (.iload 6) 2, oV (.bipush 6) 2 6, oA (.if_icmp .ge 75) 3 85]), (13, [o0 (.aload_n 0) 1, oF (.getfield 15) 3 5 1 2, o0 (.iload 6) 2, o0 .baload 1, oA (.ifCond .eq 59) 3 79]), (23, [o0 (.aload_n 0) 1, o0 (.iload 6) 2, o0 (.iload_n 2) 1, o0 (.lload_n 3) 1, oM (.invokevirtual 70) 3 286 4 1 6, o0 (.istore 7) 2, o0 (.iload_n 1) 1, oA (.ifCond .ne 21) 3 55]), (37, [o0 (.iload 5) 2, o0 (.iload 7) 2, oA (.ifCond .ne 7) 3 48]), (44, [oV (.iconst 1) 1 1, oA (.goto 4) 3 49]), (48, [oV (.iconst 0) 1 0]), (49, [o0 .isub 1, o0 (.istore 5) 2, oA (.goto 27) 3 79]), (55, [o0 (.iload_n 1) 1, oV (.iconst 1) 1 1, oA (.if_icmp .ne 13) 3 70]), (60, [o0 (.iload 5) 2, o0 (.iload 7) 2, o0 .iadd 1, o0 (.istore 5) 2, oA (.goto 12) 3 79]), (70, [o0 (.iload 5) 2, o0 (.iload 7) 2, oM (.invokestatic 73) 3 1 2 1 0, o0 (.istore 5) 2]), (79, [oV (.iinc 6 1) 3 1, oA (.goto (-76)) 3 6]), (85, [o0 (.iload 5) 2, oA .ireturn 1 0])], [(6, [0, 1, 2, 3, 5, 6])], 8)
theorem mk_285 : mj_ckM mj_TY mp_5 prog_5_method_10_code 8 (some .int) mt_285 = true := by decide +kernel
-- UnbeatenHouse$People.rank(IIJ)I
def mt_286 : mj_C := ([(0, [oV (.iconst 0) 1 0, o0 (.istore 5) 2, oV (.iconst 0) 1 0, o0 (.istore 6) 2]), (6, [o0 (.iload 6) 2, oV (.bipush 40) 2 40, oA (.if_icmp .ge 32) 3 42]), (13, [o0 (.lload_n 3) 1, o0 (.iload 6) 2, oM (.invokestatic 54) 3 178 2 1 0, oA (.ifCond .eq 17) 3 36]), (22, [o0 (.aload_n 0) 1, o0 (.iload_n 1) 1, o0 (.iload 6) 2, o0 (.iload_n 2) 1, oM (.invokevirtual 58) 3 284 4 1 6, oA (.ifCond .eq 6) 3 36]), (33, [oV (.iinc 5 1) 3 1]), (36, [oV (.iinc 6 1) 3 1, oA (.goto (-33)) 3 6]), (42, [o0 (.iload 5) 2, oA .ireturn 1 0])], [(6, [0, 1, 2, 3, 5, 6])], 7)
theorem mk_286 : mj_ckM mj_TY mp_5 prog_5_method_7_code 7 (some .int) mt_286 = true := by decide +kernel
-- UnbeatenHouse.breaks(I)I
def mt_287 : mj_C := ([(0, [o0 (.aload_n 0) 1, oF (.getfield 85) 3 1 13 2, o0 (.aload_n 0) 1, oF (.getfield 26) 3 1 3 2, oM (.invokevirtual 339) 3 279 2 1 6, oA (.ifCond .eq 14) 3 25]), (14, [o0 (.aload_n 0) 1, oF (.getfield 85) 3 1 13 2, o0 (.iload_n 1) 1, oM (.invokevirtual 350) 3 288 2 1 6, oA (.goto 4) 3 26]), (25, [oV (.iconst (-1)) 1 (-1)]), (26, [oA .ireturn 1 0])], [], 2)
theorem mk_287 : mj_ckM mj_TY mp_1 prog_1_method_44_code 2 (some .int) mt_287 = true := by decide +kernel
-- UnbeatenHouse$People.broken(I)I
def mt_288 : mj_C := ([(0, [o0 (.aload_n 0) 1, o0 (.iload_n 1) 1, o0 (.aload_n 0) 1, oF (.getfield 32) 3 5 5 1, oM (.invokevirtual 83) 3 281 3 1 6, o0 (.istore_n 2) 1, o0 (.iload_n 2) 1, oV (.iconst (-1)) 1 (-1), oA (.if_icmp .ne 5) 3 17]), (15, [oV (.iconst (-1)) 1 (-1), oA .ireturn 1 0]), (17, [o0 (.aload_n 0) 1, o0 (.aload_n 0) 1, oF (.getfield 32) 3 5 5 1, oM (.invokevirtual 62) 3 282 2 1 6, o0 (.istore_n 3) 1, o0 (.iload_n 3) 1, oV (.iconst (-1)) 1 (-1), oA (.if_icmp .eq 12) 3 40]), (31, [o0 (.iload_n 3) 1, o0 (.iload_n 2) 1, oA (.if_icmp .eq 7) 3 40]), (36, [oV (.iconst 1) 1 1, oA (.goto 4) 3 41]), (40, [oV (.iconst 0) 1 0]), (41, [o0 (.istore 4) 2, o0 (.aload_n 0) 1, o0 (.iload_n 2) 1, oM (.invokevirtual 87) 3 289 2 1 6, oA (.ifCond .eq 6) 3 54]), (51, [oV (.iinc 4 2) 3 2]), (54, [o0 (.aload_n 0) 1, o0 (.iload_n 1) 1, o0 (.aload_n 0) 1, oM (.invokevirtual 91) 3 290 1 2 6, oM (.invokevirtual 83) 3 281 3 1 6, o0 (.iload_n 2) 1, oA (.if_icmp .ne 8) 3 72]), (67, [o0 (.iload 4) 2, oA (.goto 7) 3 76]), (72, [o0 (.iload 4) 2, oV (.iconst 4) 1 4, o0 .iadd 1]), (76, [oA .ireturn 1 0])], [(54, [0, 1, 2, 4])], 5)
theorem mk_288 : mj_ckM mj_TY mp_5 prog_5_method_12_code 5 (some .int) mt_288 = true := by decide +kernel
-- UnbeatenHouse$People.isBehindAll(I)Z
def mt_289 : mj_C := ([(0, [oV (.iconst 0) 1 0, o0 (.istore_n 2) 1]), (2, [o0 (.iload_n 2) 1, oV (.bipush 40) 2 40, oA (.if_icmp .ge 36) 3 41]), (8, [o0 (.iload_n 2) 1, o0 (.iload_n 1) 1, oA (.if_icmp .eq 25) 3 35]), (13, [o0 (.aload_n 0) 1, oF (.getfield 32) 3 5 5 1, o0 (.iload_n 2) 1, oM (.invokestatic 54) 3 178 2 1 0, oA (.ifCond .eq 14) 3 35]), (24, [o0 (.aload_n 0) 1, o0 (.iload_n 2) 1, o0 (.iload_n 1) 1, oM (.invokevirtual 79) 3 283 3 1 6, oA (.ifCond .ne 5) 3 35]), (33, [oV (.iconst 0) 1 0, oA .ireturn 1 1]), (35, [oV (.iinc 2 1) 3 1, oA (.goto (-36)) 3 2]), (41, [o0 (.aload_n 0) 1, oF (.getfield 32) 3 5 5 1, oW (.lconst 1) 1 1, o0 (.iload_n 1) 1, o0 .lshl 1, o0 .lcmp 1, oA (.ifCond .eq 7) 3 56]), (52, [oV (.iconst 1) 1 1, oA (.goto 4) 3 57]), (56, [oV (.iconst 0) 1 0]), (57, [oA .ireturn 1 1])], [(2, [0, 1, 2])], 3)
theorem mk_289 : mj_ckM mj_TY mp_5 prog_5_method_13_code 3 (some .boolean) mt_289 = true := by decide +kernel
-- UnbeatenHouse$People.everFirst()J
def mt_290 : mj_C := ([(0, [oW (.lconst 0) 1 0, o0 (.lstore_n 1) 1, oV (.iconst 0) 1 0, o0 (.istore_n 3) 1]), (4, [o0 (.iload_n 3) 1, oV (.bipush 40) 2 40, oA (.if_icmp .ge 39) 3 46]), (10, [o0 (.aload_n 0) 1, oF (.getfield 32) 3 5 5 1, o0 (.iload_n 3) 1, oM (.invokestatic 54) 3 178 2 1 0, oA (.ifCond .eq 22) 3 40]), (21, [o0 (.aload_n 0) 1, oV (.iconst 0) 1 0, o0 (.iload_n 3) 1, o0 (.aload_n 0) 1, oF (.getfield 32) 3 5 5 1, oM (.invokevirtual 66) 3 285 4 1 6, oA (.ifCond .ge 9) 3 40]), (34, [o0 (.lload_n 1) 1, oW (.lconst 1) 1 1, o0 (.iload_n 3) 1, o0 .lshl 1, o0 .lor 1, o0 (.lstore_n 1) 1]), (40, [oV (.iinc 3 1) 3 1, oA (.goto (-39)) 3 4]), (46, [o0 (.lload_n 1) 1, o0 .lreturn 1])], [(4, [0, 1, 3])], 4)
theorem mk_290 : mj_ckM mj_TY mp_5 prog_5_method_14_code 4 (some .long) mt_290 = true := by decide +kernel
-- UnbeatenHouse.place(II)I
def mt_291 : mj_C := ([(0, [o0 (.iload_n 1) 1, oM (.invokestatic 324) 3 275 1 1 0, oA (.ifCond .eq 55) 3 59]), (7, [o0 (.aload_n 0) 1, oF (.getfield 85) 3 1 13 2, o0 (.aload_n 0) 1, oF (.getfield 26) 3 1 3 2, oM (.invokevirtual 339) 3 279 2 1 6, oA (.ifCond .eq 41) 3 59]), (21, [o0 (.aload_n 0) 1, oF (.getfield 85) 3 1 13 2, oF (.getfield 332) 3 5 1 2, o0 (.iload_n 1) 1, o0 .baload 1, oA (.ifCond .eq 29) 3 59]), (33, [o0 (.aload_n 0) 1, oF (.getfield 10) 3 1 1 2, oV (.iconst 1) 1 1, o0 (.iload_n 2) 1, oM (.invokevirtual 149) 3 192 3 1 12, oA (.ifCond .eq 17) 3 59]), (45, [o0 (.aload_n 0) 1, oF (.getfield 85) 3 1 13 2, oF (.getfield 343) 3 5 5 1, o0 (.iload_n 2) 1, oM (.invokestatic 176) 3 178 2 1 0, oA (.ifCond .ne 5) 3 61]), (59, [oV (.iconst (-1)) 1 (-1), oA .ireturn 1 0]), (61, [o0 (.aload_n 0) 1, oF (.getfield 85) 3 1 13 2, o0 (.iload_n 1) 1, o0 (.iload_n 2) 1, o0 (.aload_n 0) 1, oF (.getfield 85) 3 1 13 2, oF (.getfield 343) 3 5 5 1, oM (.invokevirtual 354) 3 286 4 1 6, oA .ireturn 1 0])], [], 3)
theorem mk_291 : mj_ckM mj_TY mp_1 prog_1_method_45_code 3 (some .int) mt_291 = true := by decide +kernel
end
section
/-! all methods together -/
def mj_TT : List mj_C := [mt_0, mt_1, mt_2, mt_3, mt_4, mt_5, mt_6, mt_7, mt_8, mt_9, mt_10, mt_11, mt_12, mt_13, mt_14, mt_15, mt_16, mt_17, mt_18, mt_19, mt_20, mt_21, mt_22, mt_23, mt_24, mt_25, mt_26, mt_27, mt_28, mt_29, mt_30, mt_31, mt_32, mt_33, mt_34, mt_35, mt_36, mt_37, mt_38, mt_39, mt_40, mt_41, mt_42, mt_43, mt_44, mt_45, mt_46, mt_47, mt_48, mt_49, mt_50, mt_51, mt_52, mt_53, mt_54, mt_55, mt_56, mt_57, mt_58, mt_59, mt_60, mt_61, mt_62, mt_63, mt_64, mt_65, mt_66, mt_67, mt_68, mt_69, mt_70, mt_71, mt_72, mt_73, mt_74, mt_75, mt_76, mt_77, mt_78, mt_79, mt_80, mt_81, mt_82, mt_83, mt_84, mt_85, mt_86, mt_87, mt_88, mt_89, mt_90, mt_91, mt_92, mt_93, mt_94, mt_95, mt_96, mt_97, mt_98, mt_99, mt_100, mt_101, mt_102, mt_103, mt_104, mt_105, mt_106, mt_107, mt_108, mt_109, mt_110, mt_111, mt_112, mt_113, mt_114, mt_115, mt_116, mt_117, mt_118, mt_119, mt_120, mt_121, mt_122, mt_123, mt_124, mt_125, mt_126, mt_127, mt_128, mt_129, mt_130, mt_131, mt_132, mt_133, mt_134, mt_135, mt_136, mt_137, mt_138, mt_139, mt_140, mt_141, mt_142, mt_143, mt_144, mt_145, mt_146, mt_147, mt_148, mt_149, mt_150, mt_151, mt_152, mt_153, mt_154, mt_155, mt_156, mt_157, mt_158, mt_159, mt_160, mt_161, mt_162, mt_163, mt_164, mt_165, mt_166, mt_167, mt_168, mt_169, mt_170, mt_171, mt_172, mt_173, mt_174, mt_175, mt_176, mt_177, mt_178, mt_179, mt_180, mt_181, mt_182, mt_183, mt_184, mt_185, mt_186, mt_187, mt_188, mt_189, mt_190, mt_191, mt_192, mt_193, mt_194, mt_195, mt_196, mt_197, mt_198, mt_199, mt_200, mt_201, mt_202, mt_203, mt_204, mt_205, mt_206, mt_207, mt_208, mt_209, mt_210, mt_211, mt_212, mt_213, mt_214, mt_215, mt_216, mt_217, mt_218, mt_219, mt_220, mt_221, mt_222, mt_223, mt_224, mt_225, mt_226, mt_227, mt_228, mt_229, mt_230, mt_231, mt_232, mt_233, mt_234, mt_235, mt_236, mt_237, mt_238, mt_239, mt_240, mt_241, mt_242, mt_243, mt_244, mt_245, mt_246, mt_247, mt_248, mt_249, mt_250, mt_251, mt_252, mt_253, mt_254, mt_255, mt_256, mt_257, mt_258, mt_259, mt_260, mt_261, mt_262, mt_263, mt_264, mt_265, mt_266, mt_267, mt_268, mt_269, mt_270, mt_271, mt_272, mt_273, mt_274, mt_275, mt_276, mt_277, mt_278, mt_279, mt_280, mt_281, mt_282, mt_283, mt_284, mt_285, mt_286, mt_287, mt_288, mt_289, mt_290, mt_291]
def mj_CD (z : Nat) : mj_C := mj_TT.getD z ([], [], 0)
theorem mo_0 : mj_okM lw_tbl mj_CL mj_TY mj_MS mm_0 mt_0 := mj_ckM_ok mpq_13 my_0 mk_0
theorem mo_1 : mj_okM lw_tbl mj_CL mj_TY mj_MS mm_1 mt_1 := mj_ckM_ok mpq_13 my_1 mk_1
theorem mo_2 : mj_okM lw_tbl mj_CL mj_TY mj_MS mm_2 mt_2 := mj_ckM_ok mpq_15 my_2 mk_2
theorem mo_3 : mj_okM lw_tbl mj_CL mj_TY mj_MS mm_3 mt_3 := mj_ckM_ok mpq_14 my_3 mk_3
theorem mo_4 : mj_okM lw_tbl mj_CL mj_TY mj_MS mm_4 mt_4 := mj_ckM_ok mpq_13 my_4 mk_4
theorem mo_5 : mj_okM lw_tbl mj_CL mj_TY mj_MS mm_5 mt_5 := mj_ckM_ok mpq_13 my_5 mk_5
theorem mo_6 : mj_okM lw_tbl mj_CL mj_TY mj_MS mm_6 mt_6 := mj_ckM_ok mpq_13 my_6 mk_6
theorem mo_7 : mj_okM lw_tbl mj_CL mj_TY mj_MS mm_7 mt_7 := mj_ckM_ok mpq_15 my_7 mk_7
theorem mo_8 : mj_okM lw_tbl mj_CL mj_TY mj_MS mm_8 mt_8 := mj_ckM_ok mpq_14 my_8 mk_8
theorem mo_9 : mj_okM lw_tbl mj_CL mj_TY mj_MS mm_9 mt_9 := mj_ckM_ok mpq_0 my_9 mk_9
theorem mo_10 : mj_okM lw_tbl mj_CL mj_TY mj_MS mm_10 mt_10 := mj_ckM_ok mpq_0 my_10 mk_10
theorem mo_11 : mj_okM lw_tbl mj_CL mj_TY mj_MS mm_11 mt_11 := mj_ckM_ok mpq_0 my_11 mk_11
theorem mo_12 : mj_okM lw_tbl mj_CL mj_TY mj_MS mm_12 mt_12 := mj_ckM_ok mpq_0 my_12 mk_12
theorem mo_13 : mj_okM lw_tbl mj_CL mj_TY mj_MS mm_13 mt_13 := mj_ckM_ok mpq_0 my_13 mk_13
theorem mo_14 : mj_okM lw_tbl mj_CL mj_TY mj_MS mm_14 mt_14 := mj_ckM_ok mpq_0 my_14 mk_14
theorem mo_15 : mj_okM lw_tbl mj_CL mj_TY mj_MS mm_15 mt_15 := mj_ckM_ok mpq_0 my_15 mk_15
theorem mo_16 : mj_okM lw_tbl mj_CL mj_TY mj_MS mm_16 mt_16 := mj_ckM_ok mpq_0 my_16 mk_16
theorem mo_17 : mj_okM lw_tbl mj_CL mj_TY mj_MS mm_17 mt_17 := mj_ckM_ok mpq_0 my_17 mk_17
theorem mo_18 : mj_okM lw_tbl mj_CL mj_TY mj_MS mm_18 mt_18 := mj_ckM_ok mpq_0 my_18 mk_18
theorem mo_19 : mj_okM lw_tbl mj_CL mj_TY mj_MS mm_19 mt_19 := mj_ckM_ok mpq_0 my_19 mk_19
theorem mo_20 : mj_okM lw_tbl mj_CL mj_TY mj_MS mm_20 mt_20 := mj_ckM_ok mpq_0 my_20 mk_20
theorem mo_21 : mj_okM lw_tbl mj_CL mj_TY mj_MS mm_21 mt_21 := mj_ckM_ok mpq_0 my_21 mk_21
theorem mo_22 : mj_okM lw_tbl mj_CL mj_TY mj_MS mm_22 mt_22 := mj_ckM_ok mpq_0 my_22 mk_22
theorem mo_23 : mj_okM lw_tbl mj_CL mj_TY mj_MS mm_23 mt_23 := mj_ckM_ok mpq_0 my_23 mk_23
theorem mo_24 : mj_okM lw_tbl mj_CL mj_TY mj_MS mm_24 mt_24 := mj_ckM_ok mpq_0 my_24 mk_24
theorem mo_25 : mj_okM lw_tbl mj_CL mj_TY mj_MS mm_25 mt_25 := mj_ckM_ok mpq_0 my_25 mk_25
theorem mo_26 : mj_okM lw_tbl mj_CL mj_TY mj_MS mm_26 mt_26 := mj_ckM_ok mpq_0 my_26 mk_26
theorem mo_27 : mj_okM lw_tbl mj_CL mj_TY mj_MS mm_27 mt_27 := mj_ckM_ok mpq_0 my_27 mk_27
theorem mo_28 : mj_okM lw_tbl mj_CL mj_TY mj_MS mm_28 mt_28 := mj_ckM_ok mpq_0 my_28 mk_28
theorem mo_29 : mj_okM lw_tbl mj_CL mj_TY mj_MS mm_29 mt_29 := mj_ckM_ok mpq_0 my_29 mk_29
theorem mo_30 : mj_okM lw_tbl mj_CL mj_TY mj_MS mm_30 mt_30 := mj_ckM_ok mpq_0 my_30 mk_30
theorem mo_31 : mj_okM lw_tbl mj_CL mj_TY mj_MS mm_31 mt_31 := mj_ckM_ok mpq_0 my_31 mk_31
theorem mo_32 : mj_okM lw_tbl mj_CL mj_TY mj_MS mm_32 mt_32 := mj_ckM_ok mpq_0 my_32 mk_32
theorem mo_33 : mj_okM lw_tbl mj_CL mj_TY mj_MS mm_33 mt_33 := mj_ckM_ok mpq_0 my_33 mk_33
theorem mo_34 : mj_okM lw_tbl mj_CL mj_TY mj_MS mm_34 mt_34 := mj_ckM_ok mpq_0 my_34 mk_34
theorem mo_35 : mj_okM lw_tbl mj_CL mj_TY mj_MS mm_35 mt_35 := mj_ckM_ok mpq_0 my_35 mk_35
theorem mo_36 : mj_okM lw_tbl mj_CL mj_TY mj_MS mm_36 mt_36 := mj_ckM_ok mpq_0 my_36 mk_36
theorem mo_37 : mj_okM lw_tbl mj_CL mj_TY mj_MS mm_37 mt_37 := mj_ckM_ok mpq_0 my_37 mk_37
theorem mo_38 : mj_okM lw_tbl mj_CL mj_TY mj_MS mm_38 mt_38 := mj_ckM_ok mpq_0 my_38 mk_38
theorem mo_39 : mj_okM lw_tbl mj_CL mj_TY mj_MS mm_39 mt_39 := mj_ckM_ok mpq_0 my_39 mk_39
theorem mo_40 : mj_okM lw_tbl mj_CL mj_TY mj_MS mm_40 mt_40 := mj_ckM_ok mpq_0 my_40 mk_40
theorem mo_41 : mj_okM lw_tbl mj_CL mj_TY mj_MS mm_41 mt_41 := mj_ckM_ok mpq_0 my_41 mk_41
theorem mo_42 : mj_okM lw_tbl mj_CL mj_TY mj_MS mm_42 mt_42 := mj_ckM_ok mpq_0 my_42 mk_42
theorem mo_43 : mj_okM lw_tbl mj_CL mj_TY mj_MS mm_43 mt_43 := mj_ckM_ok mpq_0 my_43 mk_43
theorem mo_44 : mj_okM lw_tbl mj_CL mj_TY mj_MS mm_44 mt_44 := mj_ckM_ok mpq_0 my_44 mk_44
theorem mo_45 : mj_okM lw_tbl mj_CL mj_TY mj_MS mm_45 mt_45 := mj_ckM_ok mpq_0 my_45 mk_45
theorem mo_46 : mj_okM lw_tbl mj_CL mj_TY mj_MS mm_46 mt_46 := mj_ckM_ok mpq_0 my_46 mk_46
theorem mo_47 : mj_okM lw_tbl mj_CL mj_TY mj_MS mm_47 mt_47 := mj_ckM_ok mpq_0 my_47 mk_47
theorem mo_48 : mj_okM lw_tbl mj_CL mj_TY mj_MS mm_48 mt_48 := mj_ckM_ok mpq_0 my_48 mk_48
theorem mo_49 : mj_okM lw_tbl mj_CL mj_TY mj_MS mm_49 mt_49 := mj_ckM_ok mpq_0 my_49 mk_49
theorem mo_50 : mj_okM lw_tbl mj_CL mj_TY mj_MS mm_50 mt_50 := mj_ckM_ok mpq_0 my_50 mk_50
theorem mo_51 : mj_okM lw_tbl mj_CL mj_TY mj_MS mm_51 mt_51 := mj_ckM_ok mpq_0 my_51 mk_51
theorem mo_52 : mj_okM lw_tbl mj_CL mj_TY mj_MS mm_52 mt_52 := mj_ckM_ok mpq_0 my_52 mk_52
theorem mo_53 : mj_okM lw_tbl mj_CL mj_TY mj_MS mm_53 mt_53 := mj_ckM_ok mpq_0 my_53 mk_53
theorem mo_54 : mj_okM lw_tbl mj_CL mj_TY mj_MS mm_54 mt_54 := mj_ckM_ok mpq_0 my_54 mk_54
theorem mo_55 : mj_okM lw_tbl mj_CL mj_TY mj_MS mm_55 mt_55 := mj_ckM_ok mpq_0 my_55 mk_55
theorem mo_56 : mj_okM lw_tbl mj_CL mj_TY mj_MS mm_56 mt_56 := mj_ckM_ok mpq_0 my_56 mk_56
theorem mo_57 : mj_okM lw_tbl mj_CL mj_TY mj_MS mm_57 mt_57 := mj_ckM_ok mpq_0 my_57 mk_57
theorem mo_58 : mj_okM lw_tbl mj_CL mj_TY mj_MS mm_58 mt_58 := mj_ckM_ok mpq_0 my_58 mk_58
theorem mo_59 : mj_okM lw_tbl mj_CL mj_TY mj_MS mm_59 mt_59 := mj_ckM_ok mpq_0 my_59 mk_59
theorem mo_60 : mj_okM lw_tbl mj_CL mj_TY mj_MS mm_60 mt_60 := mj_ckM_ok mpq_0 my_60 mk_60
theorem mo_61 : mj_okM lw_tbl mj_CL mj_TY mj_MS mm_61 mt_61 := mj_ckM_ok mpq_0 my_61 mk_61
theorem mo_62 : mj_okM lw_tbl mj_CL mj_TY mj_MS mm_62 mt_62 := mj_ckM_ok mpq_0 my_62 mk_62
theorem mo_63 : mj_okM lw_tbl mj_CL mj_TY mj_MS mm_63 mt_63 := mj_ckM_ok mpq_0 my_63 mk_63
theorem mo_64 : mj_okM lw_tbl mj_CL mj_TY mj_MS mm_64 mt_64 := mj_ckM_ok mpq_0 my_64 mk_64
theorem mo_65 : mj_okM lw_tbl mj_CL mj_TY mj_MS mm_65 mt_65 := mj_ckM_ok mpq_0 my_65 mk_65
theorem mo_66 : mj_okM lw_tbl mj_CL mj_TY mj_MS mm_66 mt_66 := mj_ckM_ok mpq_0 my_66 mk_66
theorem mo_67 : mj_okM lw_tbl mj_CL mj_TY mj_MS mm_67 mt_67 := mj_ckM_ok mpq_0 my_67 mk_67
theorem mo_68 : mj_okM lw_tbl mj_CL mj_TY mj_MS mm_68 mt_68 := mj_ckM_ok mpq_0 my_68 mk_68
theorem mo_69 : mj_okM lw_tbl mj_CL mj_TY mj_MS mm_69 mt_69 := mj_ckM_ok mpq_0 my_69 mk_69
theorem mo_70 : mj_okM lw_tbl mj_CL mj_TY mj_MS mm_70 mt_70 := mj_ckM_ok mpq_0 my_70 mk_70
theorem mo_71 : mj_okM lw_tbl mj_CL mj_TY mj_MS mm_71 mt_71 := mj_ckM_ok mpq_0 my_71 mk_71
theorem mo_72 : mj_okM lw_tbl mj_CL mj_TY mj_MS mm_72 mt_72 := mj_ckM_ok mpq_0 my_72 mk_72
theorem mo_73 : mj_okM lw_tbl mj_CL mj_TY mj_MS mm_73 mt_73 := mj_ckM_ok mpq_0 my_73 mk_73
theorem mo_74 : mj_okM lw_tbl mj_CL mj_TY mj_MS mm_74 mt_74 := mj_ckM_ok mpq_0 my_74 mk_74
theorem mo_75 : mj_okM lw_tbl mj_CL mj_TY mj_MS mm_75 mt_75 := mj_ckM_ok mpq_0 my_75 mk_75
theorem mo_76 : mj_okM lw_tbl mj_CL mj_TY mj_MS mm_76 mt_76 := mj_ckM_ok mpq_0 my_76 mk_76
theorem mo_77 : mj_okM lw_tbl mj_CL mj_TY mj_MS mm_77 mt_77 := mj_ckM_ok mpq_0 my_77 mk_77
theorem mo_78 : mj_okM lw_tbl mj_CL mj_TY mj_MS mm_78 mt_78 := mj_ckM_ok mpq_0 my_78 mk_78
theorem mo_79 : mj_okM lw_tbl mj_CL mj_TY mj_MS mm_79 mt_79 := mj_ckM_ok mpq_0 my_79 mk_79
theorem mo_80 : mj_okM lw_tbl mj_CL mj_TY mj_MS mm_80 mt_80 := mj_ckM_ok mpq_0 my_80 mk_80
theorem mo_81 : mj_okM lw_tbl mj_CL mj_TY mj_MS mm_81 mt_81 := mj_ckM_ok mpq_0 my_81 mk_81
theorem mo_82 : mj_okM lw_tbl mj_CL mj_TY mj_MS mm_82 mt_82 := mj_ckM_ok mpq_0 my_82 mk_82
theorem mo_83 : mj_okM lw_tbl mj_CL mj_TY mj_MS mm_83 mt_83 := mj_ckM_ok mpq_0 my_83 mk_83
theorem mo_84 : mj_okM lw_tbl mj_CL mj_TY mj_MS mm_84 mt_84 := mj_ckM_ok mpq_0 my_84 mk_84
theorem mo_85 : mj_okM lw_tbl mj_CL mj_TY mj_MS mm_85 mt_85 := mj_ckM_ok mpq_0 my_85 mk_85
theorem mo_86 : mj_okM lw_tbl mj_CL mj_TY mj_MS mm_86 mt_86 := mj_ckM_ok mpq_0 my_86 mk_86
theorem mo_87 : mj_okM lw_tbl mj_CL mj_TY mj_MS mm_87 mt_87 := mj_ckM_ok mpq_0 my_87 mk_87
theorem mo_88 : mj_okM lw_tbl mj_CL mj_TY mj_MS mm_88 mt_88 := mj_ckM_ok mpq_0 my_88 mk_88
theorem mo_89 : mj_okM lw_tbl mj_CL mj_TY mj_MS mm_89 mt_89 := mj_ckM_ok mpq_0 my_89 mk_89
theorem mo_90 : mj_okM lw_tbl mj_CL mj_TY mj_MS mm_90 mt_90 := mj_ckM_ok mpq_0 my_90 mk_90
theorem mo_91 : mj_okM lw_tbl mj_CL mj_TY mj_MS mm_91 mt_91 := mj_ckM_ok mpq_0 my_91 mk_91
theorem mo_92 : mj_okM lw_tbl mj_CL mj_TY mj_MS mm_92 mt_92 := mj_ckM_ok mpq_0 my_92 mk_92
theorem mo_93 : mj_okM lw_tbl mj_CL mj_TY mj_MS mm_93 mt_93 := mj_ckM_ok mpq_0 my_93 mk_93
theorem mo_94 : mj_okM lw_tbl mj_CL mj_TY mj_MS mm_94 mt_94 := mj_ckM_ok mpq_0 my_94 mk_94
theorem mo_95 : mj_okM lw_tbl mj_CL mj_TY mj_MS mm_95 mt_95 := mj_ckM_ok mpq_0 my_95 mk_95
theorem mo_96 : mj_okM lw_tbl mj_CL mj_TY mj_MS mm_96 mt_96 := mj_ckM_ok mpq_0 my_96 mk_96
theorem mo_97 : mj_okM lw_tbl mj_CL mj_TY mj_MS mm_97 mt_97 := mj_ckM_ok mpq_0 my_97 mk_97
theorem mo_98 : mj_okM lw_tbl mj_CL mj_TY mj_MS mm_98 mt_98 := mj_ckM_ok mpq_0 my_98 mk_98
theorem mo_99 : mj_okM lw_tbl mj_CL mj_TY mj_MS mm_99 mt_99 := mj_ckM_ok mpq_0 my_99 mk_99
theorem mo_100 : mj_okM lw_tbl mj_CL mj_TY mj_MS mm_100 mt_100 := mj_ckM_ok mpq_0 my_100 mk_100
theorem mo_101 : mj_okM lw_tbl mj_CL mj_TY mj_MS mm_101 mt_101 := mj_ckM_ok mpq_0 my_101 mk_101
theorem mo_102 : mj_okM lw_tbl mj_CL mj_TY mj_MS mm_102 mt_102 := mj_ckM_ok mpq_0 my_102 mk_102
theorem mo_103 : mj_okM lw_tbl mj_CL mj_TY mj_MS mm_103 mt_103 := mj_ckM_ok mpq_0 my_103 mk_103
theorem mo_104 : mj_okM lw_tbl mj_CL mj_TY mj_MS mm_104 mt_104 := mj_ckM_ok mpq_0 my_104 mk_104
theorem mo_105 : mj_okM lw_tbl mj_CL mj_TY mj_MS mm_105 mt_105 := mj_ckM_ok mpq_0 my_105 mk_105
theorem mo_106 : mj_okM lw_tbl mj_CL mj_TY mj_MS mm_106 mt_106 := mj_ckM_ok mpq_0 my_106 mk_106
theorem mo_107 : mj_okM lw_tbl mj_CL mj_TY mj_MS mm_107 mt_107 := mj_ckM_ok mpq_0 my_107 mk_107
theorem mo_108 : mj_okM lw_tbl mj_CL mj_TY mj_MS mm_108 mt_108 := mj_ckM_ok mpq_0 my_108 mk_108
theorem mo_109 : mj_okM lw_tbl mj_CL mj_TY mj_MS mm_109 mt_109 := mj_ckM_ok mpq_0 my_109 mk_109
theorem mo_110 : mj_okM lw_tbl mj_CL mj_TY mj_MS mm_110 mt_110 := mj_ckM_ok mpq_0 my_110 mk_110
theorem mo_111 : mj_okM lw_tbl mj_CL mj_TY mj_MS mm_111 mt_111 := mj_ckM_ok mpq_0 my_111 mk_111
theorem mo_112 : mj_okM lw_tbl mj_CL mj_TY mj_MS mm_112 mt_112 := mj_ckM_ok mpq_0 my_112 mk_112
theorem mo_113 : mj_okM lw_tbl mj_CL mj_TY mj_MS mm_113 mt_113 := mj_ckM_ok mpq_0 my_113 mk_113
theorem mo_114 : mj_okM lw_tbl mj_CL mj_TY mj_MS mm_114 mt_114 := mj_ckM_ok mpq_0 my_114 mk_114
theorem mo_115 : mj_okM lw_tbl mj_CL mj_TY mj_MS mm_115 mt_115 := mj_ckM_ok mpq_0 my_115 mk_115
theorem mo_116 : mj_okM lw_tbl mj_CL mj_TY mj_MS mm_116 mt_116 := mj_ckM_ok mpq_0 my_116 mk_116
theorem mo_117 : mj_okM lw_tbl mj_CL mj_TY mj_MS mm_117 mt_117 := mj_ckM_ok mpq_0 my_117 mk_117
theorem mo_118 : mj_okM lw_tbl mj_CL mj_TY mj_MS mm_118 mt_118 := mj_ckM_ok mpq_0 my_118 mk_118
theorem mo_119 : mj_okM lw_tbl mj_CL mj_TY mj_MS mm_119 mt_119 := mj_ckM_ok mpq_0 my_119 mk_119
theorem mo_120 : mj_okM lw_tbl mj_CL mj_TY mj_MS mm_120 mt_120 := mj_ckM_ok mpq_0 my_120 mk_120
theorem mo_121 : mj_okM lw_tbl mj_CL mj_TY mj_MS mm_121 mt_121 := mj_ckM_ok mpq_0 my_121 mk_121
theorem mo_122 : mj_okM lw_tbl mj_CL mj_TY mj_MS mm_122 mt_122 := mj_ckM_ok mpq_0 my_122 mk_122
theorem mo_123 : mj_okM lw_tbl mj_CL mj_TY mj_MS mm_123 mt_123 := mj_ckM_ok mpq_0 my_123 mk_123
theorem mo_124 : mj_okM lw_tbl mj_CL mj_TY mj_MS mm_124 mt_124 := mj_ckM_ok mpq_0 my_124 mk_124
theorem mo_125 : mj_okM lw_tbl mj_CL mj_TY mj_MS mm_125 mt_125 := mj_ckM_ok mpq_0 my_125 mk_125
theorem mo_126 : mj_okM lw_tbl mj_CL mj_TY mj_MS mm_126 mt_126 := mj_ckM_ok mpq_0 my_126 mk_126
theorem mo_127 : mj_okM lw_tbl mj_CL mj_TY mj_MS mm_127 mt_127 := mj_ckM_ok mpq_0 my_127 mk_127
theorem mo_128 : mj_okM lw_tbl mj_CL mj_TY mj_MS mm_128 mt_128 := mj_ckM_ok mpq_0 my_128 mk_128
theorem mo_129 : mj_okM lw_tbl mj_CL mj_TY mj_MS mm_129 mt_129 := mj_ckM_ok mpq_0 my_129 mk_129
theorem mo_130 : mj_okM lw_tbl mj_CL mj_TY mj_MS mm_130 mt_130 := mj_ckM_ok mpq_0 my_130 mk_130
theorem mo_131 : mj_okM lw_tbl mj_CL mj_TY mj_MS mm_131 mt_131 := mj_ckM_ok mpq_0 my_131 mk_131
theorem mo_132 : mj_okM lw_tbl mj_CL mj_TY mj_MS mm_132 mt_132 := mj_ckM_ok mpq_0 my_132 mk_132
theorem mo_133 : mj_okM lw_tbl mj_CL mj_TY mj_MS mm_133 mt_133 := mj_ckM_ok mpq_1 my_133 mk_133
theorem mo_134 : mj_okM lw_tbl mj_CL mj_TY mj_MS mm_134 mt_134 := mj_ckM_ok mpq_1 my_134 mk_134
theorem mo_135 : mj_okM lw_tbl mj_CL mj_TY mj_MS mm_135 mt_135 := mj_ckM_ok mpq_1 my_135 mk_135
theorem mo_136 : mj_okM lw_tbl mj_CL mj_TY mj_MS mm_136 mt_136 := mj_ckM_ok mpq_1 my_136 mk_136
theorem mo_137 : mj_okM lw_tbl mj_CL mj_TY mj_MS mm_137 mt_137 := mj_ckM_ok mpq_8 my_137 mk_137
theorem mo_138 : mj_okM lw_tbl mj_CL mj_TY mj_MS mm_138 mt_138 := mj_ckM_ok mpq_11 my_138 mk_138
theorem mo_139 : mj_okM lw_tbl mj_CL mj_TY mj_MS mm_139 mt_139 := mj_ckM_ok mpq_8 my_139 mk_139
theorem mo_140 : mj_okM lw_tbl mj_CL mj_TY mj_MS mm_140 mt_140 := mj_ckM_ok mpq_8 my_140 mk_140
theorem mo_141 : mj_okM lw_tbl mj_CL mj_TY mj_MS mm_141 mt_141 := mj_ckM_ok mpq_8 my_141 mk_141
theorem mo_142 : mj_okM lw_tbl mj_CL mj_TY mj_MS mm_142 mt_142 := mj_ckM_ok mpq_8 my_142 mk_142
theorem mo_143 : mj_okM lw_tbl mj_CL mj_TY mj_MS mm_143 mt_143 := mj_ckM_ok mpq_8 my_143 mk_143
theorem mo_144 : mj_okM lw_tbl mj_CL mj_TY mj_MS mm_144 mt_144 := mj_ckM_ok mpq_8 my_144 mk_144
theorem mo_145 : mj_okM lw_tbl mj_CL mj_TY mj_MS mm_145 mt_145 := mj_ckM_ok mpq_8 my_145 mk_145
theorem mo_146 : mj_okM lw_tbl mj_CL mj_TY mj_MS mm_146 mt_146 := mj_ckM_ok mpq_8 my_146 mk_146
theorem mo_147 : mj_okM lw_tbl mj_CL mj_TY mj_MS mm_147 mt_147 := mj_ckM_ok mpq_8 my_147 mk_147
theorem mo_148 : mj_okM lw_tbl mj_CL mj_TY mj_MS mm_148 mt_148 := mj_ckM_ok mpq_11 my_148 mk_148
theorem mo_149 : mj_okM lw_tbl mj_CL mj_TY mj_MS mm_149 mt_149 := mj_ckM_ok mpq_11 my_149 mk_149
theorem mo_150 : mj_okM lw_tbl mj_CL mj_TY mj_MS mm_150 mt_150 := mj_ckM_ok mpq_11 my_150 mk_150
theorem mo_151 : mj_okM lw_tbl mj_CL mj_TY mj_MS mm_151 mt_151 := mj_ckM_ok mpq_8 my_151 mk_151
theorem mo_152 : mj_okM lw_tbl mj_CL mj_TY mj_MS mm_152 mt_152 := mj_ckM_ok mpq_8 my_152 mk_152
theorem mo_153 : mj_okM lw_tbl mj_CL mj_TY mj_MS mm_153 mt_153 := mj_ckM_ok mpq_8 my_153 mk_153
theorem mo_154 : mj_okM lw_tbl mj_CL mj_TY mj_MS mm_154 mt_154 := mj_ckM_ok mpq_11 my_154 mk_154
theorem mo_155 : mj_okM lw_tbl mj_CL mj_TY mj_MS mm_155 mt_155 := mj_ckM_ok mpq_8 my_155 mk_155
theorem mo_156 : mj_okM lw_tbl mj_CL mj_TY mj_MS mm_156 mt_156 := mj_ckM_ok mpq_8 my_156 mk_156
theorem mo_157 : mj_okM lw_tbl mj_CL mj_TY mj_MS mm_157 mt_157 := mj_ckM_ok mpq_8 my_157 mk_157
theorem mo_158 : mj_okM lw_tbl mj_CL mj_TY mj_MS mm_158 mt_158 := mj_ckM_ok mpq_8 my_158 mk_158
theorem mo_159 : mj_okM lw_tbl mj_CL mj_TY mj_MS mm_159 mt_159 := mj_ckM_ok mpq_8 my_159 mk_159
theorem mo_160 : mj_okM lw_tbl mj_CL mj_TY mj_MS mm_160 mt_160 := mj_ckM_ok mpq_8 my_160 mk_160
theorem mo_161 : mj_okM lw_tbl mj_CL mj_TY mj_MS mm_161 mt_161 := mj_ckM_ok mpq_8 my_161 mk_161
theorem mo_162 : mj_okM lw_tbl mj_CL mj_TY mj_MS mm_162 mt_162 := mj_ckM_ok mpq_8 my_162 mk_162
theorem mo_163 : mj_okM lw_tbl mj_CL mj_TY mj_MS mm_163 mt_163 := mj_ckM_ok mpq_8 my_163 mk_163
theorem mo_164 : mj_okM lw_tbl mj_CL mj_TY mj_MS mm_164 mt_164 := mj_ckM_ok mpq_11 my_164 mk_164
theorem mo_165 : mj_okM lw_tbl mj_CL mj_TY mj_MS mm_165 mt_165 := mj_ckM_ok mpq_8 my_165 mk_165
theorem mo_166 : mj_okM lw_tbl mj_CL mj_TY mj_MS mm_166 mt_166 := mj_ckM_ok mpq_8 my_166 mk_166
theorem mo_167 : mj_okM lw_tbl mj_CL mj_TY mj_MS mm_167 mt_167 := mj_ckM_ok mpq_8 my_167 mk_167
theorem mo_168 : mj_okM lw_tbl mj_CL mj_TY mj_MS mm_168 mt_168 := mj_ckM_ok mpq_8 my_168 mk_168
theorem mo_169 : mj_okM lw_tbl mj_CL mj_TY mj_MS mm_169 mt_169 := mj_ckM_ok mpq_8 my_169 mk_169
theorem mo_170 : mj_okM lw_tbl mj_CL mj_TY mj_MS mm_170 mt_170 := mj_ckM_ok mpq_8 my_170 mk_170
theorem mo_171 : mj_okM lw_tbl mj_CL mj_TY mj_MS mm_171 mt_171 := mj_ckM_ok mpq_8 my_171 mk_171
theorem mo_172 : mj_okM lw_tbl mj_CL mj_TY mj_MS mm_172 mt_172 := mj_ckM_ok mpq_8 my_172 mk_172
theorem mo_173 : mj_okM lw_tbl mj_CL mj_TY mj_MS mm_173 mt_173 := mj_ckM_ok mpq_9 my_173 mk_173
theorem mo_174 : mj_okM lw_tbl mj_CL mj_TY mj_MS mm_174 mt_174 := mj_ckM_ok mpq_9 my_174 mk_174
theorem mo_175 : mj_okM lw_tbl mj_CL mj_TY mj_MS mm_175 mt_175 := mj_ckM_ok mpq_11 my_175 mk_175
theorem mo_176 : mj_okM lw_tbl mj_CL mj_TY mj_MS mm_176 mt_176 := mj_ckM_ok mpq_9 my_176 mk_176
theorem mo_177 : mj_okM lw_tbl mj_CL mj_TY mj_MS mm_177 mt_177 := mj_ckM_ok mpq_9 my_177 mk_177
theorem mo_178 : mj_okM lw_tbl mj_CL mj_TY mj_MS mm_178 mt_178 := mj_ckM_ok mpq_1 my_178 mk_178
theorem mo_179 : mj_okM lw_tbl mj_CL mj_TY mj_MS mm_179 mt_179 := mj_ckM_ok mpq_9 my_179 mk_179
theorem mo_180 : mj_okM lw_tbl mj_CL mj_TY mj_MS mm_180 mt_180 := mj_ckM_ok mpq_1 my_180 mk_180
theorem mo_181 : mj_okM lw_tbl mj_CL mj_TY mj_MS mm_181 mt_181 := mj_ckM_ok mpq_2 my_181 mk_181
theorem mo_182 : mj_okM lw_tbl mj_CL mj_TY mj_MS mm_182 mt_182 := mj_ckM_ok mpq_2 my_182 mk_182
theorem mo_183 : mj_okM lw_tbl mj_CL mj_TY mj_MS mm_183 mt_183 := mj_ckM_ok mpq_6 my_183 mk_183
theorem mo_184 : mj_okM lw_tbl mj_CL mj_TY mj_MS mm_184 mt_184 := mj_ckM_ok mpq_10 my_184 mk_184
theorem mo_185 : mj_okM lw_tbl mj_CL mj_TY mj_MS mm_185 mt_185 := mj_ckM_ok mpq_5 my_185 mk_185
theorem mo_186 : mj_okM lw_tbl mj_CL mj_TY mj_MS mm_186 mt_186 := mj_ckM_ok mpq_12 my_186 mk_186
theorem mo_187 : mj_okM lw_tbl mj_CL mj_TY mj_MS mm_187 mt_187 := mj_ckM_ok mpq_12 my_187 mk_187
theorem mo_188 : mj_okM lw_tbl mj_CL mj_TY mj_MS mm_188 mt_188 := mj_ckM_ok mpq_12 my_188 mk_188
theorem mo_189 : mj_okM lw_tbl mj_CL mj_TY mj_MS mm_189 mt_189 := mj_ckM_ok mpq_1 my_189 mk_189
theorem mo_190 : mj_okM lw_tbl mj_CL mj_TY mj_MS mm_190 mt_190 := mj_ckM_ok mpq_1 my_190 mk_190
theorem mo_191 : mj_okM lw_tbl mj_CL mj_TY mj_MS mm_191 mt_191 := mj_ckM_ok mpq_1 my_191 mk_191
theorem mo_192 : mj_okM lw_tbl mj_CL mj_TY mj_MS mm_192 mt_192 := mj_ckM_ok mpq_11 my_192 mk_192
theorem mo_193 : mj_okM lw_tbl mj_CL mj_TY mj_MS mm_193 mt_193 := mj_ckM_ok mpq_1 my_193 mk_193
theorem mo_194 : mj_okM lw_tbl mj_CL mj_TY mj_MS mm_194 mt_194 := mj_ckM_ok mpq_1 my_194 mk_194
theorem mo_195 : mj_okM lw_tbl mj_CL mj_TY mj_MS mm_195 mt_195 := mj_ckM_ok mpq_1 my_195 mk_195
theorem mo_196 : mj_okM lw_tbl mj_CL mj_TY mj_MS mm_196 mt_196 := mj_ckM_ok mpq_9 my_196 mk_196
theorem mo_197 : mj_okM lw_tbl mj_CL mj_TY mj_MS mm_197 mt_197 := mj_ckM_ok mpq_1 my_197 mk_197
theorem mo_198 : mj_okM lw_tbl mj_CL mj_TY mj_MS mm_198 mt_198 := mj_ckM_ok mpq_1 my_198 mk_198
theorem mo_199 : mj_okM lw_tbl mj_CL mj_TY mj_MS mm_199 mt_199 := mj_ckM_ok mpq_1 my_199 mk_199
theorem mo_200 : mj_okM lw_tbl mj_CL mj_TY mj_MS mm_200 mt_200 := mj_ckM_ok mpq_1 my_200 mk_200
theorem mo_201 : mj_okM lw_tbl mj_CL mj_TY mj_MS mm_201 mt_201 := mj_ckM_ok mpq_1 my_201 mk_201
theorem mo_202 : mj_okM lw_tbl mj_CL mj_TY mj_MS mm_202 mt_202 := mj_ckM_ok mpq_1 my_202 mk_202
theorem mo_203 : mj_okM lw_tbl mj_CL mj_TY mj_MS mm_203 mt_203 := mj_ckM_ok mpq_1 my_203 mk_203
theorem mo_204 : mj_okM lw_tbl mj_CL mj_TY mj_MS mm_204 mt_204 := mj_ckM_ok mpq_9 my_204 mk_204
theorem mo_205 : mj_okM lw_tbl mj_CL mj_TY mj_MS mm_205 mt_205 := mj_ckM_ok mpq_2 my_205 mk_205
theorem mo_206 : mj_okM lw_tbl mj_CL mj_TY mj_MS mm_206 mt_206 := mj_ckM_ok mpq_1 my_206 mk_206
theorem mo_207 : mj_okM lw_tbl mj_CL mj_TY mj_MS mm_207 mt_207 := mj_ckM_ok mpq_3 my_207 mk_207
theorem mo_208 : mj_okM lw_tbl mj_CL mj_TY mj_MS mm_208 mt_208 := mj_ckM_ok mpq_7 my_208 mk_208
theorem mo_209 : mj_okM lw_tbl mj_CL mj_TY mj_MS mm_209 mt_209 := mj_ckM_ok mpq_3 my_209 mk_209
theorem mo_210 : mj_okM lw_tbl mj_CL mj_TY mj_MS mm_210 mt_210 := mj_ckM_ok mpq_3 my_210 mk_210
theorem mo_211 : mj_okM lw_tbl mj_CL mj_TY mj_MS mm_211 mt_211 := mj_ckM_ok mpq_7 my_211 mk_211
theorem mo_212 : mj_okM lw_tbl mj_CL mj_TY mj_MS mm_212 mt_212 := mj_ckM_ok mpq_3 my_212 mk_212
theorem mo_213 : mj_okM lw_tbl mj_CL mj_TY mj_MS mm_213 mt_213 := mj_ckM_ok mpq_7 my_213 mk_213
theorem mo_214 : mj_okM lw_tbl mj_CL mj_TY mj_MS mm_214 mt_214 := mj_ckM_ok mpq_7 my_214 mk_214
theorem mo_215 : mj_okM lw_tbl mj_CL mj_TY mj_MS mm_215 mt_215 := mj_ckM_ok mpq_7 my_215 mk_215
theorem mo_216 : mj_okM lw_tbl mj_CL mj_TY mj_MS mm_216 mt_216 := mj_ckM_ok mpq_7 my_216 mk_216
theorem mo_217 : mj_okM lw_tbl mj_CL mj_TY mj_MS mm_217 mt_217 := mj_ckM_ok mpq_7 my_217 mk_217
theorem mo_218 : mj_okM lw_tbl mj_CL mj_TY mj_MS mm_218 mt_218 := mj_ckM_ok mpq_2 my_218 mk_218
theorem mo_219 : mj_okM lw_tbl mj_CL mj_TY mj_MS mm_219 mt_219 := mj_ckM_ok mpq_2 my_219 mk_219
theorem mo_220 : mj_okM lw_tbl mj_CL mj_TY mj_MS mm_220 mt_220 := mj_ckM_ok mpq_1 my_220 mk_220
theorem mo_221 : mj_okM lw_tbl mj_CL mj_TY mj_MS mm_221 mt_221 := mj_ckM_ok mpq_3 my_221 mk_221
theorem mo_222 : mj_okM lw_tbl mj_CL mj_TY mj_MS mm_222 mt_222 := mj_ckM_ok mpq_3 my_222 mk_222
theorem mo_223 : mj_okM lw_tbl mj_CL mj_TY mj_MS mm_223 mt_223 := mj_ckM_ok mpq_4 my_223 mk_223
theorem mo_224 : mj_okM lw_tbl mj_CL mj_TY mj_MS mm_224 mt_224 := mj_ckM_ok mpq_4 my_224 mk_224
theorem mo_225 : mj_okM lw_tbl mj_CL mj_TY mj_MS mm_225 mt_225 := mj_ckM_ok mpq_4 my_225 mk_225
theorem mo_226 : mj_okM lw_tbl mj_CL mj_TY mj_MS mm_226 mt_226 := mj_ckM_ok mpq_4 my_226 mk_226
theorem mo_227 : mj_okM lw_tbl mj_CL mj_TY mj_MS mm_227 mt_227 := mj_ckM_ok mpq_4 my_227 mk_227
theorem mo_228 : mj_okM lw_tbl mj_CL mj_TY mj_MS mm_228 mt_228 := mj_ckM_ok mpq_4 my_228 mk_228
theorem mo_229 : mj_okM lw_tbl mj_CL mj_TY mj_MS mm_229 mt_229 := mj_ckM_ok mpq_4 my_229 mk_229
theorem mo_230 : mj_okM lw_tbl mj_CL mj_TY mj_MS mm_230 mt_230 := mj_ckM_ok mpq_1 my_230 mk_230
theorem mo_231 : mj_okM lw_tbl mj_CL mj_TY mj_MS mm_231 mt_231 := mj_ckM_ok mpq_2 my_231 mk_231
theorem mo_232 : mj_okM lw_tbl mj_CL mj_TY mj_MS mm_232 mt_232 := mj_ckM_ok mpq_1 my_232 mk_232
theorem mo_233 : mj_okM lw_tbl mj_CL mj_TY mj_MS mm_233 mt_233 := mj_ckM_ok mpq_2 my_233 mk_233
theorem mo_234 : mj_okM lw_tbl mj_CL mj_TY mj_MS mm_234 mt_234 := mj_ckM_ok mpq_1 my_234 mk_234
theorem mo_235 : mj_okM lw_tbl mj_CL mj_TY mj_MS mm_235 mt_235 := mj_ckM_ok mpq_2 my_235 mk_235
theorem mo_236 : mj_okM lw_tbl mj_CL mj_TY mj_MS mm_236 mt_236 := mj_ckM_ok mpq_1 my_236 mk_236
theorem mo_237 : mj_okM lw_tbl mj_CL mj_TY mj_MS mm_237 mt_237 := mj_ckM_ok mpq_1 my_237 mk_237
theorem mo_238 : mj_okM lw_tbl mj_CL mj_TY mj_MS mm_238 mt_238 := mj_ckM_ok mpq_12 my_238 mk_238
theorem mo_239 : mj_okM lw_tbl mj_CL mj_TY mj_MS mm_239 mt_239 := mj_ckM_ok mpq_12 my_239 mk_239
theorem mo_240 : mj_okM lw_tbl mj_CL mj_TY mj_MS mm_240 mt_240 := mj_ckM_ok mpq_1 my_240 mk_240
theorem mo_241 : mj_okM lw_tbl mj_CL mj_TY mj_MS mm_241 mt_241 := mj_ckM_ok mpq_1 my_241 mk_241
theorem mo_242 : mj_okM lw_tbl mj_CL mj_TY mj_MS mm_242 mt_242 := mj_ckM_ok mpq_2 my_242 mk_242
theorem mo_243 : mj_okM lw_tbl mj_CL mj_TY mj_MS mm_243 mt_243 := mj_ckM_ok mpq_6 my_243 mk_243
theorem mo_244 : mj_okM lw_tbl mj_CL mj_TY mj_MS mm_244 mt_244 := mj_ckM_ok mpq_6 my_244 mk_244
theorem mo_245 : mj_okM lw_tbl mj_CL mj_TY mj_MS mm_245 mt_245 := mj_ckM_ok mpq_2 my_245 mk_245
theorem mo_246 : mj_okM lw_tbl mj_CL mj_TY mj_MS mm_246 mt_246 := mj_ckM_ok mpq_6 my_246 mk_246
theorem mo_247 : mj_okM lw_tbl mj_CL mj_TY mj_MS mm_247 mt_247 := mj_ckM_ok mpq_6 my_247 mk_247
theorem mo_248 : mj_okM lw_tbl mj_CL mj_TY mj_MS mm_248 mt_248 := mj_ckM_ok mpq_6 my_248 mk_248
theorem mo_249 : mj_okM lw_tbl mj_CL mj_TY mj_MS mm_249 mt_249 := mj_ckM_ok mpq_1 my_249 mk_249
theorem mo_250 : mj_okM lw_tbl mj_CL mj_TY mj_MS mm_250 mt_250 := mj_ckM_ok mpq_6 my_250 mk_250
theorem mo_251 : mj_okM lw_tbl mj_CL mj_TY mj_MS mm_251 mt_251 := mj_ckM_ok mpq_1 my_251 mk_251
theorem mo_252 : mj_okM lw_tbl mj_CL mj_TY mj_MS mm_252 mt_252 := mj_ckM_ok mpq_1 my_252 mk_252
theorem mo_253 : mj_okM lw_tbl mj_CL mj_TY mj_MS mm_253 mt_253 := mj_ckM_ok mpq_1 my_253 mk_253
theorem mo_254 : mj_okM lw_tbl mj_CL mj_TY mj_MS mm_254 mt_254 := mj_ckM_ok mpq_1 my_254 mk_254
theorem mo_255 : mj_okM lw_tbl mj_CL mj_TY mj_MS mm_255 mt_255 := mj_ckM_ok mpq_2 my_255 mk_255
theorem mo_256 : mj_okM lw_tbl mj_CL mj_TY mj_MS mm_256 mt_256 := mj_ckM_ok mpq_1 my_256 mk_256
theorem mo_257 : mj_okM lw_tbl mj_CL mj_TY mj_MS mm_257 mt_257 := mj_ckM_ok mpq_10 my_257 mk_257
theorem mo_258 : mj_okM lw_tbl mj_CL mj_TY mj_MS mm_258 mt_258 := mj_ckM_ok mpq_1 my_258 mk_258
theorem mo_259 : mj_okM lw_tbl mj_CL mj_TY mj_MS mm_259 mt_259 := mj_ckM_ok mpq_1 my_259 mk_259
theorem mo_260 : mj_okM lw_tbl mj_CL mj_TY mj_MS mm_260 mt_260 := mj_ckM_ok mpq_10 my_260 mk_260
theorem mo_261 : mj_okM lw_tbl mj_CL mj_TY mj_MS mm_261 mt_261 := mj_ckM_ok mpq_10 my_261 mk_261
theorem mo_262 : mj_okM lw_tbl mj_CL mj_TY mj_MS mm_262 mt_262 := mj_ckM_ok mpq_1 my_262 mk_262
theorem mo_263 : mj_okM lw_tbl mj_CL mj_TY mj_MS mm_263 mt_263 := mj_ckM_ok mpq_9 my_263 mk_263
theorem mo_264 : mj_okM lw_tbl mj_CL mj_TY mj_MS mm_264 mt_264 := mj_ckM_ok mpq_1 my_264 mk_264
theorem mo_265 : mj_okM lw_tbl mj_CL mj_TY mj_MS mm_265 mt_265 := mj_ckM_ok mpq_10 my_265 mk_265
theorem mo_266 : mj_okM lw_tbl mj_CL mj_TY mj_MS mm_266 mt_266 := mj_ckM_ok mpq_10 my_266 mk_266
theorem mo_267 : mj_okM lw_tbl mj_CL mj_TY mj_MS mm_267 mt_267 := mj_ckM_ok mpq_10 my_267 mk_267
theorem mo_268 : mj_okM lw_tbl mj_CL mj_TY mj_MS mm_268 mt_268 := mj_ckM_ok mpq_1 my_268 mk_268
theorem mo_269 : mj_okM lw_tbl mj_CL mj_TY mj_MS mm_269 mt_269 := mj_ckM_ok mpq_10 my_269 mk_269
theorem mo_270 : mj_okM lw_tbl mj_CL mj_TY mj_MS mm_270 mt_270 := mj_ckM_ok mpq_10 my_270 mk_270
theorem mo_271 : mj_okM lw_tbl mj_CL mj_TY mj_MS mm_271 mt_271 := mj_ckM_ok mpq_10 my_271 mk_271
theorem mo_272 : mj_okM lw_tbl mj_CL mj_TY mj_MS mm_272 mt_272 := mj_ckM_ok mpq_10 my_272 mk_272
theorem mo_273 : mj_okM lw_tbl mj_CL mj_TY mj_MS mm_273 mt_273 := mj_ckM_ok mpq_1 my_273 mk_273
theorem mo_274 : mj_okM lw_tbl mj_CL mj_TY mj_MS mm_274 mt_274 := mj_ckM_ok mpq_1 my_274 mk_274
theorem mo_275 : mj_okM lw_tbl mj_CL mj_TY mj_MS mm_275 mt_275 := mj_ckM_ok mpq_5 my_275 mk_275
theorem mo_276 : mj_okM lw_tbl mj_CL mj_TY mj_MS mm_276 mt_276 := mj_ckM_ok mpq_1 my_276 mk_276
theorem mo_277 : mj_okM lw_tbl mj_CL mj_TY mj_MS mm_277 mt_277 := mj_ckM_ok mpq_1 my_277 mk_277
theorem mo_278 : mj_okM lw_tbl mj_CL mj_TY mj_MS mm_278 mt_278 := mj_ckM_ok mpq_1 my_278 mk_278
theorem mo_279 : mj_okM lw_tbl mj_CL mj_TY mj_MS mm_279 mt_279 := mj_ckM_ok mpq_5 my_279 mk_279
theorem mo_280 : mj_okM lw_tbl mj_CL mj_TY mj_MS mm_280 mt_280 := mj_ckM_ok mpq_5 my_280 mk_280
theorem mo_281 : mj_okM lw_tbl mj_CL mj_TY mj_MS mm_281 mt_281 := mj_ckM_ok mpq_5 my_281 mk_281
theorem mo_282 : mj_okM lw_tbl mj_CL mj_TY mj_MS mm_282 mt_282 := mj_ckM_ok mpq_5 my_282 mk_282
theorem mo_283 : mj_okM lw_tbl mj_CL mj_TY mj_MS mm_283 mt_283 := mj_ckM_ok mpq_5 my_283 mk_283
theorem mo_284 : mj_okM lw_tbl mj_CL mj_TY mj_MS mm_284 mt_284 := mj_ckM_ok mpq_5 my_284 mk_284
theorem mo_285 : mj_okM lw_tbl mj_CL mj_TY mj_MS mm_285 mt_285 := mj_ckM_ok mpq_5 my_285 mk_285
theorem mo_286 : mj_okM lw_tbl mj_CL mj_TY mj_MS mm_286 mt_286 := mj_ckM_ok mpq_5 my_286 mk_286
theorem mo_287 : mj_okM lw_tbl mj_CL mj_TY mj_MS mm_287 mt_287 := mj_ckM_ok mpq_1 my_287 mk_287
theorem mo_288 : mj_okM lw_tbl mj_CL mj_TY mj_MS mm_288 mt_288 := mj_ckM_ok mpq_5 my_288 mk_288
theorem mo_289 : mj_okM lw_tbl mj_CL mj_TY mj_MS mm_289 mt_289 := mj_ckM_ok mpq_5 my_289 mk_289
theorem mo_290 : mj_okM lw_tbl mj_CL mj_TY mj_MS mm_290 mt_290 := mj_ckM_ok mpq_5 my_290 mk_290
theorem mo_291 : mj_okM lw_tbl mj_CL mj_TY mj_MS mm_291 mt_291 := mj_ckM_ok mpq_1 my_291 mk_291
def mj_A2 : List mj_M → List mj_C → Prop
  | [], [] => True
  | y :: A, C :: B => mj_okM lw_tbl mj_CL mj_TY mj_MS y C ∧ mj_A2 A B
  | _, _ => False
theorem mj_A2_get : ∀ (A : List mj_M) (B : List mj_C), mj_A2 A B → ∀ (z : Nat) (d : mj_M), mj_okM lw_tbl mj_CL mj_TY mj_MS (A.getD z d) (B.getD z ([], [], 0)) ∨ B.getD z ([], [], 0) = ([], [], 0)
  | [], [], _, z, d => Or.inr (by simp)
  | y :: A, C :: B, h, 0, d => Or.inl h.1
  | y :: A, C :: B, h, z + 1, d => mj_A2_get A B h.2 z d
set_option maxRecDepth 100000 in
theorem mj_all : mj_A2 mj_ML mj_TT := And.intro mo_0 (And.intro mo_1 (And.intro mo_2 (And.intro mo_3 (And.intro mo_4 (And.intro mo_5 (And.intro mo_6 (And.intro mo_7 (And.intro mo_8 (And.intro mo_9 (And.intro mo_10 (And.intro mo_11 (And.intro mo_12 (And.intro mo_13 (And.intro mo_14 (And.intro mo_15 (And.intro mo_16 (And.intro mo_17 (And.intro mo_18 (And.intro mo_19 (And.intro mo_20 (And.intro mo_21 (And.intro mo_22 (And.intro mo_23 (And.intro mo_24 (And.intro mo_25 (And.intro mo_26 (And.intro mo_27 (And.intro mo_28 (And.intro mo_29 (And.intro mo_30 (And.intro mo_31 (And.intro mo_32 (And.intro mo_33 (And.intro mo_34 (And.intro mo_35 (And.intro mo_36 (And.intro mo_37 (And.intro mo_38 (And.intro mo_39 (And.intro mo_40 (And.intro mo_41 (And.intro mo_42 (And.intro mo_43 (And.intro mo_44 (And.intro mo_45 (And.intro mo_46 (And.intro mo_47 (And.intro mo_48 (And.intro mo_49 (And.intro mo_50 (And.intro mo_51 (And.intro mo_52 (And.intro mo_53 (And.intro mo_54 (And.intro mo_55 (And.intro mo_56 (And.intro mo_57 (And.intro mo_58 (And.intro mo_59 (And.intro mo_60 (And.intro mo_61 (And.intro mo_62 (And.intro mo_63 (And.intro mo_64 (And.intro mo_65 (And.intro mo_66 (And.intro mo_67 (And.intro mo_68 (And.intro mo_69 (And.intro mo_70 (And.intro mo_71 (And.intro mo_72 (And.intro mo_73 (And.intro mo_74 (And.intro mo_75 (And.intro mo_76 (And.intro mo_77 (And.intro mo_78 (And.intro mo_79 (And.intro mo_80 (And.intro mo_81 (And.intro mo_82 (And.intro mo_83 (And.intro mo_84 (And.intro mo_85 (And.intro mo_86 (And.intro mo_87 (And.intro mo_88 (And.intro mo_89 (And.intro mo_90 (And.intro mo_91 (And.intro mo_92 (And.intro mo_93 (And.intro mo_94 (And.intro mo_95 (And.intro mo_96 (And.intro mo_97 (And.intro mo_98 (And.intro mo_99 (And.intro mo_100 (And.intro mo_101 (And.intro mo_102 (And.intro mo_103 (And.intro mo_104 (And.intro mo_105 (And.intro mo_106 (And.intro mo_107 (And.intro mo_108 (And.intro mo_109 (And.intro mo_110 (And.intro mo_111 (And.intro mo_112 (And.intro mo_113 (And.intro mo_114 (And.intro mo_115 (And.intro mo_116 (And.intro mo_117 (And.intro mo_118 (And.intro mo_119 (And.intro mo_120 (And.intro mo_121 (And.intro mo_122 (And.intro mo_123 (And.intro mo_124 (And.intro mo_125 (And.intro mo_126 (And.intro mo_127 (And.intro mo_128 (And.intro mo_129 (And.intro mo_130 (And.intro mo_131 (And.intro mo_132 (And.intro mo_133 (And.intro mo_134 (And.intro mo_135 (And.intro mo_136 (And.intro mo_137 (And.intro mo_138 (And.intro mo_139 (And.intro mo_140 (And.intro mo_141 (And.intro mo_142 (And.intro mo_143 (And.intro mo_144 (And.intro mo_145 (And.intro mo_146 (And.intro mo_147 (And.intro mo_148 (And.intro mo_149 (And.intro mo_150 (And.intro mo_151 (And.intro mo_152 (And.intro mo_153 (And.intro mo_154 (And.intro mo_155 (And.intro mo_156 (And.intro mo_157 (And.intro mo_158 (And.intro mo_159 (And.intro mo_160 (And.intro mo_161 (And.intro mo_162 (And.intro mo_163 (And.intro mo_164 (And.intro mo_165 (And.intro mo_166 (And.intro mo_167 (And.intro mo_168 (And.intro mo_169 (And.intro mo_170 (And.intro mo_171 (And.intro mo_172 (And.intro mo_173 (And.intro mo_174 (And.intro mo_175 (And.intro mo_176 (And.intro mo_177 (And.intro mo_178 (And.intro mo_179 (And.intro mo_180 (And.intro mo_181 (And.intro mo_182 (And.intro mo_183 (And.intro mo_184 (And.intro mo_185 (And.intro mo_186 (And.intro mo_187 (And.intro mo_188 (And.intro mo_189 (And.intro mo_190 (And.intro mo_191 (And.intro mo_192 (And.intro mo_193 (And.intro mo_194 (And.intro mo_195 (And.intro mo_196 (And.intro mo_197 (And.intro mo_198 (And.intro mo_199 (And.intro mo_200 (And.intro mo_201 (And.intro mo_202 (And.intro mo_203 (And.intro mo_204 (And.intro mo_205 (And.intro mo_206 (And.intro mo_207 (And.intro mo_208 (And.intro mo_209 (And.intro mo_210 (And.intro mo_211 (And.intro mo_212 (And.intro mo_213 (And.intro mo_214 (And.intro mo_215 (And.intro mo_216 (And.intro mo_217 (And.intro mo_218 (And.intro mo_219 (And.intro mo_220 (And.intro mo_221 (And.intro mo_222 (And.intro mo_223 (And.intro mo_224 (And.intro mo_225 (And.intro mo_226 (And.intro mo_227 (And.intro mo_228 (And.intro mo_229 (And.intro mo_230 (And.intro mo_231 (And.intro mo_232 (And.intro mo_233 (And.intro mo_234 (And.intro mo_235 (And.intro mo_236 (And.intro mo_237 (And.intro mo_238 (And.intro mo_239 (And.intro mo_240 (And.intro mo_241 (And.intro mo_242 (And.intro mo_243 (And.intro mo_244 (And.intro mo_245 (And.intro mo_246 (And.intro mo_247 (And.intro mo_248 (And.intro mo_249 (And.intro mo_250 (And.intro mo_251 (And.intro mo_252 (And.intro mo_253 (And.intro mo_254 (And.intro mo_255 (And.intro mo_256 (And.intro mo_257 (And.intro mo_258 (And.intro mo_259 (And.intro mo_260 (And.intro mo_261 (And.intro mo_262 (And.intro mo_263 (And.intro mo_264 (And.intro mo_265 (And.intro mo_266 (And.intro mo_267 (And.intro mo_268 (And.intro mo_269 (And.intro mo_270 (And.intro mo_271 (And.intro mo_272 (And.intro mo_273 (And.intro mo_274 (And.intro mo_275 (And.intro mo_276 (And.intro mo_277 (And.intro mo_278 (And.intro mo_279 (And.intro mo_280 (And.intro mo_281 (And.intro mo_282 (And.intro mo_283 (And.intro mo_284 (And.intro mo_285 (And.intro mo_286 (And.intro mo_287 (And.intro mo_288 (And.intro mo_289 (And.intro mo_290 (And.intro mo_291 (trivial))))))))))))))))))))))))))))))))))))))))))))))))))))))))))))))))))))))))))))))))))))))))))))))))))))))))))))))))))))))))))))))))))))))))))))))))))))))))))))))))))))))))))))))))))))))))))))))))))))))))))))))))))))))))))))))))))))))))))))))))))))))))))))))))))))))))))))))))))))))))))))))))))))
theorem mj_hM (z : Nat) : mj_okM lw_tbl mj_CL mj_TY mj_MS (mj_MS z) (mj_CD z) ∨ mj_CD z = ([], [], 0) := mj_A2_get _ _ mj_all z mm_0
end
section
/-! THE SMALL MACHINE. A reference is the number of a cell; the heap is three functions: cell, slot -> int, long, cell. -/
abbrev mj_K : Type := mj_L → List Value → mj_H → Prop
def mj_up {α : Type} (f : Nat → Nat → α) (k j : Nat) (v : α) : Nat → Nat → α := fun k' j' => if k' = k then (if j' = j then v else f k' j') else f k' j'
def mj_cp {α : Type} (f : Nat → Nat → α) (a sp b dp n : Nat) : Nat → Nat → α := fun k' j' => if k' = b then (if dp ≤ j' ∧ j' < dp + n then f a (sp + (j' - dp)) else f k' j') else f k' j'
def mj_nth {α : Type} : List α → Nat → Option α
  | [], _ => none
  | x :: _, 0 => some x
  | _ :: r, n + 1 => mj_nth r n
def mj_fd {α : Type} : List (Nat × α) → Nat → Option α
  | [], _ => none
  | q :: r, i => match Nat.beq q.1 i with
    | true => some q.2
    | false => mj_fd r i
def mj_in (x : Nat × Value) : mj_L → mj_L
  | [] => [x]
  | q :: r => match Nat.blt q.1 x.1 with
    | true => q :: mj_in x r
    | false => x :: q :: r
def mj_s1 (i : Nat) (v : Value) (l : mj_L) : mj_L := mj_in (i, v) (l.filter (fun q => !(q.1 == i) && !(q.1 + 1 == i && q.2.category == 2)))
def mj_s2 (i : Nat) (v : Value) (l : mj_L) : mj_L := mj_in (i, v) (l.filter (fun q => !(q.1 == i) && (!(q.1 == i + 1) && !(q.1 + 1 == i && q.2.category == 2))))
def mj_tm (ks : List Nat) (l : mj_L) : mj_L := l.filter (fun q => ks.elem q.1)
def mj_a0 : Nat → List Value → mj_L
  | _, [] => []
  | i, v :: vs => (i, v) :: mj_a0 (if v.category = 2 then i + 2 else i + 1) vs
-- pops
def mj_pI (s : List Value) (F : Int32 → List Value → Prop) : Prop := match s with
  | .int x :: r => F x r
  | _ => False
def mj_pL (s : List Value) (F : Int64 → List Value → Prop) : Prop := match s with
  | .long x :: r => F x r
  | _ => False
def mj_pR (s : List Value) (F : Nat → List Value → Prop) : Prop := match s with
  | .ref x :: r => F x r
  | _ => False
def mj_lI (l : mj_L) (i : Nat) (F : Int32 → Prop) : Prop := match mj_fd l i with
  | some (.int x) => F x
  | _ => False
def mj_lL (l : mj_L) (i : Nat) (F : Int64 → Prop) : Prop := match mj_fd l i with
  | some (.long x) => F x
  | _ => False
def mj_lR (l : mj_L) (i : Nat) (F : Nat → Prop) : Prop := match mj_fd l i with
  | some (.ref x) => F x
  | _ => False
/-- the cell q of a shape: its kind (0 int[], 1 long[], 2 boolean[], 3 + c an object of class c) and size -/
def mj_sh (S : mj_S) (q t : Nat) (F : Nat → Prop) : Prop := match mj_nth S q with
  | some z => match Nat.beq z.1 t with
    | true => F z.2
    | false => False
  | none => False
def mj_if (b : Bool) (P : Prop) : Prop := match b with
  | true => P
  | false => False
def mj_sw : List (Int32 × Nat) → Nat → Int32 → (Nat → Prop) → Prop
  | [], d, _, F => F d
  | q :: r, d, x, F => if x = q.1 then F q.2 else mj_sw r d x F
def mj_sz : List Value → Nat
  | [] => 0
  | v :: r => v.category + mj_sz r
/-- a call's answer goes on the stack, by its kind: 0 none, 1 int, 2 long, 3 a cell; but for the last, the callee leaves the references as they are -/
def mj_rt (c : Nat) (f : mj_R → Prop) (r : List Value) (h : mj_H) (F : List Value → mj_H → Prop) : Prop := match c with
  | 0 => ∃ (I : Nat → Nat → Int32) (J : Nat → Nat → Int64), f (.null, (I, J, h.2.2)) ∧ F r (I, J, h.2.2)
  | 1 => ∃ (x : Int32) (I : Nat → Nat → Int32) (J : Nat → Nat → Int64), f (.int x, (I, J, h.2.2)) ∧ F (.int x :: r) (I, J, h.2.2)
  | 2 => ∃ (x : Int64) (I : Nat → Nat → Int32) (J : Nat → Nat → Int64), f (.long x, (I, J, h.2.2)) ∧ F (.long x :: r) (I, J, h.2.2)
  | _ => ∃ (x : Nat) (g : mj_H), f (.ref x, g) ∧ F (.ref x :: r) g
/-- the receiver is an object of class d (as d + 1; 0: a static method) -/
def mj_rc (S : mj_S) (d : Nat) (as : List Value) : Prop := match d with
  | 0 => True
  | d + 1 => match as with
    | .ref q :: _ => mj_sh S q (d + 3) (fun _ => True)
    | _ => False
def mj_cl (S : mj_S) (cal : Nat → List Value → mj_H → mj_R → Prop) (z n c d : Nat) (s : List Value) (h : mj_H) (k : List Value → mj_H → Prop) : Prop :=
  mj_if (Nat.ble n s.length && Nat.ble (mj_sz (s.drop n)) 8) (mj_rc S d (s.take n).reverse ∧ mj_rt c (cal z (s.take n).reverse h) (s.drop n) h k)
/-- the locals, laid out anew (so that a walk on names stays short) -/
def mj_fl : mj_L → (mj_L → Prop) → Prop
  | [], F => F []
  | q :: r, F => mj_fl r (fun r' => F (q :: r'))
theorem mj_fl_eq : ∀ (l : mj_L) (F : mj_L → Prop), mj_fl l F = F l
  | [], _ => rfl
  | _ :: r, _ => mj_fl_eq r _
def mj_ins (S : mj_S) (cal : Nat → List Value → mj_H → mj_R → Prop) (Q : mj_R → Prop) (jmp : Nat → mj_K) (i : Jvm.ClassFile.Instr) (a b c d : Nat) (v : Int32) (w : Int64) (sw : List (Int32 × Nat)) (l : mj_L) (s : List Value) (h : mj_H) (k : mj_K) : Prop :=
  match i with
  | .iconst _ => k l (.int v :: s) h
  | .bipush _ => k l (.int v :: s) h
  | .sipush _ => k l (.int v :: s) h
  | .ldc _ => k l (.int v :: s) h
  | .ldc_w _ => k l (.int v :: s) h
  | .lconst _ => k l (.long w :: s) h
  | .ldc2_w _ => k l (.long w :: s) h
  | .iload_n n => mj_lI l n.val fun x => k l (.int x :: s) h
  | .iload n => mj_lI l n fun x => k l (.int x :: s) h
  | .lload_n n => mj_lL l n.val fun x => k l (.long x :: s) h
  | .lload n => mj_lL l n fun x => k l (.long x :: s) h
  | .aload_n n => mj_lR l n.val fun x => k l (.ref x :: s) h
  | .aload n => mj_lR l n fun x => k l (.ref x :: s) h
  | .istore_n n => mj_pI s fun x r => mj_fl (mj_s1 n.val (.int x) l) fun l => k l r h
  | .istore n => mj_pI s fun x r => mj_fl (mj_s1 n (.int x) l) fun l => k l r h
  | .lstore_n n => mj_pL s fun x r => mj_fl (mj_s2 n.val (.long x) l) fun l => k l r h
  | .lstore n => mj_pL s fun x r => mj_fl (mj_s2 n (.long x) l) fun l => k l r h
  | .astore_n n => mj_pR s fun x r => mj_fl (mj_s1 n.val (.ref x) l) fun l => k l r h
  | .astore n => mj_pR s fun x r => mj_fl (mj_s1 n (.ref x) l) fun l => k l r h
  | .iinc n _ => mj_lI l n fun x => mj_fl (mj_s1 n (.int (x + v)) l) fun l => k l s h
  | .iadd => mj_pI s fun y r => mj_pI r fun x r => k l (.int (x + y) :: r) h
  | .isub => mj_pI s fun y r => mj_pI r fun x r => k l (.int (x - y) :: r) h
  | .imul => mj_pI s fun y r => mj_pI r fun x r => k l (.int (x * y) :: r) h
  | .iand => mj_pI s fun y r => mj_pI r fun x r => k l (.int (x &&& y) :: r) h
  | .ior => mj_pI s fun y r => mj_pI r fun x r => k l (.int (x ||| y) :: r) h
  | .ixor => mj_pI s fun y r => mj_pI r fun x r => k l (.int (x ^^^ y) :: r) h
  | .idiv => mj_pI s fun y r => mj_pI r fun x r => ¬ y = 0 ∧ k l (.int (x / y) :: r) h
  | .irem => mj_pI s fun y r => mj_pI r fun x r => ¬ y = 0 ∧ k l (.int (x - x / y * y) :: r) h
  | .ineg => mj_pI s fun x r => k l (.int (-x) :: r) h
  | .ishl => mj_pI s fun y r => mj_pI r fun x r => k l (.int (x <<< (y &&& 31)) :: r) h
  | .ishr => mj_pI s fun y r => mj_pI r fun x r => k l (.int (x >>> (y &&& 31)) :: r) h
  | .iushr => mj_pI s fun y r => mj_pI r fun x r => k l (.int (x.toUInt32 >>> (y.toUInt32 &&& Int32.toUInt32 31)).toInt32 :: r) h
  | .ladd => mj_pL s fun y r => mj_pL r fun x r => k l (.long (x + y) :: r) h
  | .lsub => mj_pL s fun y r => mj_pL r fun x r => k l (.long (x - y) :: r) h
  | .lmul => mj_pL s fun y r => mj_pL r fun x r => k l (.long (x * y) :: r) h
  | .land => mj_pL s fun y r => mj_pL r fun x r => k l (.long (x &&& y) :: r) h
  | .lor => mj_pL s fun y r => mj_pL r fun x r => k l (.long (x ||| y) :: r) h
  | .lxor => mj_pL s fun y r => mj_pL r fun x r => k l (.long (x ^^^ y) :: r) h
  | .ldiv => mj_pL s fun y r => mj_pL r fun x r => ¬ y = 0 ∧ k l (.long (x / y) :: r) h
  | .lrem => mj_pL s fun y r => mj_pL r fun x r => ¬ y = 0 ∧ k l (.long (x - x / y * y) :: r) h
  | .lneg => mj_pL s fun x r => k l (.long (-x) :: r) h
  | .lshl => mj_pI s fun y r => mj_pL r fun x r => k l (.long (x <<< (y.toInt64 &&& 63)) :: r) h
  | .lshr => mj_pI s fun y r => mj_pL r fun x r => k l (.long (x >>> (y.toInt64 &&& 63)) :: r) h
  | .lushr => mj_pI s fun y r => mj_pL r fun x r => k l (.long (x.toUInt64 >>> (y.toInt64.toUInt64 &&& Int64.toUInt64 63)).toInt64 :: r) h
  | .lcmp => mj_pL s fun y r => mj_pL r fun x r => k l (.int (lg_cmp x y) :: r) h
  | .i2l => mj_pI s fun x r => k l (.long x.toInt64 :: r) h
  | .l2i => mj_pL s fun x r => k l (.int x.toInt32 :: r) h
  | .dup => match s with
    | .int x :: r => k l (.int x :: .int x :: r) h
    | .ref x :: r => k l (.ref x :: .ref x :: r) h
    | _ => False
  | .dup2 => mj_pI s fun x r => mj_pR r fun y r => k l (.int x :: .ref y :: .int x :: .ref y :: r) h
  | .getfield _ => mj_pR s fun q r => mj_sh S q (a + 3) fun n => mj_if (Nat.blt b n) (match c with
    | 1 => k l (.long (h.2.1 q b) :: r) h
    | 2 => k l (.ref (h.2.2 q b) :: r) h
    | _ => k l (.int (h.1 q b) :: r) h)
  | .putfield _ => match c with
    | 1 => mj_pL s fun x r => mj_pR r fun q r => mj_sh S q (a + 3) fun n => mj_if (Nat.blt b n) (k l r (h.1, mj_up h.2.1 q b x, h.2.2))
    | 2 => mj_pR s fun x r => mj_pR r fun q r => mj_sh S q (a + 3) fun n => mj_if (Nat.blt b n) (k l r (h.1, h.2.1, mj_up h.2.2 q b x))
    | 3 => mj_pI s fun x r => mj_pR r fun q r => mj_sh S q (a + 3) fun n => mj_if (Nat.blt b n) ((x = 0 ∨ x = 1) ∧ k l r (mj_up h.1 q b x, h.2.1, h.2.2))
    | _ => mj_pI s fun x r => mj_pR r fun q r => mj_sh S q (a + 3) fun n => mj_if (Nat.blt b n) (k l r (mj_up h.1 q b x, h.2.1, h.2.2))
  | .iaload => mj_pI s fun i r => mj_pR r fun q r => mj_sh S q 0 fun n => vp_in i n ∧ k l (.int (h.1 q i.toNatClampNeg) :: r) h
  | .laload => mj_pI s fun i r => mj_pR r fun q r => mj_sh S q 1 fun n => vp_in i n ∧ k l (.long (h.2.1 q i.toNatClampNeg) :: r) h
  | .baload => mj_pI s fun i r => mj_pR r fun q r => mj_sh S q 2 fun n => vp_in i n ∧ k l (.int (h.1 q i.toNatClampNeg) :: r) h
  | .iastore => mj_pI s fun x r => mj_pI r fun i r => mj_pR r fun q r => mj_sh S q 0 fun n => vp_in i n ∧ k l r (mj_up h.1 q i.toNatClampNeg x, h.2.1, h.2.2)
  | .lastore => mj_pL s fun x r => mj_pI r fun i r => mj_pR r fun q r => mj_sh S q 1 fun n => vp_in i n ∧ k l r (h.1, mj_up h.2.1 q i.toNatClampNeg x, h.2.2)
  | .bastore => mj_pI s fun x r => mj_pI r fun i r => mj_pR r fun q r => mj_sh S q 2 fun n => vp_in i n ∧ k l r (mj_up h.1 q i.toNatClampNeg (vp_nar .boolean x), h.2.1, h.2.2)
  | .goto _ => jmp a l s h
  | .ifCond o _ => mj_pI s fun x r => match o with
    | .eq => if x = 0 then jmp a l r h else k l r h
    | .ne => if x = 0 then k l r h else jmp a l r h
    | .lt => if x < 0 then jmp a l r h else k l r h
    | .ge => if x < 0 then k l r h else jmp a l r h
    | .gt => if x ≤ 0 then k l r h else jmp a l r h
    | .le => if x ≤ 0 then jmp a l r h else k l r h
  | .if_icmp o _ => mj_pI s fun y r => mj_pI r fun x r => match o with
    | .eq => if x = y then jmp a l r h else k l r h
    | .ne => if x = y then k l r h else jmp a l r h
    | .lt => if x < y then jmp a l r h else k l r h
    | .ge => if y ≤ x then jmp a l r h else k l r h
    | .gt => if y < x then jmp a l r h else k l r h
    | .le => if x ≤ y then jmp a l r h else k l r h
  | .tableswitch _ _ _ _ => mj_pI s fun x r => mj_sw sw a x fun t => jmp t l r h
  | .lookupswitch _ _ => mj_pI s fun x r => mj_sw sw a x fun t => jmp t l r h
  | .invokevirtual _ => mj_cl S cal a b c d s h fun r h => k l r h
  | .invokestatic _ => match Nat.beq a 999 with
    | true => mj_pI s fun n r => mj_pI r fun dp r => mj_pR r fun y r => mj_pI r fun sp r => mj_pR r fun x r => mj_sh S x 0 fun n0 => mj_sh S y 0 fun n1 =>
        (¬ sp < 0 ∧ ¬ dp < 0 ∧ ¬ n < 0 ∧ sp.toNatClampNeg + n.toNatClampNeg ≤ n0 ∧ dp.toNatClampNeg + n.toNatClampNeg ≤ n1) ∧ mj_if (Nat.ble (mj_sz r) 8) (k l r (mj_cp h.1 x sp.toNatClampNeg y dp.toNatClampNeg n.toNatClampNeg, h.2.1, h.2.2))
    | false => mj_cl S cal a b c 0 s h fun r h => k l r h
  | .return_ => match s with
    | [] => Q (.null, h)
    | _ => False
  | .ireturn => match s with
    | [.int x] => (match a with
      | 0 => Q (.int x, h)
      | _ => (x = 0 ∨ x = 1) ∧ Q (.int x, h))
    | _ => False
  | .lreturn => match s with
    | [.long x] => Q (.long x, h)
    | _ => False
  | .areturn => match s with
    | [.ref x] => Q (.ref x, h)
    | _ => False
  | _ => False
def mj_bk (S : mj_S) (cal : Nat → List Value → mj_H → mj_R → Prop) (Q : mj_R → Prop) (jmp : Nat → mj_K) : List mj_E → Nat → mj_K
  | [], pc => fun l s h => jmp pc l s h
  | e :: r, pc => fun l s h => mj_ins S cal Q jmp e.1 e.2.2.1.1 e.2.2.1.2.1 e.2.2.1.2.2.1 e.2.2.1.2.2.2 e.2.2.2.1 e.2.2.2.2.1 e.2.2.2.2.2 l s h (mj_bk S cal Q jmp r (pc + e.2.1))
def mj_sg (S : mj_S) (C : mj_C) (cal : Nat → List Value → mj_H → mj_R → Prop) (Q : mj_R → Prop) (K : Nat → mj_K) : Nat → Nat → mj_K
  | 0, _ => fun _ _ _ => False
  | m + 1, pc => fun l s h => match mj_fd C.2.1 pc with
    | some ks => K pc (mj_tm ks l) s h
    | none => match mj_fd C.1 pc with
      | some b => mj_bk S cal Q (mj_sg S C cal Q K m) b pc l s h
      | none => False
/-- from a pc on, without halting at it -/
def mj_go (S : mj_S) (C : mj_C) (cal : Nat → List Value → mj_H → mj_R → Prop) (Q : mj_R → Prop) (K : Nat → mj_K) (pc : Nat) : mj_K := fun l s h => match mj_fd C.1 pc with
  | some b => mj_bk S cal Q (mj_sg S C cal Q K 100) b pc l s h
  | none => False
def mj_rn (S : mj_S) (C : mj_C) (cal : Nat → List Value → mj_H → mj_R → Prop) (Q : mj_R → Prop) : Nat → Nat → mj_K
  | 0, _ => fun _ _ _ => False
  | n + 1, pc => mj_go S C cal Q (mj_rn S C cal Q n) pc
def mj_Ev (S : mj_S) (C : mj_C) (cal : Nat → List Value → mj_H → mj_R → Prop) (Q : mj_R → Prop) (pc : Nat) : mj_K := fun l s h => ∃ n, mj_rn S C cal Q n pc l s h
/-- what method z answers at depth D, from its arguments and the heap -/
def mj_Cl (S : mj_S) (CD : Nat → mj_C) : Nat → Nat → List Value → mj_H → mj_R → Prop
  | 0 => fun _ _ _ _ => False
  | D + 1 => fun z as h r => mj_if (Nat.ble (mj_sz as) (CD z).2.2) (mj_sg S (CD z) (mj_Cl S CD D) (fun x => x = r) (mj_Ev S (CD z) (mj_Cl S CD D) (fun x => x = r)) 100 0 (mj_a0 0 as) [] h)
-- inversions
theorem mj_pI_e {s : List Value} {F : Int32 → List Value → Prop} (h : mj_pI s F) : ∃ x r, s = .int x :: r ∧ F x r := by
  unfold mj_pI at h
  split at h
  · exact ⟨_, _, rfl, h⟩
  · exact h.elim
theorem mj_pL_e {s : List Value} {F : Int64 → List Value → Prop} (h : mj_pL s F) : ∃ x r, s = .long x :: r ∧ F x r := by
  unfold mj_pL at h
  split at h
  · exact ⟨_, _, rfl, h⟩
  · exact h.elim
theorem mj_pR_e {s : List Value} {F : Nat → List Value → Prop} (h : mj_pR s F) : ∃ x r, s = .ref x :: r ∧ F x r := by
  unfold mj_pR at h
  split at h
  · exact ⟨_, _, rfl, h⟩
  · exact h.elim
theorem mj_fd_mem {α : Type} : ∀ {l : List (Nat × α)} {i : Nat} {v : α}, mj_fd l i = some v → (i, v) ∈ l
  | [], i, v, h => by simp [mj_fd] at h
  | q :: r, i, v, h => by
    unfold mj_fd at h
    split at h
    · rename_i e
      have e2 : q.1 = i := Nat.eq_of_beq_eq_true e
      cases h
      rw [← e2]
      exact List.mem_cons_self
    · exact List.mem_cons_of_mem _ (mj_fd_mem h)
theorem mj_lI_e {l : mj_L} {i : Nat} {F : Int32 → Prop} (h : mj_lI l i F) : ∃ x, (i, Value.int x) ∈ l ∧ F x := by
  unfold mj_lI at h
  split at h
  · rename_i e
    exact ⟨_, mj_fd_mem e, h⟩
  · exact h.elim
theorem mj_lL_e {l : mj_L} {i : Nat} {F : Int64 → Prop} (h : mj_lL l i F) : ∃ x, (i, Value.long x) ∈ l ∧ F x := by
  unfold mj_lL at h
  split at h
  · rename_i e
    exact ⟨_, mj_fd_mem e, h⟩
  · exact h.elim
theorem mj_lR_e {l : mj_L} {i : Nat} {F : Nat → Prop} (h : mj_lR l i F) : ∃ x, (i, Value.ref x) ∈ l ∧ F x := by
  unfold mj_lR at h
  split at h
  · rename_i e
    exact ⟨_, mj_fd_mem e, h⟩
  · exact h.elim
theorem mj_nth_eq {α : Type} : ∀ (l : List α) (n : Nat), mj_nth l n = l[n]?
  | [], n => by simp [mj_nth]
  | x :: r, 0 => by simp [mj_nth]
  | x :: r, n + 1 => by simp [mj_nth, mj_nth_eq r n]
theorem mj_sh_e {S : mj_S} {q t : Nat} {F : Nat → Prop} (h : mj_sh S q t F) : ∃ n, S[q]? = some (t, n) ∧ F n := by
  unfold mj_sh at h
  split at h
  · rename_i z e
    split at h
    · rename_i e2
      have e3 : z.1 = t := Nat.eq_of_beq_eq_true e2
      refine ⟨z.2, ?_, h⟩
      rw [← mj_nth_eq, e, ← e3]
    · exact h.elim
  · exact h.elim
theorem mj_if_e {b : Bool} {P : Prop} (h : mj_if b P) : b = true ∧ P := by
  cases b
  · exact h.elim
  · exact ⟨rfl, h⟩
theorem mj_in_e {x y : Nat × Value} : ∀ {l : mj_L}, y ∈ mj_in x l → y = x ∨ y ∈ l
  | [], h => by
    simp [mj_in] at h
    exact Or.inl h
  | q :: r, h => by
    unfold mj_in at h
    split at h
    · rcases List.mem_cons.mp h with h | h
      · exact Or.inr (h ▸ List.mem_cons_self)
      · rcases mj_in_e h with h | h
        · exact Or.inl h
        · exact Or.inr (List.mem_cons_of_mem _ h)
    · rcases List.mem_cons.mp h with h | h
      · exact Or.inl h
      · exact Or.inr h
end
section
/-! a walk goes one way: what holds for some x at its end, holds for some x of the whole walk -/
section MJX
variable {ι : Type}
theorem mj_x_pI {s : List Value} {F : ι → Int32 → List Value → Prop} : mj_pI s (fun x r => ∃ i, F i x r) ↔ ∃ i, mj_pI s (F i) := by
  cases s with
  | nil => simp [mj_pI]
  | cons v r => cases v <;> simp [mj_pI]
theorem mj_x_pL {s : List Value} {F : ι → Int64 → List Value → Prop} : mj_pL s (fun x r => ∃ i, F i x r) ↔ ∃ i, mj_pL s (F i) := by
  cases s with
  | nil => simp [mj_pL]
  | cons v r => cases v <;> simp [mj_pL]
theorem mj_x_pR {s : List Value} {F : ι → Nat → List Value → Prop} : mj_pR s (fun x r => ∃ i, F i x r) ↔ ∃ i, mj_pR s (F i) := by
  cases s with
  | nil => simp [mj_pR]
  | cons v r => cases v <;> simp [mj_pR]
theorem mj_x_lI {l : mj_L} {n : Nat} {F : ι → Int32 → Prop} : mj_lI l n (fun x => ∃ i, F i x) ↔ ∃ i, mj_lI l n (F i) := by
  unfold mj_lI
  cases mj_fd l n with
  | none => simp
  | some v => cases v <;> simp
theorem mj_x_lL {l : mj_L} {n : Nat} {F : ι → Int64 → Prop} : mj_lL l n (fun x => ∃ i, F i x) ↔ ∃ i, mj_lL l n (F i) := by
  unfold mj_lL
  cases mj_fd l n with
  | none => simp
  | some v => cases v <;> simp
theorem mj_x_lR {l : mj_L} {n : Nat} {F : ι → Nat → Prop} : mj_lR l n (fun x => ∃ i, F i x) ↔ ∃ i, mj_lR l n (F i) := by
  unfold mj_lR
  cases mj_fd l n with
  | none => simp
  | some v => cases v <;> simp
theorem mj_x_sh {S : mj_S} {q t : Nat} {F : ι → Nat → Prop} : mj_sh S q t (fun x => ∃ i, F i x) ↔ ∃ i, mj_sh S q t (F i) := by
  unfold mj_sh
  cases mj_nth S q with
  | none => simp
  | some z =>
    show (match Nat.beq z.1 t with | true => ∃ i, F i z.2 | false => False) ↔ ∃ i, match Nat.beq z.1 t with | true => F i z.2 | false => False
    generalize Nat.beq z.1 t = b
    cases b <;> simp
theorem mj_x_if {b : Bool} {F : ι → Prop} : mj_if b (∃ i, F i) ↔ ∃ i, mj_if b (F i) := by
  cases b <;> simp [mj_if]
theorem mj_x_sw {d : Nat} {x : Int32} {F : ι → Nat → Prop} : ∀ sw : List (Int32 × Nat), mj_sw sw d x (fun t => ∃ i, F i t) ↔ ∃ i, mj_sw sw d x (F i)
  | [] => Iff.rfl
  | q :: r => by
    unfold mj_sw
    by_cases h : x = q.1
    · simp only [h, if_true]
    · simp only [h, if_false]
      exact mj_x_sw r
theorem mj_x_rt {c : Nat} {f : mj_R → Prop} {r : List Value} {g : mj_H} {F : ι → List Value → mj_H → Prop} (h : mj_rt c f r g (fun x y => ∃ i, F i x y)) : ∃ i, mj_rt c f r g (F i) := by
  match c, h with
  | 0, h => obtain ⟨I, J, h1, i, h2⟩ := h; exact ⟨i, I, J, h1, h2⟩
  | 1, h => obtain ⟨x, I, J, h1, i, h2⟩ := h; exact ⟨i, x, I, J, h1, h2⟩
  | 2, h => obtain ⟨x, I, J, h1, i, h2⟩ := h; exact ⟨i, x, I, J, h1, h2⟩
  | _ + 3, h => obtain ⟨x, I, h1, i, h2⟩ := h; exact ⟨i, x, I, h1, h2⟩
theorem mj_x_cl {S : mj_S} {cal : Nat → List Value → mj_H → mj_R → Prop} {z n c d : Nat} {s : List Value} {h : mj_H} {k : ι → List Value → mj_H → Prop} (hm : mj_cl S cal z n c d s h (fun r h => ∃ i, k i r h)) : ∃ i, mj_cl S cal z n c d s h (k i) := by
  unfold mj_cl at hm
  obtain ⟨h1, h2, h4⟩ := mj_if_e hm
  obtain ⟨i, h5⟩ := mj_x_rt h4
  refine ⟨i, ?_⟩
  unfold mj_cl
  rw [h1]
  exact ⟨h2, h5⟩
theorem mj_x_ite {c : Prop} [Decidable c] {A B : ι → Prop} : (if c then ∃ i, A i else ∃ i, B i) ↔ ∃ i, if c then A i else B i := by
  by_cases h : c <;> simp [h]
set_option maxHeartbeats 4000000 in
theorem mj_x_ins {S : mj_S} {cal : Nat → List Value → mj_H → mj_R → Prop} {Q : ι → mj_R → Prop} {jmp : ι → Nat → mj_K} {i : Jvm.ClassFile.Instr} {a b c d : Nat} {v : Int32} {w : Int64} {sw : List (Int32 × Nat)} {l : mj_L} {s : List Value} {h : mj_H} {k : ι → mj_K}
    (hm : mj_ins S cal (fun r => ∃ x, Q x r) (fun t l s h => ∃ x, jmp x t l s h) i a b c d v w sw l s h (fun l s h => ∃ x, k x l s h)) : ∃ x, mj_ins S cal (Q x) (jmp x) i a b c d v w sw l s h (k x) := by
  cases i with
  | iconst _ => exact hm
  | bipush _ => exact hm
  | sipush _ => exact hm
  | ldc _ => exact hm
  | ldc_w _ => exact hm
  | lconst _ => exact hm
  | ldc2_w _ => exact hm
  | iload_n n => exact mj_x_lI.mp hm
  | iload n => exact mj_x_lI.mp hm
  | lload_n n => exact mj_x_lL.mp hm
  | lload n => exact mj_x_lL.mp hm
  | aload_n n => exact mj_x_lR.mp hm
  | aload n => exact mj_x_lR.mp hm
  | istore_n n => simp only [mj_ins, mj_fl_eq] at hm ⊢; exact mj_x_pI.mp hm
  | istore n => simp only [mj_ins, mj_fl_eq] at hm ⊢; exact mj_x_pI.mp hm
  | lstore_n n => simp only [mj_ins, mj_fl_eq] at hm ⊢; exact mj_x_pL.mp hm
  | lstore n => simp only [mj_ins, mj_fl_eq] at hm ⊢; exact mj_x_pL.mp hm
  | astore_n n => simp only [mj_ins, mj_fl_eq] at hm ⊢; exact mj_x_pR.mp hm
  | astore n => simp only [mj_ins, mj_fl_eq] at hm ⊢; exact mj_x_pR.mp hm
  | iinc n _ => simp only [mj_ins, mj_fl_eq] at hm ⊢; exact mj_x_lI.mp hm
  | iadd => simp only [mj_ins, mj_x_pI] at hm ⊢; exact hm
  | isub => simp only [mj_ins, mj_x_pI] at hm ⊢; exact hm
  | imul => simp only [mj_ins, mj_x_pI] at hm ⊢; exact hm
  | iand => simp only [mj_ins, mj_x_pI] at hm ⊢; exact hm
  | ior => simp only [mj_ins, mj_x_pI] at hm ⊢; exact hm
  | ixor => simp only [mj_ins, mj_x_pI] at hm ⊢; exact hm
  | idiv => simp only [mj_ins, mj_x_pI, ← exists_and_left] at hm ⊢; exact hm
  | irem => simp only [mj_ins, mj_x_pI, ← exists_and_left] at hm ⊢; exact hm
  | ineg => exact mj_x_pI.mp hm
  | ishl => simp only [mj_ins, mj_x_pI] at hm ⊢; exact hm
  | ishr => simp only [mj_ins, mj_x_pI] at hm ⊢; exact hm
  | iushr => simp only [mj_ins, mj_x_pI] at hm ⊢; exact hm
  | ladd => simp only [mj_ins, mj_x_pL] at hm ⊢; exact hm
  | lsub => simp only [mj_ins, mj_x_pL] at hm ⊢; exact hm
  | lmul => simp only [mj_ins, mj_x_pL] at hm ⊢; exact hm
  | land => simp only [mj_ins, mj_x_pL] at hm ⊢; exact hm
  | lor => simp only [mj_ins, mj_x_pL] at hm ⊢; exact hm
  | lxor => simp only [mj_ins, mj_x_pL] at hm ⊢; exact hm
  | ldiv => simp only [mj_ins, mj_x_pL, ← exists_and_left] at hm ⊢; exact hm
  | lrem => simp only [mj_ins, mj_x_pL, ← exists_and_left] at hm ⊢; exact hm
  | lneg => exact mj_x_pL.mp hm
  | lshl => simp only [mj_ins, mj_x_pI, mj_x_pL] at hm ⊢; exact hm
  | lshr => simp only [mj_ins, mj_x_pI, mj_x_pL] at hm ⊢; exact hm
  | lushr => simp only [mj_ins, mj_x_pI, mj_x_pL] at hm ⊢; exact hm
  | lcmp => simp only [mj_ins, mj_x_pL] at hm ⊢; exact hm
  | i2l => exact mj_x_pI.mp hm
  | l2i => exact mj_x_pL.mp hm
  | dup =>
    simp only [mj_ins] at hm ⊢
    split at hm
    · exact hm
    · exact hm
    · exact hm.elim
  | dup2 => simp only [mj_ins, mj_x_pI, mj_x_pR] at hm ⊢; exact hm
  | getfield _ =>
    simp only [mj_ins] at hm ⊢
    split at hm <;> (simp only [mj_x_pR, mj_x_sh, mj_x_if] at hm; exact hm)
  | putfield _ =>
    simp only [mj_ins] at hm ⊢
    split at hm <;> (simp only [mj_x_pI, mj_x_pL, mj_x_pR, mj_x_sh, mj_x_if, ← exists_and_left] at hm; exact hm)
  | iaload => simp only [mj_ins, mj_x_pI, mj_x_pR, mj_x_sh, ← exists_and_left] at hm ⊢; exact hm
  | laload => simp only [mj_ins, mj_x_pI, mj_x_pR, mj_x_sh, ← exists_and_left] at hm ⊢; exact hm
  | baload => simp only [mj_ins, mj_x_pI, mj_x_pR, mj_x_sh, ← exists_and_left] at hm ⊢; exact hm
  | iastore => simp only [mj_ins, mj_x_pI, mj_x_pR, mj_x_sh, ← exists_and_left] at hm ⊢; exact hm
  | lastore => simp only [mj_ins, mj_x_pI, mj_x_pL, mj_x_pR, mj_x_sh, ← exists_and_left] at hm ⊢; exact hm
  | bastore => simp only [mj_ins, mj_x_pI, mj_x_pR, mj_x_sh, ← exists_and_left] at hm ⊢; exact hm
  | goto _ => exact hm
  | ifCond o _ => cases o <;> (simp only [mj_ins, mj_x_pI, mj_x_ite] at hm ⊢; exact hm)
  | if_icmp o _ => cases o <;> (simp only [mj_ins, mj_x_pI, mj_x_ite] at hm ⊢; exact hm)
  | tableswitch _ _ _ _ => simp only [mj_ins, mj_x_pI, mj_x_sw] at hm ⊢; exact hm
  | lookupswitch _ _ => simp only [mj_ins, mj_x_pI, mj_x_sw] at hm ⊢; exact hm
  | invokevirtual _ => exact mj_x_cl hm
  | invokestatic _ =>
    simp only [mj_ins] at hm ⊢
    split at hm
    · simp only [mj_x_pI, mj_x_pR, mj_x_sh, mj_x_if, ← exists_and_left] at hm; exact hm
    · exact mj_x_cl hm
  | return_ =>
    simp only [mj_ins] at hm ⊢
    split at hm
    · exact hm
    · exact hm.elim
  | ireturn =>
    simp only [mj_ins] at hm ⊢
    split at hm
    · split at hm
      · exact hm
      · obtain ⟨h1, x, h2⟩ := hm; exact ⟨x, h1, h2⟩
    · exact hm.elim
  | lreturn =>
    simp only [mj_ins] at hm ⊢
    split at hm
    · exact hm
    · exact hm.elim
  | areturn =>
    simp only [mj_ins] at hm ⊢
    split at hm
    · exact hm
    · exact hm.elim
  | _ => exact hm.elim
end MJX
/-! more at the end: more of the whole walk -/
section MJM
theorem mj_m_pI {s : List Value} {F G : Int32 → List Value → Prop} (h : ∀ x r, F x r → G x r) (hm : mj_pI s F) : mj_pI s G := by
  obtain ⟨x, r, rfl, q⟩ := mj_pI_e hm
  exact h _ _ q
theorem mj_m_pL {s : List Value} {F G : Int64 → List Value → Prop} (h : ∀ x r, F x r → G x r) (hm : mj_pL s F) : mj_pL s G := by
  obtain ⟨x, r, rfl, q⟩ := mj_pL_e hm
  exact h _ _ q
theorem mj_m_pR {s : List Value} {F G : Nat → List Value → Prop} (h : ∀ x r, F x r → G x r) (hm : mj_pR s F) : mj_pR s G := by
  obtain ⟨x, r, rfl, q⟩ := mj_pR_e hm
  exact h _ _ q
theorem mj_m_lI {l : mj_L} {n : Nat} {F G : Int32 → Prop} (h : ∀ x, F x → G x) (hm : mj_lI l n F) : mj_lI l n G := by
  unfold mj_lI at hm ⊢
  split at hm
  · exact h _ hm
  · exact hm.elim
theorem mj_m_lL {l : mj_L} {n : Nat} {F G : Int64 → Prop} (h : ∀ x, F x → G x) (hm : mj_lL l n F) : mj_lL l n G := by
  unfold mj_lL at hm ⊢
  split at hm
  · exact h _ hm
  · exact hm.elim
theorem mj_m_lR {l : mj_L} {n : Nat} {F G : Nat → Prop} (h : ∀ x, F x → G x) (hm : mj_lR l n F) : mj_lR l n G := by
  unfold mj_lR at hm ⊢
  split at hm
  · exact h _ hm
  · exact hm.elim
theorem mj_m_sh {S : mj_S} {q t : Nat} {F G : Nat → Prop} (h : ∀ x, F x → G x) (hm : mj_sh S q t F) : mj_sh S q t G := by
  unfold mj_sh at hm ⊢
  split at hm
  · split at hm
    · exact h _ hm
    · exact hm.elim
  · exact hm.elim
theorem mj_m_if {b : Bool} {F G : Prop} (h : F → G) (hm : mj_if b F) : mj_if b G := by
  cases b
  · exact hm
  · exact h hm
theorem mj_m_sw {d : Nat} {x : Int32} {F G : Nat → Prop} (h : ∀ x, F x → G x) : ∀ sw : List (Int32 × Nat), mj_sw sw d x F → mj_sw sw d x G
  | [], hm => h _ hm
  | q :: r, hm => by
    unfold mj_sw at hm ⊢
    by_cases e : x = q.1
    · rw [if_pos e] at hm ⊢; exact h _ hm
    · rw [if_neg e] at hm ⊢; exact mj_m_sw h r hm
theorem mj_m_rt {c : Nat} {f f' : mj_R → Prop} {r : List Value} {g : mj_H} {F G : List Value → mj_H → Prop} (hf : ∀ q, f q → f' q) (hk : ∀ x y, F x y → G x y) (h : mj_rt c f r g F) : mj_rt c f' r g G := by
  match c, h with
  | 0, h => obtain ⟨I, J, h1, h2⟩ := h; exact ⟨I, J, hf _ h1, hk _ _ h2⟩
  | 1, h => obtain ⟨x, I, J, h1, h2⟩ := h; exact ⟨x, I, J, hf _ h1, hk _ _ h2⟩
  | 2, h => obtain ⟨x, I, J, h1, h2⟩ := h; exact ⟨x, I, J, hf _ h1, hk _ _ h2⟩
  | _ + 3, h => obtain ⟨x, I, h1, h2⟩ := h; exact ⟨x, I, hf _ h1, hk _ _ h2⟩
theorem mj_m_cl {S : mj_S} {cal cal' : Nat → List Value → mj_H → mj_R → Prop} {z n c d : Nat} {s : List Value} {h : mj_H} {k k' : List Value → mj_H → Prop} (hc : ∀ z as h r, cal z as h r → cal' z as h r) (hk : ∀ r h, k r h → k' r h) (hm : mj_cl S cal z n c d s h k) : mj_cl S cal' z n c d s h k' := by
  unfold mj_cl at hm ⊢
  exact mj_m_if (fun q => ⟨q.1, mj_m_rt (fun _ => hc _ _ _ _) hk q.2⟩) hm
theorem mj_m_ite {c : Prop} [Decidable c] {A B A' B' : Prop} (ha : A → A') (hb : B → B') (hm : if c then A else B) : if c then A' else B' := by
  by_cases h : c
  · rw [if_pos h] at hm ⊢; exact ha hm
  · rw [if_neg h] at hm ⊢; exact hb hm
set_option maxHeartbeats 4000000 in
theorem mj_m_ins {S : mj_S} {cal cal' : Nat → List Value → mj_H → mj_R → Prop} {Q Q' : mj_R → Prop} {jmp jmp' : Nat → mj_K} {i : Jvm.ClassFile.Instr} {a b c d : Nat} {v : Int32} {w : Int64} {sw : List (Int32 × Nat)} {l : mj_L} {s : List Value} {h : mj_H} {k k' : mj_K}
    (hc : ∀ z as h r, cal z as h r → cal' z as h r) (hQ : ∀ r, Q r → Q' r) (hj : ∀ t l s h, jmp t l s h → jmp' t l s h) (hk : ∀ l s h, k l s h → k' l s h)
    (hm : mj_ins S cal Q jmp i a b c d v w sw l s h k) : mj_ins S cal' Q' jmp' i a b c d v w sw l s h k' := by
  cases i with
  | iconst _ => exact hk _ _ _ hm
  | bipush _ => exact hk _ _ _ hm
  | sipush _ => exact hk _ _ _ hm
  | ldc _ => exact hk _ _ _ hm
  | ldc_w _ => exact hk _ _ _ hm
  | lconst _ => exact hk _ _ _ hm
  | ldc2_w _ => exact hk _ _ _ hm
  | iload_n n => exact mj_m_lI (fun _ => hk _ _ _) hm
  | iload n => exact mj_m_lI (fun _ => hk _ _ _) hm
  | lload_n n => exact mj_m_lL (fun _ => hk _ _ _) hm
  | lload n => exact mj_m_lL (fun _ => hk _ _ _) hm
  | aload_n n => exact mj_m_lR (fun _ => hk _ _ _) hm
  | aload n => exact mj_m_lR (fun _ => hk _ _ _) hm
  | istore_n n => simp only [mj_ins, mj_fl_eq] at hm ⊢; exact mj_m_pI (fun _ _ => hk _ _ _) hm
  | istore n => simp only [mj_ins, mj_fl_eq] at hm ⊢; exact mj_m_pI (fun _ _ => hk _ _ _) hm
  | lstore_n n => simp only [mj_ins, mj_fl_eq] at hm ⊢; exact mj_m_pL (fun _ _ => hk _ _ _) hm
  | lstore n => simp only [mj_ins, mj_fl_eq] at hm ⊢; exact mj_m_pL (fun _ _ => hk _ _ _) hm
  | astore_n n => simp only [mj_ins, mj_fl_eq] at hm ⊢; exact mj_m_pR (fun _ _ => hk _ _ _) hm
  | astore n => simp only [mj_ins, mj_fl_eq] at hm ⊢; exact mj_m_pR (fun _ _ => hk _ _ _) hm
  | iinc n _ => simp only [mj_ins, mj_fl_eq] at hm ⊢; exact mj_m_lI (fun _ => hk _ _ _) hm
  | iadd => exact mj_m_pI (fun _ _ => mj_m_pI (fun _ _ => hk _ _ _)) hm
  | isub => exact mj_m_pI (fun _ _ => mj_m_pI (fun _ _ => hk _ _ _)) hm
  | imul => exact mj_m_pI (fun _ _ => mj_m_pI (fun _ _ => hk _ _ _)) hm
  | iand => exact mj_m_pI (fun _ _ => mj_m_pI (fun _ _ => hk _ _ _)) hm
  | ior => exact mj_m_pI (fun _ _ => mj_m_pI (fun _ _ => hk _ _ _)) hm
  | ixor => exact mj_m_pI (fun _ _ => mj_m_pI (fun _ _ => hk _ _ _)) hm
  | idiv => exact mj_m_pI (fun _ _ => mj_m_pI (fun _ _ q => ⟨q.1, hk _ _ _ q.2⟩)) hm
  | irem => exact mj_m_pI (fun _ _ => mj_m_pI (fun _ _ q => ⟨q.1, hk _ _ _ q.2⟩)) hm
  | ineg => exact mj_m_pI (fun _ _ => hk _ _ _) hm
  | ishl => exact mj_m_pI (fun _ _ => mj_m_pI (fun _ _ => hk _ _ _)) hm
  | ishr => exact mj_m_pI (fun _ _ => mj_m_pI (fun _ _ => hk _ _ _)) hm
  | iushr => exact mj_m_pI (fun _ _ => mj_m_pI (fun _ _ => hk _ _ _)) hm
  | ladd => exact mj_m_pL (fun _ _ => mj_m_pL (fun _ _ => hk _ _ _)) hm
  | lsub => exact mj_m_pL (fun _ _ => mj_m_pL (fun _ _ => hk _ _ _)) hm
  | lmul => exact mj_m_pL (fun _ _ => mj_m_pL (fun _ _ => hk _ _ _)) hm
  | land => exact mj_m_pL (fun _ _ => mj_m_pL (fun _ _ => hk _ _ _)) hm
  | lor => exact mj_m_pL (fun _ _ => mj_m_pL (fun _ _ => hk _ _ _)) hm
  | lxor => exact mj_m_pL (fun _ _ => mj_m_pL (fun _ _ => hk _ _ _)) hm
  | ldiv => exact mj_m_pL (fun _ _ => mj_m_pL (fun _ _ q => ⟨q.1, hk _ _ _ q.2⟩)) hm
  | lrem => exact mj_m_pL (fun _ _ => mj_m_pL (fun _ _ q => ⟨q.1, hk _ _ _ q.2⟩)) hm
  | lneg => exact mj_m_pL (fun _ _ => hk _ _ _) hm
  | lshl => exact mj_m_pI (fun _ _ => mj_m_pL (fun _ _ => hk _ _ _)) hm
  | lshr => exact mj_m_pI (fun _ _ => mj_m_pL (fun _ _ => hk _ _ _)) hm
  | lushr => exact mj_m_pI (fun _ _ => mj_m_pL (fun _ _ => hk _ _ _)) hm
  | lcmp => exact mj_m_pL (fun _ _ => mj_m_pL (fun _ _ => hk _ _ _)) hm
  | i2l => exact mj_m_pI (fun _ _ => hk _ _ _) hm
  | l2i => exact mj_m_pL (fun _ _ => hk _ _ _) hm
  | dup =>
    simp only [mj_ins] at hm ⊢
    split at hm
    · exact hk _ _ _ hm
    · exact hk _ _ _ hm
    · exact hm.elim
  | dup2 => exact mj_m_pI (fun _ _ => mj_m_pR (fun _ _ => hk _ _ _)) hm
  | getfield _ =>
    refine mj_m_pR (fun _ _ => mj_m_sh (fun _ => mj_m_if (fun q => ?_))) hm
    split at q
    · exact hk _ _ _ q
    · exact hk _ _ _ q
    · exact hk _ _ _ q
  | putfield _ =>
    simp only [mj_ins] at hm ⊢
    split at hm
    · exact mj_m_pL (fun _ _ => mj_m_pR (fun _ _ => mj_m_sh (fun _ => mj_m_if (hk _ _ _)))) hm
    · exact mj_m_pR (fun _ _ => mj_m_pR (fun _ _ => mj_m_sh (fun _ => mj_m_if (hk _ _ _)))) hm
    · exact mj_m_pI (fun _ _ => mj_m_pR (fun _ _ => mj_m_sh (fun _ => mj_m_if (fun q => ⟨q.1, hk _ _ _ q.2⟩)))) hm
    · exact mj_m_pI (fun _ _ => mj_m_pR (fun _ _ => mj_m_sh (fun _ => mj_m_if (hk _ _ _)))) hm
  | iaload => exact mj_m_pI (fun _ _ => mj_m_pR (fun _ _ => mj_m_sh (fun _ q => ⟨q.1, hk _ _ _ q.2⟩))) hm
  | laload => exact mj_m_pI (fun _ _ => mj_m_pR (fun _ _ => mj_m_sh (fun _ q => ⟨q.1, hk _ _ _ q.2⟩))) hm
  | baload => exact mj_m_pI (fun _ _ => mj_m_pR (fun _ _ => mj_m_sh (fun _ q => ⟨q.1, hk _ _ _ q.2⟩))) hm
  | iastore => exact mj_m_pI (fun _ _ => mj_m_pI (fun _ _ => mj_m_pR (fun _ _ => mj_m_sh (fun _ q => ⟨q.1, hk _ _ _ q.2⟩)))) hm
  | lastore => exact mj_m_pL (fun _ _ => mj_m_pI (fun _ _ => mj_m_pR (fun _ _ => mj_m_sh (fun _ q => ⟨q.1, hk _ _ _ q.2⟩)))) hm
  | bastore => exact mj_m_pI (fun _ _ => mj_m_pI (fun _ _ => mj_m_pR (fun _ _ => mj_m_sh (fun _ q => ⟨q.1, hk _ _ _ q.2⟩)))) hm
  | goto _ => exact hj _ _ _ _ hm
  | ifCond o _ =>
    refine mj_m_pI (fun _ _ q => ?_) hm
    cases o <;> exact mj_m_ite (by first | exact hj _ _ _ _ | exact hk _ _ _) (by first | exact hj _ _ _ _ | exact hk _ _ _) q
  | if_icmp o _ =>
    refine mj_m_pI (fun _ _ => mj_m_pI (fun _ _ q => ?_)) hm
    cases o <;> exact mj_m_ite (by first | exact hj _ _ _ _ | exact hk _ _ _) (by first | exact hj _ _ _ _ | exact hk _ _ _) q
  | tableswitch _ _ _ _ => exact mj_m_pI (fun _ _ => mj_m_sw (fun _ => hj _ _ _ _) _) hm
  | lookupswitch _ _ => exact mj_m_pI (fun _ _ => mj_m_sw (fun _ => hj _ _ _ _) _) hm
  | invokevirtual _ => exact mj_m_cl hc (fun _ _ => hk _ _ _) hm
  | invokestatic _ =>
    simp only [mj_ins] at hm ⊢
    split at hm
    · exact mj_m_pI (fun _ _ => mj_m_pI (fun _ _ => mj_m_pR (fun _ _ => mj_m_pI (fun _ _ => mj_m_pR (fun _ _ => mj_m_sh (fun _ => mj_m_sh (fun _ q => ⟨q.1, mj_m_if (hk _ _ _) q.2⟩))))))) hm
    · exact mj_m_cl hc (fun _ _ => hk _ _ _) hm
  | return_ =>
    simp only [mj_ins] at hm ⊢
    split at hm
    · exact hQ _ hm
    · exact hm.elim
  | ireturn =>
    simp only [mj_ins] at hm ⊢
    split at hm
    · split at hm
      · exact hQ _ hm
      · exact ⟨hm.1, hQ _ hm.2⟩
    · exact hm.elim
  | lreturn =>
    simp only [mj_ins] at hm ⊢
    split at hm
    · exact hQ _ hm
    · exact hm.elim
  | areturn =>
    simp only [mj_ins] at hm ⊢
    split at hm
    · exact hQ _ hm
    · exact hm.elim
  | _ => exact hm.elim
theorem mj_m_bk {S : mj_S} {cal cal' : Nat → List Value → mj_H → mj_R → Prop} {Q Q' : mj_R → Prop} {jmp jmp' : Nat → mj_K}
    (hc : ∀ z as h r, cal z as h r → cal' z as h r) (hQ : ∀ r, Q r → Q' r) (hj : ∀ t l s h, jmp t l s h → jmp' t l s h) : ∀ (b : List mj_E) {pc : Nat} {l : mj_L} {s : List Value} {h : mj_H},
    mj_bk S cal Q jmp b pc l s h → mj_bk S cal' Q' jmp' b pc l s h
  | [], _, _, _, _, hm => hj _ _ _ _ hm
  | _ :: r, _, _, _, _, hm => mj_m_ins hc hQ hj (fun _ _ _ q => mj_m_bk hc hQ hj r q) hm
theorem mj_m_sg {S : mj_S} {C : mj_C} {cal cal' : Nat → List Value → mj_H → mj_R → Prop} {Q Q' : mj_R → Prop} {K K' : Nat → mj_K}
    (hc : ∀ z as h r, cal z as h r → cal' z as h r) (hQ : ∀ r, Q r → Q' r) (hK : ∀ t l s h, K t l s h → K' t l s h) : ∀ (m : Nat) {pc : Nat} {l : mj_L} {s : List Value} {h : mj_H},
    mj_sg S C cal Q K m pc l s h → mj_sg S C cal' Q' K' m pc l s h
  | 0, _, _, _, _, hm => hm.elim
  | m + 1, pc, l, s, h, hm => by
    unfold mj_sg at hm ⊢
    split at hm
    · exact hK _ _ _ _ hm
    · split at hm
      · exact mj_m_bk hc hQ (fun t l s h q => mj_m_sg hc hQ hK m q) _ hm
      · exact hm.elim
theorem mj_m_go {S : mj_S} {C : mj_C} {cal cal' : Nat → List Value → mj_H → mj_R → Prop} {Q Q' : mj_R → Prop} {K K' : Nat → mj_K}
    (hc : ∀ z as h r, cal z as h r → cal' z as h r) (hQ : ∀ r, Q r → Q' r) (hK : ∀ t l s h, K t l s h → K' t l s h) {pc : Nat} {l : mj_L} {s : List Value} {h : mj_H}
    (hm : mj_go S C cal Q K pc l s h) : mj_go S C cal' Q' K' pc l s h := by
  unfold mj_go at hm ⊢
  split at hm
  · exact mj_m_bk hc hQ (fun t l s h q => mj_m_sg hc hQ hK _ q) _ hm
  · exact hm.elim
theorem mj_m_rn {S : mj_S} {C : mj_C} {cal cal' : Nat → List Value → mj_H → mj_R → Prop} {Q Q' : mj_R → Prop}
    (hc : ∀ z as h r, cal z as h r → cal' z as h r) (hQ : ∀ r, Q r → Q' r) : ∀ (n : Nat) {pc : Nat} {l : mj_L} {s : List Value} {h : mj_H}, mj_rn S C cal Q n pc l s h → mj_rn S C cal' Q' n pc l s h
  | 0, _, _, _, _, hm => hm.elim
  | n + 1, _, _, _, _, hm => mj_m_go hc hQ (fun _ _ _ _ q => mj_m_rn hc hQ n q) hm
theorem mj_m_Ev {S : mj_S} {C : mj_C} {cal cal' : Nat → List Value → mj_H → mj_R → Prop} {Q Q' : mj_R → Prop}
    (hc : ∀ z as h r, cal z as h r → cal' z as h r) (hQ : ∀ r, Q r → Q' r) {pc : Nat} {l : mj_L} {s : List Value} {h : mj_H} (hm : mj_Ev S C cal Q pc l s h) : mj_Ev S C cal' Q' pc l s h := by
  obtain ⟨n, q⟩ := hm
  exact ⟨n, mj_m_rn hc hQ n q⟩
theorem mj_m_Cl {S : mj_S} {CD : Nat → mj_C} : ∀ (D : Nat) {z : Nat} {as : List Value} {h : mj_H} {r : mj_R}, mj_Cl S CD D z as h r → mj_Cl S CD (D + 1) z as h r
  | 0, _, _, _, _, hm => hm.elim
  | D + 1, z, as, h, r, hm => by
    have hc : ∀ z as h r, mj_Cl S CD D z as h r → mj_Cl S CD (D + 1) z as h r := fun _ _ _ _ q => mj_m_Cl D q
    have h2 : mj_if (Nat.ble (mj_sz as) (CD z).2.2) (mj_sg S (CD z) (mj_Cl S CD D) (fun x => x = r) (mj_Ev S (CD z) (mj_Cl S CD D) (fun x => x = r)) 100 0 (mj_a0 0 as) [] h) := hm
    exact mj_m_if (fun q => mj_m_sg hc (fun _ q => q) (fun _ _ _ _ q => mj_m_Ev hc (fun _ q => q) q) 100 q) h2
theorem mj_Cl_le {S : mj_S} {CD : Nat → mj_C} {D E : Nat} (hle : D ≤ E) {z : Nat} {as : List Value} {h : mj_H} {r : mj_R} (hm : mj_Cl S CD D z as h r) : mj_Cl S CD E z as h r := by
  induction hle with
  | refl => exact hm
  | step _ ih => exact mj_m_Cl _ ih
end MJM
section MJX2
variable {ι : Type}
theorem mj_x_bk {S : mj_S} {cal : Nat → List Value → mj_H → mj_R → Prop} {Q : ι → mj_R → Prop} {jmp : ι → Nat → mj_K} : ∀ (b : List mj_E) {pc : Nat} {l : mj_L} {s : List Value} {h : mj_H},
    mj_bk S cal (fun r => ∃ x, Q x r) (fun t l s h => ∃ x, jmp x t l s h) b pc l s h → ∃ x, mj_bk S cal (Q x) (jmp x) b pc l s h
  | [], _, _, _, _, hm => hm
  | _ :: r, _, _, _, _, hm => mj_x_ins (mj_m_ins (fun _ _ _ _ q => q) (fun _ q => q) (fun _ _ _ _ q => q) (fun _ _ _ q => mj_x_bk r q) hm)
theorem mj_x_sg {S : mj_S} {C : mj_C} {cal : Nat → List Value → mj_H → mj_R → Prop} {Q : ι → mj_R → Prop} {K : ι → Nat → mj_K} : ∀ (m : Nat) {pc : Nat} {l : mj_L} {s : List Value} {h : mj_H},
    mj_sg S C cal (fun r => ∃ x, Q x r) (fun t l s h => ∃ x, K x t l s h) m pc l s h → ∃ x, mj_sg S C cal (Q x) (K x) m pc l s h
  | 0, _, _, _, _, hm => hm.elim
  | m + 1, pc, l, s, h, hm => by
    unfold mj_sg at hm ⊢
    split at hm
    · exact hm
    · split at hm
      · exact mj_x_bk _ (mj_m_bk (fun _ _ _ _ q => q) (fun _ q => q) (fun t l s h q => mj_x_sg m q) _ hm)
      · exact hm.elim
theorem mj_x_go {S : mj_S} {C : mj_C} {cal : Nat → List Value → mj_H → mj_R → Prop} {Q : ι → mj_R → Prop} {K : ι → Nat → mj_K} {pc : Nat} {l : mj_L} {s : List Value} {h : mj_H}
    (hm : mj_go S C cal (fun r => ∃ x, Q x r) (fun t l s h => ∃ x, K x t l s h) pc l s h) : ∃ x, mj_go S C cal (Q x) (K x) pc l s h := by
  unfold mj_go at hm ⊢
  split at hm
  · exact mj_x_bk _ (mj_m_bk (fun _ _ _ _ q => q) (fun _ q => q) (fun t l s h q => mj_x_sg _ q) _ hm)
  · exact hm.elim
theorem mj_x_rn {S : mj_S} {C : mj_C} {cal : Nat → List Value → mj_H → mj_R → Prop} {Q : ι → mj_R → Prop} : ∀ (n : Nat) {pc : Nat} {l : mj_L} {s : List Value} {h : mj_H},
    mj_rn S C cal (fun r => ∃ x, Q x r) n pc l s h → ∃ x, mj_rn S C cal (Q x) n pc l s h
  | 0, _, _, _, _, hm => hm.elim
  | n + 1, _, _, _, _, hm => mj_x_go (K := fun x t l s h => mj_rn S C cal (Q x) n t l s h) (mj_m_go (fun _ _ _ _ q => q) (fun _ q => q) (fun _ _ _ _ q => mj_x_rn n q) hm)
theorem mj_x_Ev {S : mj_S} {C : mj_C} {cal : Nat → List Value → mj_H → mj_R → Prop} {Q : ι → mj_R → Prop} {pc : Nat} {l : mj_L} {s : List Value} {h : mj_H}
    (hm : mj_Ev S C cal (fun r => ∃ x, Q x r) pc l s h) : ∃ x, mj_Ev S C cal (Q x) pc l s h := by
  obtain ⟨n, q⟩ := hm
  obtain ⟨x, q⟩ := mj_x_rn n q
  exact ⟨x, n, q⟩
end MJX2
/-- on from a pc: what the walk comes to may be shown for each of the places where it halts -/
theorem mj_on {S : mj_S} {C : mj_C} {cal : Nat → List Value → mj_H → mj_R → Prop} {Q : mj_R → Prop} {pc : Nat} {l : mj_L} {s : List Value} {h : mj_H}
    (hm : mj_go S C cal Q (mj_Ev S C cal Q) pc l s h) : mj_Ev S C cal Q pc l s h := by
  have h2 : mj_go S C cal (fun r => ∃ _ : Nat, Q r) (fun t l s h => ∃ n, mj_rn S C cal Q n t l s h) pc l s h := mj_m_go (fun _ _ _ _ q => q) (fun _ q => ⟨0, q⟩) (fun _ _ _ _ q => q) hm
  obtain ⟨n, q⟩ := mj_x_go (Q := fun _ => Q) (K := fun n t l s h => mj_rn S C cal Q n t l s h) h2
  exact ⟨n + 1, q⟩
/-- a method from its entry, for any wish Q of its answer -/
theorem mj_call {S : mj_S} {CD : Nat → mj_C} {D z : Nat} {as : List Value} {h : mj_H} {Q : mj_R → Prop}
    (hm : mj_if (Nat.ble (mj_sz as) (CD z).2.2) (mj_sg S (CD z) (mj_Cl S CD D) Q (mj_Ev S (CD z) (mj_Cl S CD D) Q) 100 0 (mj_a0 0 as) [] h)) : ∃ r, Q r ∧ mj_Cl S CD (D + 1) z as h r := by
  obtain ⟨hz, hm⟩ := mj_if_e hm
  have h2 : mj_sg S (CD z) (mj_Cl S CD D) (fun r => ∃ x : { r : mj_R // Q r }, r = x.1) (fun t l s h => ∃ x : { r : mj_R // Q r }, mj_Ev S (CD z) (mj_Cl S CD D) (fun r => r = x.1) t l s h) 100 0 (mj_a0 0 as) [] h :=
    mj_m_sg (fun _ _ _ _ q => q) (fun r q => ⟨⟨r, q⟩, rfl⟩) (fun _ _ _ _ q => mj_x_Ev (Q := fun (x : { r : mj_R // Q r }) r => r = x.1) (mj_m_Ev (fun _ _ _ _ q => q) (fun r q => ⟨⟨r, q⟩, rfl⟩) q)) 100 hm
  obtain ⟨⟨r, hr⟩, q⟩ := mj_x_sg (Q := fun (x : { r : mj_R // Q r }) r => r = x.1) (K := fun (x : { r : mj_R // Q r }) t l s h => mj_Ev S (CD z) (mj_Cl S CD D) (fun r => r = x.1) t l s h) 100 h2
  have h3 : mj_if (Nat.ble (mj_sz as) (CD z).2.2) (mj_sg S (CD z) (mj_Cl S CD D) (fun x => x = r) (mj_Ev S (CD z) (mj_Cl S CD D) (fun x => x = r)) 100 0 (mj_a0 0 as) [] h) := by
    rw [hz]
    exact q
  exact ⟨r, hr, h3⟩
end
section
/-! THE SMALL MACHINE'S WORLD on the real heap, and what is to be checked of a code table -/
def mj_tr (ad : Nat → Nat) : Value → Value
  | .ref q => .ref (ad q)
  | v => v
def mj_tl (ad : Nat → Nat) (L : mj_L) : List (Nat × Value) := L.map (fun q => (q.1, mj_tr ad q.2))
def mj_rv (ad : Nat → Nat) : Value → Option Value
  | .null => none
  | v => some (mj_tr ad v)
def mj_fv (ad : Nat → Nat) (h : mj_H) (q k : Nat) : Nat → Value
  | 1 => .long (h.2.1 q k)
  | 2 => .ref (ad (h.2.2 q k))
  | _ => .int (h.1 q k)
def mj_ce (TY : Nat → Nat → FieldType) (T3 : Nat × Nat × Nat) (ad : Nat → Nat) (h : mj_H) (q : Nat) : Nat × Nat → va_E
  | (0, n) => .inl (T3.1, n, .inl (h.1 q))
  | (1, n) => .inl (T3.2.1, n, .inr (.inl (h.2.1 q)))
  | (2, n) => .inl (T3.2.2, n, .inl (h.1 q))
  | (t + 3, n) => .inr (t, (List.range n).map (fun k => mj_fv ad h q k (mj_tc (TY t k))))
def mj_W (S : mj_S) (TY : Nat → Nat → FieldType) (T3 : Nat × Nat × Nat) (ad : Nat → Nat) (h : mj_H) : va_W :=
  (List.range S.length).map (fun q => (ad q, mj_ce TY T3 ad h q (S.getD q (0, 0))))
def mj_A (ad : Nat → Nat) (n sz : Nat) : Nat → Prop := fun q => (∃ k, k < n ∧ q = ad k) ∨ sz ≤ q
def mj_tys (T3 : Nat × Nat × Nat) : List (ClassId × FieldType) := [(T3.1, .int), (T3.2.1, .long), (T3.2.2, .boolean)]
def mj_nest : Cond → Bool
  | .fieldLinkNest _ _ _ _ _ _ => true
  | .methodLinkNest _ _ _ _ => true
  | _ => false
/-- Met.ofW for a class of which no method of this name is the machine's own -/
theorem mj_ofW {l : Launch} {y : MethodName} {ws ws' : List Cond} {rm : Room} {Pc : Array Value → State → Prop} {Qc : Array Value → State → Outcome → State → Prop} {mc ms : Nat} {free : Addr → Prop} {cc : ByteArray} {maxL : Nat} {ret : Option FieldType}
    (hy : plainFor y = true) (hw : ws = Cond.code y cc maxL ret :: ws')
    (body : ∀ p e s m args below meth c s₁, BodyLoose p l y (headSpec ws rm) cc maxL ret e s m args below meth c s₁ → c.maxLocals = maxL → Pc args s →
      W p l e (headSpec ws rm).room s m args below meth c s.heap [] 0 0 (MQ below Qc args s mc ms free) (entryFrame m args maxL)) : Met l y ws rm Pc Qc mc ms free := by
  refine MetFree.of_bodySF (code := cc) (maxLocals := maxL) (ret := ret) hy ?_ ?_
  · intro args s m h hn
    obtain ⟨meth, c, h1, h2, h3, h4, h5, h6, -, -⟩ := Cond.code_spec hn (atoms_spec (ws := ws) h _ (by rw [hw]; exact List.mem_cons_self))
    exact ⟨meth, c, h1, h2, h3, h4, h5, h6⟩
  · intro p e s m args below meth c s₁ B hml hP _
    have hh0 : s₁.heap = s.heap := by rw [B.state]; rfl
    obtain ⟨t, a1, o, b1, b2, b3⟩ := body p e s m args below meth c s₁ B hml hP s₁ hh0 (Stand.of_body B)
    exact ⟨t, o, a1, b1, b2, ⟨b3.1, b3.2⟩⟩
-- small facts
theorem mj_sub {ls : Array Slot} {n : Nat} {l l' : List (Nat × Value)} (h : lv_has ls n l) (hs : ∀ q ∈ l', q ∈ l) : lv_has ls n l' := ⟨h.1, h.2.1, fun q hq => h.2.2 q (hs q hq)⟩
theorem mj_tl_mem {ad : Nat → Nat} {L : mj_L} {i : Nat} {v : Value} (h : (i, v) ∈ L) : (i, mj_tr ad v) ∈ mj_tl ad L := List.mem_map.mpr ⟨(i, v), h, rfl⟩
theorem mj_at {ls : Array Slot} {n : Nat} {ad : Nat → Nat} {L : mj_L} (h : lv_has ls n (mj_tl ad L)) {i : Nat} {v : Value} (hv : (i, v) ∈ L) : ls[i]? = some (.val (mj_tr ad v)) := h.2.2 (i, mj_tr ad v) (mj_tl_mem hv)
theorem mj_cat (ad : Nat → Nat) (v : Value) : (mj_tr ad v).category = v.category := by cases v <;> rfl
theorem mj_sz_eq (ad : Nat → Nat) : ∀ s : List Value, ((s.map (mj_tr ad)).map fun v => v.category).sum = mj_sz s
  | [] => rfl
  | v :: r => by
    simp only [List.map_cons, List.sum_cons, mj_sz, mj_cat]
    rw [mj_sz_eq ad r]
theorem mj_s1_has {ls : Array Slot} {nL i : Nat} {ad : Nat → Nat} {L : mj_L} {v : Value} (h : lv_has ls nL ((i, mj_tr ad v) :: (mj_tl ad L).filter (fun q => !(q.1 == i) && !(q.1 + 1 == i && q.2.category == 2)))) : lv_has ls nL (mj_tl ad (mj_s1 i v L)) := by
  refine mj_sub h fun q hq => ?_
  obtain ⟨x, hx, rfl⟩ := List.mem_map.mp hq
  rcases mj_in_e hx with rfl | hx
  · exact List.mem_cons_self
  · obtain ⟨h1, h2⟩ := List.mem_filter.mp hx
    refine List.mem_cons_of_mem _ (List.mem_filter.mpr ⟨mj_tl_mem h1, ?_⟩)
    simpa [mj_cat] using h2
theorem mj_s2_has {ls : Array Slot} {nL i : Nat} {ad : Nat → Nat} {L : mj_L} {v : Value} (h : lv_has ls nL ((i, mj_tr ad v) :: (mj_tl ad L).filter (fun q => !(q.1 == i) && (!(q.1 == i + 1) && !(q.1 + 1 == i && q.2.category == 2))))) : lv_has ls nL (mj_tl ad (mj_s2 i v L)) := by
  refine mj_sub h fun q hq => ?_
  obtain ⟨x, hx, rfl⟩ := List.mem_map.mp hq
  rcases mj_in_e hx with rfl | hx
  · exact List.mem_cons_self
  · obtain ⟨h1, h2⟩ := List.mem_filter.mp hx
    refine List.mem_cons_of_mem _ (List.mem_filter.mpr ⟨mj_tl_mem h1, ?_⟩)
    simpa [mj_cat] using h2
theorem mj_tm_has {ls : Array Slot} {nL : Nat} {ad : Nat → Nat} {L : mj_L} {ks : List Nat} (h : lv_has ls nL (mj_tl ad L)) : lv_has ls nL (mj_tl ad (mj_tm ks L)) := by
  refine mj_sub h fun q hq => ?_
  obtain ⟨x, hx, rfl⟩ := List.mem_map.mp hq
  exact List.mem_map.mpr ⟨x, (List.mem_filter.mp hx).1, rfl⟩
theorem mj_a0_eq (ad : Nat → Nat) : ∀ (vs : List Value) (i : Nat), lv_args i (vs.map (mj_tr ad)) = mj_tl ad (mj_a0 i vs)
  | [], _ => rfl
  | v :: vs, i => by
    show (i, mj_tr ad v) :: lv_args _ (vs.map (mj_tr ad)) = (i, mj_tr ad v) :: mj_tl ad (mj_a0 _ vs)
    rw [mj_cat, mj_a0_eq ad vs]
-- the world's cells
section MJW
variable {S : mj_S} {TY : Nat → Nat → FieldType} {T3 : Nat × Nat × Nat} {ad : Nat → Nat} {h h' : mj_H} {q n t : Nat}
theorem mj_W_at {z : Nat × Nat} (hq : S[q]? = some z) : (mj_W S TY T3 ad h)[q]? = some (ad q, mj_ce TY T3 ad h q z) := by
  have hl : q < S.length := (List.getElem?_eq_some_iff.mp hq).1
  have e : S.getD q (0, 0) = z := by simp [List.getD, hq]
  unfold mj_W
  rw [List.getElem?_map, List.getElem?_range hl]
  simp only [Option.map_some, e]
theorem mj_W_inv {e : Nat × va_E} (hq : (mj_W S TY T3 ad h)[q]? = some e) : q < S.length ∧ e = (ad q, mj_ce TY T3 ad h q (S.getD q (0, 0))) := by
  unfold mj_W at hq
  rw [List.getElem?_map] at hq
  cases h1 : (List.range S.length)[q]? with
  | none => rw [h1] at hq; cases hq
  | some j =>
    rw [h1] at hq
    obtain ⟨h2, h3⟩ := List.getElem?_eq_some_iff.mp h1
    simp only [List.length_range] at h2
    simp only [List.getElem_range] at h3
    subst h3
    simp only [Option.map_some, Option.some.injEq] at hq
    exact ⟨h2, hq.symm⟩
theorem mj_W_set {z : Nat × Nat} (hq : S[q]? = some z) (hk : ∀ k, k ≠ q → ∀ y, mj_ce TY T3 ad h' k y = mj_ce TY T3 ad h k y) : (mj_W S TY T3 ad h).set q (ad q, mj_ce TY T3 ad h' q z) = mj_W S TY T3 ad h' := by
  apply List.ext_getElem?
  intro k
  by_cases e : k = q
  · subst e
    rw [List.getElem?_set_self (by
      have := (List.getElem?_eq_some_iff.mp (mj_W_at (TY := TY) (T3 := T3) (ad := ad) (h := h) hq)).1
      exact this), mj_W_at hq]
  · rw [List.getElem?_set_ne (Ne.symm e)]
    unfold mj_W
    rw [List.getElem?_map, List.getElem?_map]
    cases h1 : (List.range S.length)[k]? with
    | none => rfl
    | some j =>
      obtain ⟨h2, h3⟩ := List.getElem?_eq_some_iff.mp h1
      simp only [List.getElem_range] at h3
      subst h3
      simp only [Option.map_some, hk _ e]
theorem mj_W_D {sz : Nat} (hinj : ∀ i j, i < S.length → j < S.length → ad i = ad j → i = j) : va_D (mj_A ad S.length sz) (mj_W S TY T3 ad h) := by
  refine ⟨fun i j x y hi hj e => ?_, fun k x hk => ?_⟩
  · obtain ⟨h1, rfl⟩ := mj_W_inv hi
    obtain ⟨h2, rfl⟩ := mj_W_inv hj
    exact hinj _ _ h1 h2 e
  · obtain ⟨h1, rfl⟩ := mj_W_inv hk
    exact Or.inl ⟨k, h1, rfl⟩
theorem mj_ce_up1 {k j : Nat} {x : Int32} (hk : k ≠ q) (y : Nat × Nat) : mj_ce TY T3 ad (mj_up h.1 q j x, h.2.1, h.2.2) k y = mj_ce TY T3 ad h k y := by
  have e : (mj_up h.1 q j x) k = h.1 k := by funext i; simp [mj_up, hk]
  obtain ⟨t, n⟩ := y
  match t with
  | 0 => simp only [mj_ce, e]
  | 1 => rfl
  | 2 => simp only [mj_ce, e]
  | t + 3 =>
    simp only [mj_ce, Sum.inr.injEq, Prod.mk.injEq, true_and]
    refine List.map_congr_left fun i _ => ?_
    unfold mj_fv
    split
    · rfl
    · rfl
    · simp only [e]
theorem mj_ce_up2 {k j : Nat} {x : Int64} (hk : k ≠ q) (y : Nat × Nat) : mj_ce TY T3 ad (h.1, mj_up h.2.1 q j x, h.2.2) k y = mj_ce TY T3 ad h k y := by
  have e : (mj_up h.2.1 q j x) k = h.2.1 k := by funext i; simp [mj_up, hk]
  obtain ⟨t, n⟩ := y
  match t with
  | 0 => rfl
  | 1 => simp only [mj_ce, e]
  | 2 => rfl
  | t + 3 =>
    simp only [mj_ce, Sum.inr.injEq, Prod.mk.injEq, true_and]
    refine List.map_congr_left fun i _ => ?_
    unfold mj_fv
    split
    · simp only [e]
    · rfl
    · rfl
theorem mj_ce_up3 {k j : Nat} {x : Nat} (hk : k ≠ q) (y : Nat × Nat) : mj_ce TY T3 ad (h.1, h.2.1, mj_up h.2.2 q j x) k y = mj_ce TY T3 ad h k y := by
  have e : (mj_up h.2.2 q j x) k = h.2.2 k := by funext i; simp [mj_up, hk]
  obtain ⟨t, n⟩ := y
  match t with
  | 0 => rfl
  | 1 => rfl
  | 2 => rfl
  | t + 3 =>
    simp only [mj_ce, Sum.inr.injEq, Prod.mk.injEq, true_and]
    refine List.map_congr_left fun i _ => ?_
    unfold mj_fv
    split
    · rfl
    · simp only [e]
    · rfl
theorem mj_fs_at {f : Nat → Value} {b : Nat} (hb : b < n) : ((List.range n).map f)[b]? = some (f b) := by
  rw [List.getElem?_map, List.getElem?_range hb]
  rfl
theorem mj_fs_set {f g : Nat → Value} {b : Nat} {v : Value} (hv : g b = v) (hk : ∀ k, k ≠ b → g k = f k) : ((List.range n).map f).set b v = (List.range n).map g := by
  apply List.ext_getElem?
  intro k
  by_cases e : k = b
  · subst e
    by_cases hl : k < n
    · rw [List.getElem?_set_self (by simpa using hl), mj_fs_at hl, hv]
    · rw [List.getElem?_eq_none (by simpa using Nat.le_of_not_lt hl), List.getElem?_eq_none (by simpa using Nat.le_of_not_lt hl)]
  · rw [List.getElem?_set_ne (Ne.symm e), List.getElem?_map, List.getElem?_map]
    cases h1 : (List.range n)[k]? with
    | none => rfl
    | some j =>
      obtain ⟨h2, h3⟩ := List.getElem?_eq_some_iff.mp h1
      simp only [List.getElem_range] at h3
      subst h3
      simp only [Option.map_some, hk _ e]
end MJW
end
section
/-! SOUNDNESS: what the small machine comes to, the method comes to -/
def mj_Pc (TB : List Cond) (CL : List vw_C) (TY : Nat → Nat → FieldType) (S : mj_S) (Dg : va_G) (T3 : Nat × Nat × Nat) (ad : Nat → Nat) (as : List Value) (h : mj_H) (sz : Nat) : Array Value → State → Prop :=
  va_Pc (as.map (mj_tr ad)) (fun U => U.heap.size = sz ∧ va_P Dg CL (mj_W S TY T3 ad h) U.heap ∧ va_K Dg CL (mj_tys T3) U ∧ ∀ w ∈ TB, mj_nest w = true → va_Nw w U)
def mj_Qc (CL : List vw_C) (TY : Nat → Nat → FieldType) (S : mj_S) (Dg : va_G) (T3 : Nat × Nat × Nat) (ad : Nat → Nat) (r : mj_R) (sz : Nat) : Array Value → State → Outcome → State → Prop :=
  fun _ st oc t => oc = .returned (mj_rv ad r.1) ∧ va_P Dg CL (mj_W S TY T3 ad r.2) t.heap ∧ va_F (mj_A ad S.length sz) st t
def mj_ws (TB : List Cond) (y : mj_M) : List Cond := Cond.code y.1 y.2.1 y.2.2.1 y.2.2.2 :: TB.filter goodWord
def mj_rm (D : Nat) : Room := { frames := D, cells := 0, slots := 0, locals := 64 * D }
/-- the contract that the small machine's answer r is -/
def mj_Met (l : Launch) (TB : List Cond) (CL : List vw_C) (TY : Nat → Nat → FieldType) (S : mj_S) (Dg : va_G) (T3 : Nat × Nat × Nat) (ad : Nat → Nat) (D : Nat) (y : mj_M) (as : List Value) (h : mj_H) (r : mj_R) : Prop :=
  ∀ sz, Met l y.1 (mj_ws TB y) (mj_rm D) (mj_Pc TB CL TY S Dg T3 ad as h sz) (mj_Qc CL TY S Dg T3 ad r sz) 0 0 (mj_A ad S.length sz)
theorem mj_good_in {TB : List Cond} {w : Cond} (h : w ∈ TB) (hg : goodWord w = true) : w ∈ TB.filter goodWord := List.mem_filter.mpr ⟨h, hg⟩
theorem mj_nw {TB : List Cond} {s U : State} (hW : s.WarmedH U.vm) (h : ∀ w ∈ TB, mj_nest w = true → va_Nw w s) : ∀ w ∈ TB, mj_nest w = true → va_Nw w U := by
  intro w hw hn
  have h1 := h w hw hn
  cases w <;> first | exact va_Nw.warmF hW h1 | exact va_Nw.warmM hW h1 | exact absurd (show false = true from hn) (by decide)
theorem mj_goodIn {TB : List Cond} {y : mj_M} (h : mj_okY TB y) : GoodIn (TB.filter goodWord) (mj_ws TB y) := by
  intro w hw
  rcases List.mem_cons.mp hw with rfl | hw
  · exact ⟨mj_good_in h.1 rfl, good_of_word rfl⟩
  · exact ⟨hw, good_of_word (List.mem_filter.mp hw).2⟩
theorem mj_blind {TB : List Cond} {CL : List vw_C} {TY : Nat → Nat → FieldType} {S : mj_S} {Dg : va_G} {T3 : Nat × Nat × Nat} {ad : Nat → Nat} {as : List Value} {h : mj_H} {sz : Nat} : FrameBlind (mj_Pc TB CL TY S Dg T3 ad as h sz) := by
  intro a U g mk q
  obtain ⟨q0, q1, q2, q3, q4⟩ := q
  refine ⟨q0, q1, q2, va_K.moved (u := U) (U := U.calling g mk a) (Vm.Alike.refl U.vm) q3, fun w hw hn => ?_⟩
  have h1 := q4 w hw hn
  cases w <;> first | exact va_Nw.same (u := U) rfl rfl h1 | exact absurd (show false = true from hn) (by decide)
section MJS
variable {p : Program} {l : Launch} {e : Env} {s : State} {m : MethodId} {args : Array Value} {below : List Frame} {meth : Method} {c : Code}
variable {TB : List Cond} {CL : List vw_C} {TY : Nat → Nat → FieldType} {MS : Nat → mj_M} {S : mj_S} {Dg : va_G} {T3 : Nat × Nat × Nat} {ad : Nat → Nat} {cc : ByteArray} {nL D : Nat} {own : String} {rr : mj_R} {rt : Option FieldType}
/-- what holds all along a method's walk -/
def mj_Cx (p : Program) (s : State) (m : MethodId) (args : Array Value) (meth : Method) (c : Code) (TB : List Cond) (CL : List vw_C) (S : mj_S) (Dg : va_G) (T3 : Nat × Nat × Nat) (ad : Nat → Nat) (cc : ByteArray) (nL : Nat) (own : String) (rt : Option FieldType) : Prop :=
  p.tables.exec = Jvm.exec ∧ c.code = cc ∧ c.maxLocals = nL ∧ s.vm.findClass own = some m.cls ∧ (∀ w ∈ TB.filter goodWord, w.before args s = true) ∧ va_K Dg CL (mj_tys T3) s ∧ (∀ w ∈ TB, mj_nest w = true → va_Nw w s) ∧ (∀ i j, i < S.length → j < S.length → ad i = ad j → i = j) ∧ meth.locks = false ∧ meth.sig.returnType = rt
/-- what the tables of classes keep -/
def mj_Cs (TB : List Cond) (CL : List vw_C) (TY : Nat → Nat → FieldType) (S : mj_S) : Prop :=
  (∀ (ci : Nat) (C : String) (T : u_T) (N : Nat), CL[ci]? = some (C, T, N) → (∀ w ∈ u_ws C T N, w ∈ TB) ∧ (∀ k, k < N → parseFieldDescriptor (T k).2.2.1 = some (TY ci k)) ∧ (∀ a, a < N → ∀ b, b < N → a ≠ b → (T a).2.1 ≠ (T b).2.1)) ∧
  (∀ (q t n : Nat), S[q]? = some (t + 3, n) → ∃ (C : String) (T : u_T), CL[t]? = some (C, T, n))
def mj_Go (p : Program) (l : Launch) (e : Env) (s : State) (m : MethodId) (args : Array Value) (below : List Frame) (meth : Method) (c : Code) (CL : List vw_C) (TY : Nat → Nat → FieldType) (S : mj_S) (Dg : va_G) (T3 : Nat × Nat × Nat) (ad : Nat → Nat) (nL D : Nat) (rr : mj_R) (pc : Nat) (L : mj_L) (st : List Value) (h : mj_H) : Prop :=
  ∀ (H : Heap) (locs : List Loc) (ls : Array Slot), va_P Dg CL (mj_W S TY T3 ad h) H → va_S (mj_A ad S.length s.heap.size) s.heap H locs → lv_has ls nL (mj_tl ad L) →
    W p l e (mj_rm D) s m args below meth c H locs 0 0 (MQ below (mj_Qc CL TY S Dg T3 ad rr s.heap.size) args s 0 0 (mj_A ad S.length s.heap.size)) (F0 m pc ls (st.map (mj_tr ad)))
theorem mj_lays {C : String} {T : u_T} {N : Nat} (h : ∀ w ∈ u_ws C T N, w ∈ TB) : ∀ w ∈ u_ws C T N, w ∈ TB.filter goodWord := by
  intro w hw
  refine mj_good_in (h w hw) ?_
  obtain ⟨k, -, rfl⟩ := List.mem_map.mp hw
  unfold u_lay
  split <;> rfl
theorem mj_getf (X : mj_Cx p s m args meth c TB CL S Dg T3 ad cc nL own rt) (Y : mj_Cs TB CL TY S) {x a b n q pc : Nat} {L : mj_L} {r : List Value} {h : mj_H} {u : Value}
    (hF : mj_okF TB CL own x a b) (hq : S[q]? = some (a + 3, n)) (hb : b < n) (hdg : decode cc pc = .ok (.getfield x, 3)) (hu : mj_tr ad u = mj_fv ad h q b (mj_tc (TY a b)))
    (k : mj_Go p l e s m args below meth c CL TY S Dg T3 ad nL D rr (pc + 3) L (u :: r) h) : mj_Go p l e s m args below meth c CL TY S Dg T3 ad nL D rr pc L (.ref q :: r) h := by
  intro H locs ls hP hS hl
  obtain ⟨hx, hbc, hml, hown, hts, hK, hN, hinj, -⟩ := X
  obtain ⟨C, T, N, hc, hbN, hlk⟩ := hF
  have hk := k H locs ls hP hS hl
  have he := mj_W_at (TY := TY) (T3 := T3) (ad := ad) (h := h) hq
  have hv : ((List.range n).map (fun k => mj_fv ad h q k (mj_tc (TY a k))))[b]? = some (mj_tr ad u) := by rw [hu]; exact mj_fs_at hb
  rcases hlk with hlk | ⟨host, hlk⟩
  · exact va_get hx hbc hts (mj_lays (Y.1 a C T N hc).1) hown hK hP q he hc b hbN (hts _ (mj_good_in hlk rfl)) (fun _ h9 => h9) hv hdg hk
  · exact va_getN hx hbc hts (mj_lays (Y.1 a C T N hc).1) hown hK hP q he hc b hbN (va_Nw.use rfl (hN _ hlk rfl)) (fun _ h9 => h9) hv hdg hk
theorem mj_putf (X : mj_Cx p s m args meth c TB CL S Dg T3 ad cc nL own rt) (Y : mj_Cs TB CL TY S) {x a b n q pc : Nat} {L : mj_L} {r : List Value} {h h' : mj_H} {u : Value}
    (hF : mj_okF TB CL own x a b) (hfin : ∃ q, CL[a]? = some q ∧ (q.2.1 b).2.2.2 = false) (hq : S[q]? = some (a + 3, n)) (hb : b < n) (hdg : decode cc pc = .ok (.putfield x, 3))
    (hnar : narrow (TY a b) (mj_tr ad u) = mj_tr ad u) (hfit : fits (TY a b) (mj_tr ad u) = true)
    (hu : ∀ k, mj_fv ad h' q k (mj_tc (TY a k)) = if k = b then mj_tr ad u else mj_fv ad h q k (mj_tc (TY a k))) (ho : ∀ k, k ≠ q → ∀ y, mj_ce TY T3 ad h' k y = mj_ce TY T3 ad h k y)
    (k : mj_Go p l e s m args below meth c CL TY S Dg T3 ad nL D rr (pc + 3) L r h') : mj_Go p l e s m args below meth c CL TY S Dg T3 ad nL D rr pc L (u :: .ref q :: r) h := by
  intro H locs ls hP hS hl
  obtain ⟨hx, hbc, hml, hown, hts, hK, hN, hinj, -⟩ := X
  obtain ⟨C, T, N, hc, hbN, hlk⟩ := hF
  obtain ⟨q9, hq9, hfin⟩ := hfin
  have e9 : q9 = (C, T, N) := Option.some.inj (hq9.symm.trans hc)
  subst e9
  have he := mj_W_at (TY := TY) (T3 := T3) (ad := ad) (h := h) hq
  have hD := mj_W_D (S := S) (TY := TY) (T3 := T3) (ad := ad) (h := h) (sz := s.heap.size) hinj
  have hlen : b < ((List.range n).map (fun k => mj_fv ad h q k (mj_tc (TY a k)))).length := by simpa using hb
  have hset : (mj_W S TY T3 ad h).set q (ad q, .inr (a, ((List.range n).map (fun k => mj_fv ad h q k (mj_tc (TY a k)))).set b (mj_tr ad u))) = mj_W S TY T3 ad h' := by
    rw [mj_fs_set (g := fun k => mj_fv ad h' q k (mj_tc (TY a k))) (by rw [hu b, if_pos rfl]) (fun k hk => by rw [hu k, if_neg hk])]
    exact mj_W_set (z := (a + 3, n)) hq ho
  have kk : ∀ (H1 : Heap) (locs1 : List Loc), va_P Dg CL ((mj_W S TY T3 ad h).set q (ad q, .inr (a, ((List.range n).map (fun k => mj_fv ad h q k (mj_tc (TY a k)))).set b (mj_tr ad u)))) H1 → va_D (mj_A ad S.length s.heap.size) ((mj_W S TY T3 ad h).set q (ad q, .inr (a, ((List.range n).map (fun k => mj_fv ad h q k (mj_tc (TY a k)))).set b (mj_tr ad u)))) → va_S (mj_A ad S.length s.heap.size) s.heap H1 locs1 → W p l e (mj_rm D) s m args below meth c H1 locs1 0 0 (MQ below (mj_Qc CL TY S Dg T3 ad rr s.heap.size) args s 0 0 (mj_A ad S.length s.heap.size)) (F0 m (pc + 3) ls (r.map (mj_tr ad))) :=
    fun H1 locs1 g1 g2 g3 => k H1 locs1 ls (hset ▸ g1) g3 hl
  rcases hlk with hlk | ⟨host, hlk⟩
  · exact va_put hx hbc hts (mj_lays (Y.1 a C T N hc).1) (TY a) (Y.1 a C T N hc).2.1 (Y.1 a C T N hc).2.2 hown hK hP hD hS q he hc b hbN (hts _ (mj_good_in hlk rfl)) (fun _ h9 => h9) hfin ((Y.1 a C T N hc).2.1 b hbN) hnar hfit hlen hdg kk
  · exact va_putN hx hbc hts (mj_lays (Y.1 a C T N hc).1) (TY a) (Y.1 a C T N hc).2.1 (Y.1 a C T N hc).2.2 hown hK hP hD hS q he hc b hbN (va_Nw.use rfl (hN _ hlk rfl)) (fun _ h9 => h9) hfin ((Y.1 a C T N hc).2.1 b hbN) hnar hfit hlen hdg kk
/-- behind a call -/
theorem mj_back {rc : mj_R} {H : Heap} {locs : List Loc} {pc : Nat} {ls : Array Slot} {st0 rest : List Value} {a : Array Value}
    (hr : va_Run p l e (mj_rm D) s m args below meth c H locs 0 0 0 0 (F0 m pc ls st0) rest (mj_Qc CL TY S Dg T3 ad rc H.size a) (mj_A ad S.length H.size)) (hS : va_S (mj_A ad S.length s.heap.size) s.heap H locs)
    (kk : ∀ (H1 : Heap) (locs1 : List Loc), va_P Dg CL (mj_W S TY T3 ad rc.2) H1 → va_S (mj_A ad S.length s.heap.size) s.heap H1 locs1 → W p l e (mj_rm D) s m args below meth c H1 locs1 0 0 (MQ below (mj_Qc CL TY S Dg T3 ad rr s.heap.size) args s 0 0 (mj_A ad S.length s.heap.size)) (F0 m (pc + 3) ls ((mj_rv ad rc.1).toList ++ rest))) :
    W p l e (mj_rm D) s m args below meth c H locs 0 0 (MQ below (mj_Qc CL TY S Dg T3 ad rr s.heap.size) args s 0 0 (mj_A ad S.length s.heap.size)) (F0 m pc ls st0) := by
  have hA : ∀ q, q < H.size → mj_A ad S.length H.size q → mj_A ad S.length s.heap.size q := by
    intro q hq h
    rcases h with h | h
    · exact Or.inl h
    · omega
  have hf : ∀ q, mj_A ad S.length H.size q → mj_A ad S.length s.heap.size q := by
    intro q h
    rcases h with h | h
    · exact Or.inl h
    · exact Or.inr (Nat.le_trans hS.1 h)
  intro T hT X
  obtain ⟨v, st₀, t, T', L, h0, X', hL, e1, e2, ⟨hv, hp, hz, hk⟩, st⟩ := hr T hT X
  cases hv
  rw [h0] at hz hk
  obtain ⟨t2, a1, b1⟩ := kk T'.heap (locs ++ L) (by rw [e1]; exact hp)
    ⟨Nat.le_trans hS.1 (by rw [e1]; exact hz), fun q h1 h2 => by rw [e1, hk q (Nat.lt_of_lt_of_le h1 hS.1) (fun z => h2 (hA q (Nat.lt_of_lt_of_le h1 hS.1) z))]; exact hS.2.1 q h1 h2, fun q hq => by
      rcases List.mem_append.mp hq with h | h
      · exact hS.2.2 q h
      · exact hf _ (hL q h)⟩ T' rfl X'
  exact ⟨t2, st t2 a1, b1⟩
theorem mj_room {D nL : Nat} (h : nL ≤ 40) : (mj_rm D).frames + 1 ≤ (mj_rm (D + 1)).frames ∧ 8 + (nL + 11) + (mj_rm D).locals ≤ (mj_rm (D + 1)).locals := by
  simp only [mj_rm]
  omega
theorem mj_pre {z : mj_M} (X : mj_Cx p s m args meth c TB CL S Dg T3 ad cc nL own rt) {as : List Value} {h : mj_H} {H : Heap} (hP : va_P Dg CL (mj_W S TY T3 ad h) H) : ∀ U : State, U.heap = H → s.WarmedH U.vm → mj_Pc TB CL TY S Dg T3 ad as h H.size (as.map (mj_tr ad)).toArray U := by
  obtain ⟨hx, hbc, hml, hown, hts, hK, hN, hinj, -⟩ := X
  exact fun U hU hW => ⟨rfl, by rw [hU], by rw [hU]; exact hP, va_K.moved hW.alike hK, mj_nw hW hN⟩
end MJS
end
section
/-! each instruction is sound -/
theorem mj_rc_e {S : mj_S} {ci : Nat} {as : List Value} (h : mj_rc S (ci + 1) as) : ∃ q r n, as = .ref q :: r ∧ S[q]? = some (ci + 3, n) := by
  unfold mj_rc at h
  match as, h with
  | .ref q :: r, h =>
    obtain ⟨n, h1, -⟩ := mj_sh_e h
    exact ⟨q, r, n, rfl, h1⟩
theorem mj_rt_e {c : Nat} {f : mj_R → Prop} {r : List Value} {g : mj_H} {F : List Value → mj_H → Prop} (ad : Nat → Nat) (h : mj_rt c f r g F) : ∃ q : mj_R, f q ∧ ∃ r', F r' q.2 ∧ (mj_rv ad q.1).toList ++ r.map (mj_tr ad) = r'.map (mj_tr ad) := by
  match c, h with
  | 0, h => obtain ⟨I, J, h1, h2⟩ := h; exact ⟨_, h1, _, h2, rfl⟩
  | 1, h => obtain ⟨x, I, J, h1, h2⟩ := h; exact ⟨_, h1, _, h2, rfl⟩
  | 2, h => obtain ⟨x, I, J, h1, h2⟩ := h; exact ⟨_, h1, _, h2, rfl⟩
  | _ + 3, h => obtain ⟨x, I, h1, h2⟩ := h; exact ⟨_, h1, _, h2, rfl⟩
theorem mj_sw_e {x : Int32} {d : Nat} {F : Nat → Prop} : ∀ {sw : List (Int32 × Nat)}, mj_sw sw d x F → ((∀ k, k < sw.length → x ≠ (sw.getD k (0, 0)).1) ∧ F d) ∨ ∃ k, k < sw.length ∧ x = (sw.getD k (0, 0)).1 ∧ F (sw.getD k (0, 0)).2
  | [], h => Or.inl ⟨fun k hk => absurd hk (Nat.not_lt_zero k), h⟩
  | q :: r, h => by
    unfold mj_sw at h
    by_cases e : x = q.1
    · rw [if_pos e] at h
      exact Or.inr ⟨0, Nat.succ_pos _, e, h⟩
    · rw [if_neg e] at h
      rcases mj_sw_e h with ⟨h1, h2⟩ | ⟨k, h1, h2, h3⟩
      · refine Or.inl ⟨fun k hk => ?_, h2⟩
        cases k with
        | zero => exact e
        | succ k => exact h1 k (Nat.lt_of_succ_lt_succ hk)
      · exact Or.inr ⟨k + 1, Nat.succ_lt_succ h1, h2, h3⟩
theorem mj_sw_l {x : Int32} {d pc : Nat} {F : Nat → Prop} : ∀ {sw : List (Int32 × Nat)}, mj_sw sw d x F → ∃ t : Nat, F t ∧ Op.lookupswitch.offset (sw.map (fun q => (q.1.toInt, (q.2 : Int) - pc))) ((d : Int) - pc) x.toInt = (t : Int) - pc
  | [], h => ⟨d, h, rfl⟩
  | q :: r, h => by
    unfold mj_sw at h
    by_cases e : x = q.1
    · rw [if_pos e] at h
      refine ⟨q.2, h, ?_⟩
      rw [List.map_cons, Op.lookupswitch.offset_cons, if_pos (by rw [e])]
    · rw [if_neg e] at h
      obtain ⟨t, h1, h2⟩ := mj_sw_l h
      refine ⟨t, h1, ?_⟩
      rw [List.map_cons, lv_osw e rfl]
      exact h2
section MJI
variable {p : Program} {l : Launch} {e : Env} {s : State} {m : MethodId} {args : Array Value} {below : List Frame} {meth : Method} {c : Code}
variable {TB : List Cond} {CL : List vw_C} {TY : Nat → Nat → FieldType} {MS : Nat → mj_M} {S : mj_S} {Dg : va_G} {T3 : Nat × Nat × Nat} {ad : Nat → Nat} {cc : ByteArray} {nL D : Nat} {own : String} {rr : mj_R} {rt : Option FieldType}
theorem mj_s_virt (X : mj_Cx p s m args meth c TB CL S Dg T3 ad cc nL own rt) {x n d pc : Nat} {y : mj_M} {L : mj_L} {st : List Value} {h : mj_H} {as : List Value} {q : mj_R} {r' : List Value}
    (hok : mj_okV TB CL own x y n d) (hn : n ≤ st.length) (h8 : mj_sz (st.drop n) ≤ 8) (has : as = (st.take n).reverse) (hrc : mj_rc S d as) (hM : mj_Met l TB CL TY S Dg T3 ad D y as h q) (hr' : (mj_rv ad q.1).toList ++ (st.drop n).map (mj_tr ad) = r'.map (mj_tr ad)) (hdg : decode cc pc = .ok (.invokevirtual x, 3))
    (hk : mj_Go p l e s m args below meth c CL TY S Dg T3 ad nL (D + 1) rr (pc + 3) L r' q.2) : mj_Go p l e s m args below meth c CL TY S Dg T3 ad nL (D + 1) rr pc L st h := by
  obtain ⟨hlk, hin, hsel, ⟨ci, T, N, rfl, hcl⟩, ⟨kn, rfl, hpar⟩, hY⟩ := hok
  obtain ⟨q0, as', n0, e0, hq0⟩ := mj_rc_e hrc
  have e1 : st = as'.reverse ++ .ref q0 :: st.drop (kn + 1) := by
    have e2 : st.take (kn + 1) = as.reverse := by rw [has, List.reverse_reverse]
    calc st = st.take (kn + 1) ++ st.drop (kn + 1) := (List.take_append_drop _ _).symm
      _ = as'.reverse ++ .ref q0 :: st.drop (kn + 1) := by rw [e2, e0]; simp
  have hlen : as'.length = kn := by
    have h1 : as.length = kn + 1 := by rw [has, List.length_reverse, List.length_take, Nat.min_eq_left hn]
    rw [e0] at h1
    simpa using h1
  subst e0
  intro H locs ls hP hS hl
  obtain ⟨hx, hbc, hml, hown, hts, hK, hN, hinj, -⟩ := id X
  have he := mj_W_at (TY := TY) (T3 := T3) (ad := ad) (h := h) hq0
  have hpre : PreV s H y.1.cls (ad q0) (mj_Pc TB CL TY S Dg T3 ad (.ref q0 :: as') h H.size) (as'.map (mj_tr ad)) := ⟨mj_blind, va_recv hK hP hcl he, mj_pre (z := y) X hP⟩
  have hst : st.map (mj_tr ad) = (as'.map (mj_tr ad)).reverse ++ .ref (ad q0) :: (st.drop (kn + 1)).map (mj_tr ad) := by
    conv => lhs; rw [e1]
    rw [List.map_append, List.map_reverse]
    rfl
  have h9 : 2 * (F0 m pc ls (st.map (mj_tr ad))).monitorRoom + (((st.drop (kn + 1)).map (mj_tr ad)).map fun v => v.category).sum ≤ 8 := lv_room (by rw [mj_sz_eq]; exact h8)
  have hn' : (as'.map (mj_tr ad)).length = kn := by rw [List.length_map]; exact hlen
  have hY2 := hY
  obtain ⟨hco, hini, hmx, hpl, hnm1, hnm2⟩ := hY2
  rcases hlk with hlk | ⟨host, hlk⟩
  · have hT : GoodIn (TB.filter goodWord) (wsV own x y.1.cls y.1 (mj_ws TB y)) := by
      intro w hw
      rcases List.mem_append.mp hw with hw | hw
      · simp only [List.mem_cons, List.not_mem_nil, or_false] at hw
        rcases hw with rfl | rfl | rfl | rfl
        · exact ⟨mj_good_in hlk rfl, good_of_word rfl⟩
        · exact ⟨mj_good_in hin rfl, good_of_word rfl⟩
        · exact ⟨mj_good_in hsel rfl, good_of_word rfl⟩
        · exact ⟨mj_good_in hini rfl, good_of_word rfl⟩
      · exact mj_goodIn hY w hw
    refine mj_back (va_runV (As := as'.map (mj_tr ad)) (rest := (st.drop (kn + 1)).map (mj_tr ad)) ⟨hx, hbc, hml, hown, hts⟩ (hM H.size) (cwV kn hts hT rfl rfl rfl ⟨rfl, hnm1, hnm2, hpar⟩ (mj_room hmx)) hpre rfl hn' hl.1 hst h9 hdg ⟨by simp [mj_rm], by simp [mj_rm]⟩) hS (fun H1 locs1 hP1 hS1 => ?_)
    rw [hr']
    exact hk H1 locs1 ls hP1 hS1 hl
  · refine mj_back (va_runVN (As := as'.map (mj_tr ad)) (rest := (st.drop (kn + 1)).map (mj_tr ad)) ⟨hx, hbc, hml, hown, hts⟩ (hM H.size) ⟨va_cnB kn hts (mj_goodIn hY) rfl rfl rfl (hN _ hlk rfl) (hts _ (mj_good_in hini rfl)) ⟨hnm1, hnm2, hpar⟩ (mj_room hmx), hts _ (mj_good_in hin rfl), hts _ (mj_good_in hsel rfl)⟩ hpre rfl hn' hl.1 hst h9 hdg ⟨by simp [mj_rm], by simp [mj_rm]⟩) hS (fun H1 locs1 hP1 hS1 => ?_)
    rw [hr']
    exact hk H1 locs1 ls hP1 hS1 hl
theorem mj_s_stat (X : mj_Cx p s m args meth c TB CL S Dg T3 ad cc nL own rt) {x n pc : Nat} {y : mj_M} {L : mj_L} {st : List Value} {h : mj_H} {as : List Value} {q : mj_R} {r' : List Value}
    (hok : mj_okS TB own x y n) (hn : n ≤ st.length) (h8 : mj_sz (st.drop n) ≤ 8) (has : as = (st.take n).reverse) (hM : mj_Met l TB CL TY S Dg T3 ad D y as h q) (hr' : (mj_rv ad q.1).toList ++ (st.drop n).map (mj_tr ad) = r'.map (mj_tr ad)) (hdg : decode cc pc = .ok (.invokestatic x, 3))
    (hk : mj_Go p l e s m args below meth c CL TY S Dg T3 ad nL (D + 1) rr (pc + 3) L r' q.2) : mj_Go p l e s m args below meth c CL TY S Dg T3 ad nL (D + 1) rr pc L st h := by
  obtain ⟨hlk, hsta, hpar, hY⟩ := hok
  have e1 : st = as.reverse ++ st.drop n := by rw [has, List.reverse_reverse, List.take_append_drop]
  have hlen : as.length = n := by rw [has, List.length_reverse, List.length_take, Nat.min_eq_left hn]
  intro H locs ls hP hS hl
  obtain ⟨hx, hbc, hml, hown, hts, hK, hN, hinj, -⟩ := id X
  have hpre : PreS s H (mj_Pc TB CL TY S Dg T3 ad as h H.size) (as.map (mj_tr ad)) := ⟨mj_blind, mj_pre (z := y) X hP⟩
  have hst : st.map (mj_tr ad) = (as.map (mj_tr ad)).reverse ++ (st.drop n).map (mj_tr ad) := by
    conv => lhs; rw [e1]
    rw [List.map_append, List.map_reverse]
  have h9 : 2 * (F0 m pc ls (st.map (mj_tr ad))).monitorRoom + (((st.drop n).map (mj_tr ad)).map fun v => v.category).sum ≤ 8 := lv_room (by rw [mj_sz_eq]; exact h8)
  have hn' : (as.map (mj_tr ad)).length = n := by rw [List.length_map]; exact hlen
  have hY2 := hY
  obtain ⟨hco, hini, hmx, hpl, hnm1, hnm2⟩ := hY2
  rcases hlk with hlk | ⟨host, hlk⟩
  · have hT : GoodIn (TB.filter goodWord) (va_wsS own x y.1 (mj_ws TB y)) := by
      intro w hw
      rcases List.mem_append.mp hw with hw | hw
      · simp only [List.mem_cons, List.not_mem_nil, or_false] at hw
        rcases hw with rfl | rfl | rfl
        · exact ⟨mj_good_in hlk rfl, good_of_word rfl⟩
        · exact ⟨mj_good_in hsta rfl, good_of_word rfl⟩
        · exact ⟨mj_good_in hini rfl, good_of_word rfl⟩
      · exact mj_goodIn hY w hw
    refine mj_back (va_runS (As := as.map (mj_tr ad)) (rest := (st.drop n).map (mj_tr ad)) ⟨hx, hbc, hml, hown, hts⟩ (hM H.size) (va_cwS n hts hT rfl rfl rfl ⟨hnm1, hnm2, hpar⟩ (mj_room hmx)) hpre rfl hn' hl.1 hst h9 hdg ⟨by simp [mj_rm], by simp [mj_rm]⟩) hS (fun H1 locs1 hP1 hS1 => ?_)
    rw [hr']
    exact hk H1 locs1 ls hP1 hS1 hl
  · refine mj_back (va_runSN (As := as.map (mj_tr ad)) (rest := (st.drop n).map (mj_tr ad)) ⟨hx, hbc, hml, hown, hts⟩ (hM H.size) ⟨va_cnB n hts (mj_goodIn hY) rfl rfl rfl (hN _ hlk rfl) (hts _ (mj_good_in hini rfl)) ⟨hnm1, hnm2, hpar⟩ (mj_room hmx), hts _ (mj_good_in hsta rfl), trivial⟩ hpre rfl hn' hl.1 hst h9 hdg ⟨by simp [mj_rm], by simp [mj_rm]⟩) hS (fun H1 locs1 hP1 hS1 => ?_)
    rw [hr']
    exact hk H1 locs1 ls hP1 hS1 hl
end MJI
end
section
/-! the small machine is sound: every instruction, every block, every method -/
section MJJ
variable {p : Program} {l : Launch} {e : Env} {s : State} {m : MethodId} {args : Array Value} {below : List Frame} {meth : Method} {c : Code}
variable {TB : List Cond} {CL : List vw_C} {TY : Nat → Nat → FieldType} {MS : Nat → mj_M} {S : mj_S} {Dg : va_G} {T3 : Nat × Nat × Nat} {ad : Nat → Nat} {cc : ByteArray} {nL D : Nat} {own : String} {rr : mj_R} {rt : Option FieldType}
theorem mj_narI {ty : FieldType} {x : Int32} (h : mj_tc ty = 0) : narrow ty (.int x) = .int x ∧ fits ty (.int x) = true := by
  cases ty <;> simp [mj_tc] at h <;> exact ⟨rfl, rfl⟩
theorem mj_narL {ty : FieldType} {x : Int64} (h : mj_tc ty = 1) : narrow ty (.long x) = .long x ∧ fits ty (.long x) = true := by
  cases ty <;> simp [mj_tc] at h <;> exact ⟨rfl, rfl⟩
theorem mj_narR {ty : FieldType} {x : Nat} (h : mj_tc ty = 2) : narrow ty (.ref x) = .ref x ∧ fits ty (.ref x) = true := by
  cases ty <;> simp [mj_tc] at h <;> exact ⟨rfl, rfl⟩
theorem mj_narZ {ty : FieldType} {x : Int32} (h : mj_tc ty = 3) (hx : x = 0 ∨ x = 1) : narrow ty (.int x) = .int x ∧ fits ty (.int x) = true := by
  cases ty <;> simp [mj_tc] at h
  rcases hx with rfl | rfl <;> exact ⟨rfl, rfl⟩
theorem mj_fvI {h : mj_H} {q k j : Nat} (h1 : j ≠ 1) (h2 : j ≠ 2) : mj_fv ad h q k j = .int (h.1 q k) := by
  unfold mj_fv
  split
  · exact absurd rfl h1
  · exact absurd rfl h2
  · rfl
theorem mj_fv1 {h : mj_H} {q b k j : Nat} {x : Int32} (hj : k = b → j ≠ 1 ∧ j ≠ 2) : mj_fv ad (mj_up h.1 q b x, h.2.1, h.2.2) q k j = if k = b then .int x else mj_fv ad h q k j := by
  by_cases e : k = b
  · subst e
    obtain ⟨h1, h2⟩ := hj rfl
    rw [if_pos rfl]
    unfold mj_fv
    split
    · exact absurd rfl h1
    · exact absurd rfl h2
    · simp [mj_up]
  · rw [if_neg e]
    unfold mj_fv
    split
    · rfl
    · rfl
    · simp [mj_up, e]
theorem mj_fv2 {h : mj_H} {q b k j : Nat} {x : Int64} (hj : k = b → j = 1) : mj_fv ad (h.1, mj_up h.2.1 q b x, h.2.2) q k j = if k = b then .long x else mj_fv ad h q k j := by
  by_cases e : k = b
  · subst e
    rw [hj rfl, if_pos rfl]
    simp [mj_fv, mj_up]
  · rw [if_neg e]
    unfold mj_fv
    split
    · simp [mj_up, e]
    · rfl
    · rfl
theorem mj_fv3 {h : mj_H} {q b k j : Nat} {x : Nat} (hj : k = b → j = 2) : mj_fv ad (h.1, h.2.1, mj_up h.2.2 q b x) q k j = if k = b then .ref (ad x) else mj_fv ad h q k j := by
  by_cases e : k = b
  · subst e
    rw [hj rfl, if_pos rfl]
    simp [mj_fv, mj_up]
  · rw [if_neg e]
    unfold mj_fv
    split
    · rfl
    · simp [mj_up, e]
    · rfl
theorem mj_aset1 {h : mj_H} {q n t j : Nat} {x : Int32} (hq : S[q]? = some (t, n)) (e : ∀ h : mj_H, mj_ce TY T3 ad h q (t, n) = .inl (T3.1, n, .inl (h.1 q)) ∨ t = 2) (hz : mj_ce TY T3 ad (mj_up h.1 q j x, h.2.1, h.2.2) q (t, n) = mj_ce TY T3 ad (mj_up h.1 q j x, h.2.1, h.2.2) q (t, n)) :
    (mj_W S TY T3 ad h).set q (ad q, mj_ce TY T3 ad (mj_up h.1 q j x, h.2.1, h.2.2) q (t, n)) = mj_W S TY T3 ad (mj_up h.1 q j x, h.2.1, h.2.2) := mj_W_set hq fun k hk y => mj_ce_up1 hk y
theorem mj_upq {h : Nat → Nat → Int32} {q j : Nat} {x : Int32} : mj_up h q j x q = upd (h q) j x := by
  funext i
  simp [mj_up, upd]
theorem mj_upqL {h : Nat → Nat → Int64} {q j : Nat} {x : Int64} : mj_up h q j x q = vp_updL (h q) j x := by
  funext i
  simp [mj_up, vp_updL]
theorem mj_cpq {h : Nat → Nat → Int32} {a b sp dp n : Nat} : mj_cp h a sp b dp n b = va_cpy (h a) (h b) sp dp n := by
  funext i
  simp [mj_cp, va_cpy]
theorem mj_ce_cp {h : mj_H} {q k a sp dp n : Nat} (hk : k ≠ q) (y : Nat × Nat) : mj_ce TY T3 ad (mj_cp h.1 a sp q dp n, h.2.1, h.2.2) k y = mj_ce TY T3 ad h k y := by
  have e : (mj_cp h.1 a sp q dp n) k = h.1 k := by funext i; simp [mj_cp, hk]
  obtain ⟨t, z⟩ := y
  match t with
  | 0 => simp only [mj_ce, e]
  | 1 => rfl
  | 2 => simp only [mj_ce, e]
  | t + 3 =>
    simp only [mj_ce, Sum.inr.injEq, Prod.mk.injEq, true_and]
    refine List.map_congr_left fun i _ => ?_
    unfold mj_fv
    split
    · rfl
    · rfl
    · simp only [e]
set_option maxHeartbeats 8000000 in
theorem mj_s_ins (X : mj_Cx p s m args meth c TB CL S Dg T3 ad cc nL own rt) (Y : mj_Cs TB CL TY S) {cal : Nat → List Value → mj_H → mj_R → Prop} (hcal : ∀ z as h r, cal z as h r → mj_Met l TB CL TY S Dg T3 ad D (MS z) as h r)
    {jmp : Nat → mj_K} (hj : ∀ t L st h, jmp t L st h → mj_Go p l e s m args below meth c CL TY S Dg T3 ad nL (D + 1) rr t L st h)
    {i : Jvm.ClassFile.Instr} {len a b cx d : Nat} {v : Int32} {w : Int64} {sw : List (Int32 × Nat)} {pc : Nat} {k : mj_K} (hk : ∀ L st h, k L st h → mj_Go p l e s m args below meth c CL TY S Dg T3 ad nL (D + 1) rr (pc + len) L st h)
    (hdg : decode cc pc = .ok (i, len)) (hok : mj_okI TB CL TY MS own nL rt pc (i, len, (a, b, cx, d), v, w, sw)) {L : mj_L} {st : List Value} {h : mj_H}
    (hm : mj_ins S cal (fun r => r = rr) jmp i a b cx d v w sw L st h k) : mj_Go p l e s m args below meth c CL TY S Dg T3 ad nL (D + 1) rr pc L st h := by
  obtain ⟨hx, hbc, hml, hown, hts, hK, hN, hinj, hlocks, hrt⟩ := id X
  cases i with
  | iconst n =>
    obtain ⟨rfl, hv⟩ := hok
    exact fun H locs ls hP hS hl => lv_iconst hx hbc hdg hv (hk _ _ _ hm H locs ls hP hS hl)
  | bipush n =>
    obtain ⟨rfl, hv⟩ := hok
    exact fun H locs ls hP hS hl => lv_bipush hx hbc hdg hv (hk _ _ _ hm H locs ls hP hS hl)
  | sipush n =>
    obtain ⟨rfl, hv⟩ := hok
    exact fun H locs ls hP hS hl => lv_sipush hx hbc hdg hv (hk _ _ _ hm H locs ls hP hS hl)
  | ldc n =>
    obtain ⟨rfl, hv⟩ := hok
    exact fun H locs ls hP hS hl => lv_ldc hx hbc hown (hts _ (mj_good_in hv rfl)) hdg (hk _ _ _ hm H locs ls hP hS hl)
  | ldc_w n =>
    obtain ⟨rfl, hv⟩ := hok
    exact fun H locs ls hP hS hl => lv_ldcw hx hbc hown (hts _ (mj_good_in hv rfl)) hdg (hk _ _ _ hm H locs ls hP hS hl)
  | lconst n =>
    obtain ⟨rfl, hv⟩ := hok
    exact fun H locs ls hP hS hl => lv_lconst hx hbc hdg hv (hk _ _ _ hm H locs ls hP hS hl)
  | ldc2_w n =>
    obtain ⟨rfl, hv⟩ := hok
    exact fun H locs ls hP hS hl => lv_ldc2 hx hbc hown (hts _ (mj_good_in hv rfl)) hdg (hk _ _ _ hm H locs ls hP hS hl)
  | iload_n n =>
    have hok : len = 1 := hok
    subst hok
    obtain ⟨x, hx1, hm1⟩ := mj_lI_e hm
    exact fun H locs ls hP hS hl => lv_iload_n hx hbc hdg rfl (mj_at hl hx1) (hk _ _ _ hm1 H locs ls hP hS hl)
  | iload n =>
    have hok : len = 2 := hok
    subst hok
    obtain ⟨x, hx1, hm1⟩ := mj_lI_e hm
    exact fun H locs ls hP hS hl => lv_iload hx hbc hdg (mj_at hl hx1) (hk _ _ _ hm1 H locs ls hP hS hl)
  | lload_n n =>
    have hok : len = 1 := hok
    subst hok
    obtain ⟨x, hx1, hm1⟩ := mj_lL_e hm
    exact fun H locs ls hP hS hl => lv_lload_n hx hbc hdg rfl (mj_at hl hx1) (hk _ _ _ hm1 H locs ls hP hS hl)
  | lload n =>
    have hok : len = 2 := hok
    subst hok
    obtain ⟨x, hx1, hm1⟩ := mj_lL_e hm
    exact fun H locs ls hP hS hl => lv_lload hx hbc hdg (mj_at hl hx1) (hk _ _ _ hm1 H locs ls hP hS hl)
  | aload_n n =>
    have hok : len = 1 := hok
    subst hok
    obtain ⟨x, hx1, hm1⟩ := mj_lR_e hm
    exact fun H locs ls hP hS hl => lv_aload_n hx hbc hdg rfl (mj_at hl hx1) (hk _ _ _ hm1 H locs ls hP hS hl)
  | aload n =>
    have hok : len = 2 := hok
    subst hok
    obtain ⟨x, hx1, hm1⟩ := mj_lR_e hm
    exact fun H locs ls hP hS hl => lv_aload hx hbc hdg (mj_at hl hx1) (hk _ _ _ hm1 H locs ls hP hS hl)
  | istore_n n =>
    obtain ⟨rfl, hn⟩ := hok
    obtain ⟨x, r, rfl, hm1⟩ := mj_pI_e hm
    rw [mj_fl_eq] at hm1
    exact fun H locs ls hP hS hl => lv_istore_n hx hbc hdg rfl hl hn rfl (fun ls hl => hk _ _ _ hm1 H locs ls hP hS (mj_s1_has hl))
  | istore n =>
    obtain ⟨rfl, hn⟩ := hok
    obtain ⟨x, r, rfl, hm1⟩ := mj_pI_e hm
    rw [mj_fl_eq] at hm1
    exact fun H locs ls hP hS hl => lv_istore hx hbc hdg hl hn rfl (fun ls hl => hk _ _ _ hm1 H locs ls hP hS (mj_s1_has hl))
  | lstore_n n =>
    obtain ⟨rfl, hn⟩ := hok
    obtain ⟨x, r, rfl, hm1⟩ := mj_pL_e hm
    rw [mj_fl_eq] at hm1
    exact fun H locs ls hP hS hl => lv_lstore_n hx hbc hdg rfl hl hn rfl (fun ls hl => hk _ _ _ hm1 H locs ls hP hS (mj_s2_has hl))
  | lstore n =>
    obtain ⟨rfl, hn⟩ := hok
    obtain ⟨x, r, rfl, hm1⟩ := mj_pL_e hm
    rw [mj_fl_eq] at hm1
    exact fun H locs ls hP hS hl => lv_lstore hx hbc hdg hl hn rfl (fun ls hl => hk _ _ _ hm1 H locs ls hP hS (mj_s2_has hl))
  | astore_n n =>
    obtain ⟨rfl, hn⟩ := hok
    obtain ⟨x, r, rfl, hm1⟩ := mj_pR_e hm
    rw [mj_fl_eq] at hm1
    exact fun H locs ls hP hS hl => lv_astore_n hx hbc hdg rfl hl hn rfl (fun ls hl => hk _ _ _ hm1 H locs ls hP hS (mj_s1_has hl))
  | astore n =>
    obtain ⟨rfl, hn⟩ := hok
    obtain ⟨x, r, rfl, hm1⟩ := mj_pR_e hm
    rw [mj_fl_eq] at hm1
    exact fun H locs ls hP hS hl => lv_astore hx hbc hdg hl hn rfl (fun ls hl => hk _ _ _ hm1 H locs ls hP hS (mj_s1_has hl))
  | iinc n z =>
    obtain ⟨rfl, hn, hv⟩ := hok
    obtain ⟨x, hx1, hm1⟩ := mj_lI_e hm
    rw [mj_fl_eq] at hm1
    intro H locs ls hP hS hl
    obtain ⟨k9, hk9⟩ := List.getElem?_of_mem (mj_tl_mem (ad := ad) hx1)
    exact lv_iinc (v := x + v) hx hbc hdg hl hk9 (by rw [hv]) hn rfl (fun ls hl => hk _ _ _ hm1 H locs ls hP hS (mj_s1_has hl))
  | iadd =>
    have hok : len = 1 := hok
    subst hok
    obtain ⟨y, r, rfl, hm1⟩ := mj_pI_e hm
    obtain ⟨x, r, rfl, hm2⟩ := mj_pI_e hm1
    exact fun H locs ls hP hS hl => lv_iadd hx hbc hdg (hk _ _ _ hm2 H locs ls hP hS hl)
  | isub =>
    have hok : len = 1 := hok
    subst hok
    obtain ⟨y, r, rfl, hm1⟩ := mj_pI_e hm
    obtain ⟨x, r, rfl, hm2⟩ := mj_pI_e hm1
    exact fun H locs ls hP hS hl => lv_isub hx hbc hdg (hk _ _ _ hm2 H locs ls hP hS hl)
  | imul =>
    have hok : len = 1 := hok
    subst hok
    obtain ⟨y, r, rfl, hm1⟩ := mj_pI_e hm
    obtain ⟨x, r, rfl, hm2⟩ := mj_pI_e hm1
    exact fun H locs ls hP hS hl => lv_imul hx hbc hdg (hk _ _ _ hm2 H locs ls hP hS hl)
  | iand =>
    have hok : len = 1 := hok
    subst hok
    obtain ⟨y, r, rfl, hm1⟩ := mj_pI_e hm
    obtain ⟨x, r, rfl, hm2⟩ := mj_pI_e hm1
    exact fun H locs ls hP hS hl => lv_iand hx hbc hdg (hk _ _ _ hm2 H locs ls hP hS hl)
  | ior =>
    have hok : len = 1 := hok
    subst hok
    obtain ⟨y, r, rfl, hm1⟩ := mj_pI_e hm
    obtain ⟨x, r, rfl, hm2⟩ := mj_pI_e hm1
    exact fun H locs ls hP hS hl => lv_ior hx hbc hdg (hk _ _ _ hm2 H locs ls hP hS hl)
  | ixor =>
    have hok : len = 1 := hok
    subst hok
    obtain ⟨y, r, rfl, hm1⟩ := mj_pI_e hm
    obtain ⟨x, r, rfl, hm2⟩ := mj_pI_e hm1
    exact fun H locs ls hP hS hl => lv_ixor hx hbc hdg (hk _ _ _ hm2 H locs ls hP hS hl)
  | idiv =>
    have hok : len = 1 := hok
    subst hok
    obtain ⟨y, r, rfl, hm1⟩ := mj_pI_e hm
    obtain ⟨x, r, rfl, hy, hm2⟩ := mj_pI_e hm1
    exact fun H locs ls hP hS hl => lv_idiv hx hbc hdg hy (hk _ _ _ hm2 H locs ls hP hS hl)
  | irem =>
    have hok : len = 1 := hok
    subst hok
    obtain ⟨y, r, rfl, hm1⟩ := mj_pI_e hm
    obtain ⟨x, r, rfl, hy, hm2⟩ := mj_pI_e hm1
    exact fun H locs ls hP hS hl => lv_irem hx hbc hdg hy (hk _ _ _ hm2 H locs ls hP hS hl)
  | ineg =>
    have hok : len = 1 := hok
    subst hok
    obtain ⟨x, r, rfl, hm1⟩ := mj_pI_e hm
    exact fun H locs ls hP hS hl => lv_ineg hx hbc hdg (hk _ _ _ hm1 H locs ls hP hS hl)
  | ishl =>
    have hok : len = 1 := hok
    subst hok
    obtain ⟨y, r, rfl, hm1⟩ := mj_pI_e hm
    obtain ⟨x, r, rfl, hm2⟩ := mj_pI_e hm1
    exact fun H locs ls hP hS hl => lv_ishl hx hbc hdg (hk _ _ _ hm2 H locs ls hP hS hl)
  | ishr =>
    have hok : len = 1 := hok
    subst hok
    obtain ⟨y, r, rfl, hm1⟩ := mj_pI_e hm
    obtain ⟨x, r, rfl, hm2⟩ := mj_pI_e hm1
    exact fun H locs ls hP hS hl => lv_ishr hx hbc hdg (hk _ _ _ hm2 H locs ls hP hS hl)
  | iushr =>
    have hok : len = 1 := hok
    subst hok
    obtain ⟨y, r, rfl, hm1⟩ := mj_pI_e hm
    obtain ⟨x, r, rfl, hm2⟩ := mj_pI_e hm1
    exact fun H locs ls hP hS hl => lv_iushr hx hbc hdg rfl (hk _ _ _ hm2 H locs ls hP hS hl)
  | ladd =>
    have hok : len = 1 := hok
    subst hok
    obtain ⟨y, r, rfl, hm1⟩ := mj_pL_e hm
    obtain ⟨x, r, rfl, hm2⟩ := mj_pL_e hm1
    exact fun H locs ls hP hS hl => lv_ladd hx hbc hdg (hk _ _ _ hm2 H locs ls hP hS hl)
  | lsub =>
    have hok : len = 1 := hok
    subst hok
    obtain ⟨y, r, rfl, hm1⟩ := mj_pL_e hm
    obtain ⟨x, r, rfl, hm2⟩ := mj_pL_e hm1
    exact fun H locs ls hP hS hl => lv_lsub hx hbc hdg (hk _ _ _ hm2 H locs ls hP hS hl)
  | lmul =>
    have hok : len = 1 := hok
    subst hok
    obtain ⟨y, r, rfl, hm1⟩ := mj_pL_e hm
    obtain ⟨x, r, rfl, hm2⟩ := mj_pL_e hm1
    exact fun H locs ls hP hS hl => lv_lmul hx hbc hdg (hk _ _ _ hm2 H locs ls hP hS hl)
  | land =>
    have hok : len = 1 := hok
    subst hok
    obtain ⟨y, r, rfl, hm1⟩ := mj_pL_e hm
    obtain ⟨x, r, rfl, hm2⟩ := mj_pL_e hm1
    exact fun H locs ls hP hS hl => lv_land hx hbc hdg (hk _ _ _ hm2 H locs ls hP hS hl)
  | lor =>
    have hok : len = 1 := hok
    subst hok
    obtain ⟨y, r, rfl, hm1⟩ := mj_pL_e hm
    obtain ⟨x, r, rfl, hm2⟩ := mj_pL_e hm1
    exact fun H locs ls hP hS hl => lv_lor hx hbc hdg (hk _ _ _ hm2 H locs ls hP hS hl)
  | lxor =>
    have hok : len = 1 := hok
    subst hok
    obtain ⟨y, r, rfl, hm1⟩ := mj_pL_e hm
    obtain ⟨x, r, rfl, hm2⟩ := mj_pL_e hm1
    exact fun H locs ls hP hS hl => lv_lxor hx hbc hdg (hk _ _ _ hm2 H locs ls hP hS hl)
  | ldiv =>
    have hok : len = 1 := hok
    subst hok
    obtain ⟨y, r, rfl, hm1⟩ := mj_pL_e hm
    obtain ⟨x, r, rfl, hy, hm2⟩ := mj_pL_e hm1
    exact fun H locs ls hP hS hl => lv_ldiv hx hbc hdg hy (hk _ _ _ hm2 H locs ls hP hS hl)
  | lrem =>
    have hok : len = 1 := hok
    subst hok
    obtain ⟨y, r, rfl, hm1⟩ := mj_pL_e hm
    obtain ⟨x, r, rfl, hy, hm2⟩ := mj_pL_e hm1
    exact fun H locs ls hP hS hl => lv_lrem hx hbc hdg hy (hk _ _ _ hm2 H locs ls hP hS hl)
  | lneg =>
    have hok : len = 1 := hok
    subst hok
    obtain ⟨x, r, rfl, hm1⟩ := mj_pL_e hm
    exact fun H locs ls hP hS hl => lv_lneg hx hbc hdg (hk _ _ _ hm1 H locs ls hP hS hl)
  | lshl =>
    have hok : len = 1 := hok
    subst hok
    obtain ⟨y, r, rfl, hm1⟩ := mj_pI_e hm
    obtain ⟨x, r, rfl, hm2⟩ := mj_pL_e hm1
    exact fun H locs ls hP hS hl => lv_lshl hx hbc hdg rfl (hk _ _ _ hm2 H locs ls hP hS hl)
  | lshr =>
    have hok : len = 1 := hok
    subst hok
    obtain ⟨y, r, rfl, hm1⟩ := mj_pI_e hm
    obtain ⟨x, r, rfl, hm2⟩ := mj_pL_e hm1
    exact fun H locs ls hP hS hl => lv_lshr hx hbc hdg rfl (hk _ _ _ hm2 H locs ls hP hS hl)
  | lushr =>
    have hok : len = 1 := hok
    subst hok
    obtain ⟨y, r, rfl, hm1⟩ := mj_pI_e hm
    obtain ⟨x, r, rfl, hm2⟩ := mj_pL_e hm1
    exact fun H locs ls hP hS hl => lv_lushr hx hbc hdg rfl (hk _ _ _ hm2 H locs ls hP hS hl)
  | lcmp =>
    have hok : len = 1 := hok
    subst hok
    obtain ⟨y, r, rfl, hm1⟩ := mj_pL_e hm
    obtain ⟨x, r, rfl, hm2⟩ := mj_pL_e hm1
    exact fun H locs ls hP hS hl => W.lcmp hx hbc hdg (hk _ _ _ hm2 H locs ls hP hS hl)
  | i2l =>
    have hok : len = 1 := hok
    subst hok
    obtain ⟨x, r, rfl, hm1⟩ := mj_pI_e hm
    exact fun H locs ls hP hS hl => lv_i2l hx hbc hdg rfl (hk _ _ _ hm1 H locs ls hP hS hl)
  | l2i =>
    have hok : len = 1 := hok
    subst hok
    obtain ⟨x, r, rfl, hm1⟩ := mj_pL_e hm
    exact fun H locs ls hP hS hl => lv_l2i hx hbc hdg rfl (hk _ _ _ hm1 H locs ls hP hS hl)
  | dup =>
    have hok : len = 1 := hok
    subst hok
    simp only [mj_ins] at hm
    split at hm
    · exact fun H locs ls hP hS hl => lv_dup hx hbc hdg rfl (hk _ _ _ hm H locs ls hP hS hl)
    · exact fun H locs ls hP hS hl => lv_dup hx hbc hdg rfl (hk _ _ _ hm H locs ls hP hS hl)
    · exact hm.elim
  | dup2 =>
    have hok : len = 1 := hok
    subst hok
    obtain ⟨x, r, rfl, hm1⟩ := mj_pI_e hm
    obtain ⟨y, r, rfl, hm2⟩ := mj_pR_e hm1
    exact fun H locs ls hP hS hl => lv_dup2_11 hx hbc hdg rfl rfl (hk _ _ _ hm2 H locs ls hP hS hl)
  | getfield x =>
    have hok : len = 3 ∧ mj_okF TB CL own x a b ∧ mj_tc (TY a b) = cx := hok
    obtain ⟨rfl, hF, hc⟩ := hok
    obtain ⟨q, r, rfl, hm1⟩ := mj_pR_e hm
    obtain ⟨n, hq, hm2⟩ := mj_sh_e hm1
    obtain ⟨hb, hm3⟩ := mj_if_e hm2
    have hb : b < n := by simpa using hb
    split at hm3
    · exact mj_getf X Y hF hq hb hdg (by rw [hc]; rfl) (hk _ _ _ hm3)
    · exact mj_getf X Y hF hq hb hdg (by rw [hc]; rfl) (hk _ _ _ hm3)
    · rename_i n1 n2
      refine mj_getf X Y hF hq hb hdg ?_ (hk _ _ _ hm3)
      rw [hc, mj_fvI n1 n2]
      rfl
  | putfield x =>
    have hok : len = 3 ∧ mj_okF TB CL own x a b ∧ mj_tc (TY a b) = cx ∧ cx < 4 ∧ (∃ q, CL[a]? = some q ∧ (q.2.1 b).2.2.2 = false) := hok
    obtain ⟨rfl, hF, hc, hc4, hfin⟩ := hok
    simp only [mj_ins] at hm
    split at hm
    · obtain ⟨u, r, rfl, hm1⟩ := mj_pL_e hm
      obtain ⟨q, r, rfl, hm2⟩ := mj_pR_e hm1
      obtain ⟨n, hq, hm3⟩ := mj_sh_e hm2
      obtain ⟨hb, hm4⟩ := mj_if_e hm3
      have hb : b < n := by simpa using hb
      exact mj_putf (h' := (h.1, mj_up h.2.1 q b u, h.2.2)) X Y hF hfin hq hb hdg (mj_narL hc).1 (mj_narL hc).2 (fun k => mj_fv2 (fun e => by rw [e]; exact hc)) (fun k hk y => mj_ce_up2 hk y) (hk _ _ _ hm4)
    · obtain ⟨u, r, rfl, hm5⟩ := mj_pR_e hm
      obtain ⟨q, r, rfl, hm6⟩ := mj_pR_e hm5
      obtain ⟨n, hq, hm7⟩ := mj_sh_e hm6
      obtain ⟨hb, hm8⟩ := mj_if_e hm7
      have hb : b < n := by simpa using hb
      exact mj_putf (h' := (h.1, h.2.1, mj_up h.2.2 q b u)) X Y hF hfin hq hb hdg (mj_narR hc).1 (mj_narR hc).2 (fun k => mj_fv3 (fun e => by rw [e]; exact hc)) (fun k hk y => mj_ce_up3 hk y) (hk _ _ _ hm8)
    · obtain ⟨u, r, rfl, hm9⟩ := mj_pI_e hm
      obtain ⟨q, r, rfl, hm10⟩ := mj_pR_e hm9
      obtain ⟨n, hq, hm11⟩ := mj_sh_e hm10
      obtain ⟨hb, hu, hm12⟩ := mj_if_e hm11
      have hb : b < n := by simpa using hb
      exact mj_putf (h' := (mj_up h.1 q b u, h.2.1, h.2.2)) X Y hF hfin hq hb hdg (mj_narZ hc hu).1 (mj_narZ hc hu).2 (fun k => mj_fv1 (fun e => by rw [e, hc]; decide)) (fun k hk y => mj_ce_up1 hk y) (hk _ _ _ hm12)
    · rename_i n1 n2 n3
      have hc0 : cx = 0 := by
        have a1 : cx ≠ 1 := fun z => n1 z
        have a2 : cx ≠ 2 := fun z => n2 z
        have a3 : cx ≠ 3 := fun z => n3 z
        omega
      subst hc0
      obtain ⟨u, r, rfl, hm13⟩ := mj_pI_e hm
      obtain ⟨q, r, rfl, hm14⟩ := mj_pR_e hm13
      obtain ⟨n, hq, hm15⟩ := mj_sh_e hm14
      obtain ⟨hb, hm16⟩ := mj_if_e hm15
      have hb : b < n := by simpa using hb
      exact mj_putf (h' := (mj_up h.1 q b u, h.2.1, h.2.2)) X Y hF hfin hq hb hdg (mj_narI hc).1 (mj_narI hc).2 (fun k => mj_fv1 (fun e => by rw [e, hc]; decide)) (fun k hk y => mj_ce_up1 hk y) (hk _ _ _ hm16)
  | iaload =>
    have hok : len = 1 := hok
    subst hok
    obtain ⟨y, r, rfl, hm1⟩ := mj_pI_e hm
    obtain ⟨q, r, rfl, hm2⟩ := mj_pR_e hm1
    obtain ⟨n, hq, hin, hm3⟩ := mj_sh_e hm2
    exact fun H locs ls hP hS hl => va_iald hx hbc hK hP q 0 (mj_W_at hq) rfl hin hdg (hk _ _ _ hm3 H locs ls hP hS hl)
  | laload =>
    have hok : len = 1 := hok
    subst hok
    obtain ⟨y, r, rfl, hm1⟩ := mj_pI_e hm
    obtain ⟨q, r, rfl, hm2⟩ := mj_pR_e hm1
    obtain ⟨n, hq, hin, hm3⟩ := mj_sh_e hm2
    exact fun H locs ls hP hS hl => va_lald hx hbc hK hP q 1 (mj_W_at hq) rfl hin hdg (hk _ _ _ hm3 H locs ls hP hS hl)
  | baload =>
    have hok : len = 1 := hok
    subst hok
    obtain ⟨y, r, rfl, hm1⟩ := mj_pI_e hm
    obtain ⟨q, r, rfl, hm2⟩ := mj_pR_e hm1
    obtain ⟨n, hq, hin, hm3⟩ := mj_sh_e hm2
    exact fun H locs ls hP hS hl => va_zald hx hbc hK hP q 2 (mj_W_at hq) rfl hin hdg (hk _ _ _ hm3 H locs ls hP hS hl)
  | iastore =>
    have hok : len = 1 := hok
    subst hok
    obtain ⟨u, r, rfl, hm1⟩ := mj_pI_e hm
    obtain ⟨y, r, rfl, hm2⟩ := mj_pI_e hm1
    obtain ⟨q, r, rfl, hm3⟩ := mj_pR_e hm2
    obtain ⟨n, hq, hin, hm4⟩ := mj_sh_e hm3
    refine fun H locs ls hP hS hl => va_iast hx hbc hK hP (mj_W_D hinj) hS q 0 (mj_W_at hq) rfl hin hdg (fun H1 locs1 g1 g2 g3 => ?_)
    rw [← mj_upq, show ((Sum.inl (T3.1, n, Sum.inl (mj_up h.1 q y.toNatClampNeg u q)) : va_E)) = mj_ce TY T3 ad (mj_up h.1 q y.toNatClampNeg u, h.2.1, h.2.2) q (0, n) from rfl, mj_W_set hq (fun k hk y => mj_ce_up1 hk y)] at g1
    exact hk _ _ _ hm4 H1 locs1 ls g1 g3 hl
  | lastore =>
    have hok : len = 1 := hok
    subst hok
    obtain ⟨u, r, rfl, hm1⟩ := mj_pL_e hm
    obtain ⟨y, r, rfl, hm2⟩ := mj_pI_e hm1
    obtain ⟨q, r, rfl, hm3⟩ := mj_pR_e hm2
    obtain ⟨n, hq, hin, hm4⟩ := mj_sh_e hm3
    refine fun H locs ls hP hS hl => va_last hx hbc hK hP (mj_W_D hinj) hS q 1 (mj_W_at hq) rfl hin hdg (fun H1 locs1 g1 g2 g3 => ?_)
    rw [← mj_upqL, show ((Sum.inl (T3.2.1, n, Sum.inr (Sum.inl (mj_up h.2.1 q y.toNatClampNeg u q))) : va_E)) = mj_ce TY T3 ad (h.1, mj_up h.2.1 q y.toNatClampNeg u, h.2.2) q (1, n) from rfl, mj_W_set hq (fun k hk y => mj_ce_up2 hk y)] at g1
    exact hk _ _ _ hm4 H1 locs1 ls g1 g3 hl
  | bastore =>
    have hok : len = 1 := hok
    subst hok
    obtain ⟨u, r, rfl, hm1⟩ := mj_pI_e hm
    obtain ⟨y, r, rfl, hm2⟩ := mj_pI_e hm1
    obtain ⟨q, r, rfl, hm3⟩ := mj_pR_e hm2
    obtain ⟨n, hq, hin, hm4⟩ := mj_sh_e hm3
    refine fun H locs ls hP hS hl => va_zast hx hbc hK hP (mj_W_D hinj) hS q 2 (mj_W_at hq) rfl hin hdg (fun H1 locs1 g1 g2 g3 => ?_)
    rw [← mj_upq, show ((Sum.inl (T3.2.2, n, Sum.inl (mj_up h.1 q y.toNatClampNeg (vp_nar .boolean u) q)) : va_E)) = mj_ce TY T3 ad (mj_up h.1 q y.toNatClampNeg (vp_nar .boolean u), h.2.1, h.2.2) q (2, n) from rfl, mj_W_set hq (fun k hk y => mj_ce_up1 hk y)] at g1
    exact hk _ _ _ hm4 H1 locs1 ls g1 g3 hl
  | goto off =>
    obtain ⟨rfl, ht⟩ := hok
    exact fun H locs ls hP hS hl => lv_goto hx hbc hdg ht (hj _ _ _ _ hm H locs ls hP hS hl)
  | ifCond o off =>
    obtain ⟨rfl, ht⟩ := hok
    obtain ⟨x, r, rfl, hm1⟩ := mj_pI_e hm
    intro H locs ls hP hS hl
    cases o with
    | eq =>
      dsimp only at hm1
      refine lv_if_eq hx hbc hdg ht (fun q => ?_) (fun q => ?_)
      · rw [if_pos q] at hm1; exact hj _ _ _ _ hm1 H locs ls hP hS hl
      · rw [if_neg q] at hm1; exact hk _ _ _ hm1 H locs ls hP hS hl
    | ne =>
      dsimp only at hm1
      refine lv_if_ne hx hbc hdg ht (fun q => ?_) (fun q => ?_)
      · rw [if_neg q] at hm1; exact hj _ _ _ _ hm1 H locs ls hP hS hl
      · rw [if_pos (by simpa using q)] at hm1; exact hk _ _ _ hm1 H locs ls hP hS hl
    | lt =>
      dsimp only at hm1
      refine lv_if_lt hx hbc hdg ht (fun q => ?_) (fun q => ?_)
      · rw [if_pos q] at hm1; exact hj _ _ _ _ hm1 H locs ls hP hS hl
      · rw [if_neg q] at hm1; exact hk _ _ _ hm1 H locs ls hP hS hl
    | ge =>
      dsimp only at hm1
      refine lv_if_ge hx hbc hdg ht (fun q => ?_) (fun q => ?_)
      · rw [if_neg (by simpa using q)] at hm1; exact hj _ _ _ _ hm1 H locs ls hP hS hl
      · rw [if_pos (by simpa using q)] at hm1; exact hk _ _ _ hm1 H locs ls hP hS hl
    | gt =>
      dsimp only at hm1
      refine lv_if_gt hx hbc hdg ht (fun q => ?_) (fun q => ?_)
      · rw [if_neg (by simpa using q)] at hm1; exact hj _ _ _ _ hm1 H locs ls hP hS hl
      · rw [if_pos (by simpa using q)] at hm1; exact hk _ _ _ hm1 H locs ls hP hS hl
    | le =>
      dsimp only at hm1
      refine lv_if_le hx hbc hdg ht (fun q => ?_) (fun q => ?_)
      · rw [if_pos q] at hm1; exact hj _ _ _ _ hm1 H locs ls hP hS hl
      · rw [if_neg q] at hm1; exact hk _ _ _ hm1 H locs ls hP hS hl
  | if_icmp o off =>
    obtain ⟨rfl, ht⟩ := hok
    obtain ⟨y, r, rfl, hm1⟩ := mj_pI_e hm
    obtain ⟨x, r, rfl, hm2⟩ := mj_pI_e hm1
    intro H locs ls hP hS hl
    cases o with
    | eq =>
      dsimp only at hm2
      refine lv_icmp_eq hx hbc hdg ht (fun q => ?_) (fun q => ?_)
      · rw [if_pos q] at hm2; exact hj _ _ _ _ hm2 H locs ls hP hS hl
      · rw [if_neg q] at hm2; exact hk _ _ _ hm2 H locs ls hP hS hl
    | ne =>
      dsimp only at hm2
      refine lv_icmp_ne hx hbc hdg ht (fun q => ?_) (fun q => ?_)
      · rw [if_neg q] at hm2; exact hj _ _ _ _ hm2 H locs ls hP hS hl
      · rw [if_pos (by simpa using q)] at hm2; exact hk _ _ _ hm2 H locs ls hP hS hl
    | lt =>
      dsimp only at hm2
      refine lv_icmp_lt hx hbc hdg ht (fun q => ?_) (fun q => ?_)
      · rw [if_pos q] at hm2; exact hj _ _ _ _ hm2 H locs ls hP hS hl
      · rw [if_neg q] at hm2; exact hk _ _ _ hm2 H locs ls hP hS hl
    | ge =>
      dsimp only at hm2
      refine lv_icmp_ge hx hbc hdg ht (fun q => ?_) (fun q => ?_)
      · rw [if_pos q] at hm2; exact hj _ _ _ _ hm2 H locs ls hP hS hl
      · rw [if_neg q] at hm2; exact hk _ _ _ hm2 H locs ls hP hS hl
    | gt =>
      dsimp only at hm2
      refine lv_icmp_gt hx hbc hdg ht (fun q => ?_) (fun q => ?_)
      · rw [if_pos q] at hm2; exact hj _ _ _ _ hm2 H locs ls hP hS hl
      · rw [if_neg q] at hm2; exact hk _ _ _ hm2 H locs ls hP hS hl
    | le =>
      dsimp only at hm2
      refine lv_icmp_le hx hbc hdg ht (fun q => ?_) (fun q => ?_)
      · rw [if_pos q] at hm2; exact hj _ _ _ _ hm2 H locs ls hP hS hl
      · rw [if_neg q] at hm2; exact hk _ _ _ hm2 H locs ls hP hS hl
  | tableswitch df lo hi offs =>
    have hok : (pc : Int) + df = (a : Int) ∧ lo + sw.length = hi + 1 ∧ ∀ k, k < sw.length → (sw.getD k (0, 0)).1.toInt = lo + k ∧ offs[k]? = some (((sw.getD k (0, 0)).2 : Int) - pc) := hok
    obtain ⟨hd, hhi, hall⟩ := hok
    obtain ⟨x, r, rfl, hm1⟩ := mj_pI_e hm
    intro H locs ls hP hS hl
    rcases mj_sw_e hm1 with ⟨h1, h2⟩ | ⟨k9, h1, h2, h3⟩
    · refine lv_tableOut hx hbc hdg ?_ hd (hj _ _ _ _ h2 H locs ls hP hS hl)
      rcases Int.lt_or_le x.toInt lo with q1 | q1
      · exact Or.inl q1
      · rcases Int.lt_or_le hi x.toInt with q2 | q2
        · exact Or.inr q2
        · exfalso
          have q3 : (x.toInt - lo).toNat < sw.length := by omega
          refine h1 _ q3 ?_
          have q4 := (hall _ q3).1
          exact Int32.toInt_inj.mp (by rw [q4]; omega)
    · have q4 := hall _ h1
      have q5 : x.toInt = lo + k9 := by rw [h2]; exact q4.1
      refine lv_tableIn hx hbc hdg (by omega) (by omega) (off := ((sw.getD k9 (0, 0)).2 : Int) - pc) ?_ (by omega) (hj _ _ _ _ h3 H locs ls hP hS hl)
      rw [show (x.toInt - lo).toNat = k9 by omega]
      exact q4.2
  | lookupswitch df ps =>
    have hok : (pc : Int) + df = (a : Int) ∧ (ps.toList.zip (ps.toList.drop 1)).all (fun (a, next) => a.1 < next.1) = true ∧ ps.toList = sw.map (fun q => (q.1.toInt, (q.2 : Int) - pc)) := hok
    obtain ⟨hd, hpp, hps⟩ := hok
    obtain ⟨x, r, rfl, hm1⟩ := mj_pI_e hm
    intro H locs ls hP hS hl
    obtain ⟨t, h1, h2⟩ := mj_sw_l (pc := pc) hm1
    refine lv_lookup hx hbc hdg hpp (off := (t : Int) - pc) ?_ (by omega) (hj _ _ _ _ h1 H locs ls hP hS hl)
    rw [hps, show df = (a : Int) - pc by omega]
    exact h2
  | invokevirtual x =>
    obtain ⟨rfl, hV⟩ := hok
    obtain ⟨hb, hrc, hrt2⟩ := mj_if_e hm
    rw [Bool.and_eq_true] at hb
    obtain ⟨q, hq, r', hF, hr'⟩ := mj_rt_e ad hrt2
    exact mj_s_virt X hV (Nat.le_of_ble_eq_true hb.1) (Nat.le_of_ble_eq_true hb.2) rfl hrc (hcal _ _ _ _ hq) hr' hdg (hk _ _ _ hF)
  | invokestatic x =>
    obtain ⟨rfl, hok⟩ := hok
    simp only [mj_ins] at hm
    split at hm
    · rename_i e9
      have e9 : a = 999 := Nat.eq_of_beq_eq_true e9
      rcases hok with ⟨-, hC⟩ | ⟨hne, -⟩
      · obtain ⟨n, r, rfl, hm1⟩ := mj_pI_e hm
        obtain ⟨dp, r, rfl, hm2⟩ := mj_pI_e hm1
        obtain ⟨y, r, rfl, hm3⟩ := mj_pR_e hm2
        obtain ⟨sp, r, rfl, hm4⟩ := mj_pI_e hm3
        obtain ⟨q, r, rfl, hm5⟩ := mj_pR_e hm4
        obtain ⟨n0, hq, hm6⟩ := mj_sh_e hm5
        obtain ⟨n1, hy, ⟨c1, c2, c3, c4, c5⟩, hm7⟩ := mj_sh_e hm6
        obtain ⟨h8, hm8⟩ := mj_if_e hm7
        obtain ⟨w1, w2, w3, w4⟩ := hC
        intro H locs ls hP hS hl
        have hfw : nativeFrameWords "java/lang/System" "arraycopy" 5 + 11 ≤ 50 := by decide +kernel
        refine va_copyi hx hbc (by rw [hml]; exact hl.1.symm) hown (hts _ (mj_good_in w1 rfl)) (hts _ (mj_good_in w2 rfl)) (hts _ (mj_good_in w3 rfl)) (hts _ (mj_good_in w4 rfl)) hK hP (mj_W_D hinj) hS q y 0 0 (mj_W_at hq) (mj_W_at hy) rfl rfl rfl c1 c2 c3 c4 c5 (fun _ _ => rfl) (by simp only [mj_rm]; omega) ?_ hdg (fun H1 locs1 g1 g2 g3 => ?_)
        · rw [mj_sz_eq]
          have := Nat.le_of_ble_eq_true h8
          simp only [mj_rm]
          omega
        · rw [← mj_cpq, show ((Sum.inl (T3.1, n1, Sum.inl (mj_cp h.1 q sp.toNatClampNeg y dp.toNatClampNeg n.toNatClampNeg y)) : va_E)) = mj_ce TY T3 ad (mj_cp h.1 q sp.toNatClampNeg y dp.toNatClampNeg n.toNatClampNeg, h.2.1, h.2.2) y (0, n1) from rfl, mj_W_set hy (fun k hk y => mj_ce_cp hk y)] at g1
          exact hk _ _ _ hm8 H1 locs1 ls g1 g3 hl
      · exact absurd e9 hne
    · rename_i e9
      rcases hok with ⟨e8, -⟩ | ⟨-, hV⟩
      · subst e8
        exact absurd e9 (by decide)
      · obtain ⟨hb, hrc, hrt2⟩ := mj_if_e hm
        rw [Bool.and_eq_true] at hb
        obtain ⟨q, hq, r', hF, hr'⟩ := mj_rt_e ad hrt2
        exact mj_s_stat X hV (Nat.le_of_ble_eq_true hb.1) (Nat.le_of_ble_eq_true hb.2) rfl (hcal _ _ _ _ hq) hr' hdg (hk _ _ _ hF)
  | return_ =>
    obtain ⟨rfl, hr⟩ := hok
    simp only [mj_ins] at hm
    split at hm
    · subst hm
      exact fun H locs ls hP hS hl => W.vret hx hbc (hrt.trans hr) (fun t ht hW => ⟨rfl, by rw [ht]; exact hP, hS.F ht⟩) hS.2.2 hdg hlocks
    · exact hm.elim
  | ireturn =>
    obtain ⟨rfl, hr⟩ := hok
    simp only [mj_ins] at hm
    split at hm
    · split at hm
      · subst hm
        exact fun H locs ls hP hS hl => W.iret hx hbc (hrt.trans hr) (fun t ht hW => ⟨rfl, by rw [ht]; exact hP, hS.F ht⟩) hS.2.2 hdg hlocks
      · rename_i n1
        obtain ⟨h01, hm1⟩ := hm
        subst hm1
        refine fun H locs ls hP hS hl => W.zret (ty := .boolean) hx hbc (hrt.trans (hr.trans ?_)) (by rcases h01 with rfl | rfl <;> rfl) (fun t ht hW => ⟨rfl, by rw [ht]; exact hP, hS.F ht⟩) hS.2.2 hdg hlocks
        show some (match a with | 0 => FieldType.int | _ => .boolean) = some .boolean
        cases a with
        | zero => exact absurd rfl n1
        | succ _ => rfl
    · exact hm.elim
  | lreturn =>
    obtain ⟨rfl, hr⟩ := hok
    simp only [mj_ins] at hm
    split at hm
    · subst hm
      exact fun H locs ls hP hS hl => W.lret hx hbc (hrt.trans hr) (fun t ht hW => ⟨rfl, by rw [ht]; exact hP, hS.F ht⟩) hS.2.2 hdg hlocks
    · exact hm.elim
  | areturn =>
    obtain ⟨rfl, n9, hr⟩ := hok
    simp only [mj_ins] at hm
    split at hm
    · subst hm
      exact fun H locs ls hP hS hl => W.aret hx hbc (hrt.trans hr) (Or.inl ⟨n9, rfl⟩) (Or.inr ⟨_, rfl⟩) (fun t ht hW => ⟨rfl, by rw [ht]; exact hP, hS.F ht⟩) hS.2.2 hdg hlocks
    · exact hm.elim
  | _ => exact hm.elim
end MJJ
end
section
/-! the small machine is sound: blocks, walks, methods -/
theorem mj_sl_len (ad : Nat → Nat) : ∀ as : List Value, (lg_sl (as.map (mj_tr ad))).length = mj_sz as
  | [] => rfl
  | v :: r => by
    have ih := mj_sl_len ad r
    unfold lg_sl at ih ⊢
    rw [List.map_cons, List.flatMap_cons, List.length_append, ih]
    show _ = v.category + mj_sz r
    rw [mj_cat]
    rcases lv_cat v with h | h <;> simp [h]
section MJB
variable {p : Program} {l : Launch} {e : Env} {s : State} {m : MethodId} {args : Array Value} {below : List Frame} {meth : Method} {c : Code}
variable {TB : List Cond} {CL : List vw_C} {TY : Nat → Nat → FieldType} {MS : Nat → mj_M} {S : mj_S} {Dg : va_G} {T3 : Nat × Nat × Nat} {ad : Nat → Nat} {cc : ByteArray} {nL D : Nat} {own : String} {rr : mj_R} {rt : Option FieldType}
theorem mj_s_bk (X : mj_Cx p s m args meth c TB CL S Dg T3 ad cc nL own rt) (Y : mj_Cs TB CL TY S) {cal : Nat → List Value → mj_H → mj_R → Prop} (hcal : ∀ z as h r, cal z as h r → mj_Met l TB CL TY S Dg T3 ad D (MS z) as h r)
    {jmp : Nat → mj_K} (hj : ∀ t L st h, jmp t L st h → mj_Go p l e s m args below meth c CL TY S Dg T3 ad nL (D + 1) rr t L st h) : ∀ (b : List mj_E) (pc : Nat), mj_okB TB CL TY MS own cc nL rt b pc → ∀ (L : mj_L) (st : List Value) (h : mj_H), mj_bk S cal (fun r => r = rr) jmp b pc L st h → mj_Go p l e s m args below meth c CL TY S Dg T3 ad nL (D + 1) rr pc L st h
  | [], _, _, _, _, _, hm => hj _ _ _ _ hm
  | e1 :: r, pc, ⟨⟨hdg, hok⟩, hrest⟩, L, st, h, hm => mj_s_ins (i := e1.1) (len := e1.2.1) X Y hcal hj (fun L st h q => mj_s_bk X Y hcal hj r (pc + e1.2.1) hrest L st h q) hdg hok hm
theorem mj_s_sg (X : mj_Cx p s m args meth c TB CL S Dg T3 ad cc nL own rt) (Y : mj_Cs TB CL TY S) {cal : Nat → List Value → mj_H → mj_R → Prop} (hcal : ∀ z as h r, cal z as h r → mj_Met l TB CL TY S Dg T3 ad D (MS z) as h r)
    {C : mj_C} (hC : ∀ b ∈ C.1, mj_okB TB CL TY MS own cc nL rt b.2 b.1) {K : Nat → mj_K} (hK : ∀ t L st h, K t L st h → mj_Go p l e s m args below meth c CL TY S Dg T3 ad nL (D + 1) rr t L st h) : ∀ (n pc : Nat) (L : mj_L) (st : List Value) (h : mj_H), mj_sg S C cal (fun r => r = rr) K n pc L st h → mj_Go p l e s m args below meth c CL TY S Dg T3 ad nL (D + 1) rr pc L st h
  | 0, _, _, _, _, hm => hm.elim
  | n + 1, pc, L, st, h, hm => by
    unfold mj_sg at hm
    split at hm
    · exact fun H locs ls hP hS hl => hK _ _ _ _ hm H locs ls hP hS (mj_tm_has hl)
    · split at hm
      · rename_i b hb
        exact mj_s_bk X Y hcal (fun t L st h q => mj_s_sg X Y hcal hC hK n t L st h q) b pc (hC _ (mj_fd_mem hb)) L st h hm
      · exact hm.elim
theorem mj_s_rn (X : mj_Cx p s m args meth c TB CL S Dg T3 ad cc nL own rt) (Y : mj_Cs TB CL TY S) {cal : Nat → List Value → mj_H → mj_R → Prop} (hcal : ∀ z as h r, cal z as h r → mj_Met l TB CL TY S Dg T3 ad D (MS z) as h r)
    {C : mj_C} (hC : ∀ b ∈ C.1, mj_okB TB CL TY MS own cc nL rt b.2 b.1) : ∀ (n pc : Nat) (L : mj_L) (st : List Value) (h : mj_H), mj_rn S C cal (fun r => r = rr) n pc L st h → mj_Go p l e s m args below meth c CL TY S Dg T3 ad nL (D + 1) rr pc L st h
  | 0, _, _, _, _, hm => hm.elim
  | n + 1, pc, L, st, h, hm => by
    have h2 : mj_go S C cal (fun r => r = rr) (mj_rn S C cal (fun r => r = rr) n) pc L st h := hm
    unfold mj_go at h2
    split at h2
    · rename_i b hb
      exact mj_s_bk X Y hcal (fun t L st h q => mj_s_sg X Y hcal hC (fun t L st h q => mj_s_rn X Y hcal hC n t L st h q) 100 t L st h q) b pc (hC _ (mj_fd_mem hb)) L st h h2
    · exact h2.elim
end MJB
/-- THE SMALL MACHINE IS SOUND -/
theorem mj_sound {l : Launch} {TB : List Cond} {CL : List vw_C} {TY : Nat → Nat → FieldType} {MS : Nat → mj_M} {S : mj_S} {CD : Nat → mj_C} {Dg : va_G} {T3 : Nat × Nat × Nat} {ad : Nat → Nat} (hinj : ∀ i j, i < S.length → j < S.length → ad i = ad j → i = j)
    (Y : mj_Cs TB CL TY S) (hM : ∀ z, mj_okM TB CL TY MS (MS z) (CD z) ∨ CD z = ([], [], 0)) : ∀ (D z : Nat) (as : List Value) (h : mj_H) (r : mj_R), mj_Cl S CD D z as h r → mj_Met l TB CL TY S Dg T3 ad D (MS z) as h r
  | 0, _, _, _, _, hm => hm.elim
  | D + 1, z, as, h, r, hm => by
    have ih := mj_sound (l := l) (T3 := T3) (Dg := Dg) hinj Y hM D
    obtain ⟨hz, hm⟩ := mj_if_e hm
    rcases hM z with ⟨hY, hn, hC⟩ | hC
    · intro sz
      have hz : mj_sz as ≤ (MS z).2.2.1 := by rw [← hn]; exact Nat.le_of_ble_eq_true hz
      refine mj_ofW (cc := (MS z).2.1) (maxL := (MS z).2.2.1) (ret := (MS z).2.2.2) hY.2.2.2.1 rfl ?_
      intro p e s m args below meth c s₁ B hml hv
      obtain ⟨rfl, hsz, hP, hK, hN⟩ := hv
      have hx := B.exec
      have hb := B.bytes
      have hr := B.returns
      have hts := atoms_spec (ws := mj_ws TB (MS z)) B.pre
      have hown : s.vm.findClass (MS z).1.cls = some m.cls := findClass_of_methodNamed B.named
      have hlocks := B.notSynchronized
      subst hsz
      rw [lg_entry_eq]
      have hl := lv_entry (as.map (mj_tr ad)) (n := (MS z).2.2.1) (by rw [mj_sl_len]; exact hz)
      rw [mj_a0_eq] at hl
      have X : mj_Cx p s m (as.map (mj_tr ad)).toArray meth c TB CL S Dg T3 ad (MS z).2.1 (MS z).2.2.1 (MS z).1.cls (MS z).2.2.2 := ⟨hx, hb, hml, hown, fun w hw => hts w (List.mem_cons_of_mem _ hw), hK, hN, hinj, hlocks, hr⟩
      have hg := mj_s_sg (e := e) (below := below) X Y ih hC (fun t L st h q => by
        obtain ⟨n, q⟩ := q
        exact mj_s_rn X Y ih hC n t L st h q) 100 0 (mj_a0 0 as) [] h hm
      exact hg s.heap [] _ hP va_S.rf hl
    · exfalso
      rw [hC] at hm
      exact hm
end
section
/-! worlds as tables -/
def mj_tb (L : List (List Nat)) (q k : Nat) : Nat := match mj_nth L q with
  | some r => (match mj_nth r k with
    | some x => x
    | none => 0)
  | none => 0
/-- a method's answer is shown from its entry on -/
theorem mj_mk {S : mj_S} {CD : Nat → mj_C} {D z : Nat} {as : List Value} {h : mj_H} {r : mj_R}
    (hm : mj_if (Nat.ble (mj_sz as) (CD z).2.2) (mj_sg S (CD z) (mj_Cl S CD D) (fun x => x = r) (mj_Ev S (CD z) (mj_Cl S CD D) (fun x => x = r)) 100 0 (mj_a0 0 as) [] h)) : mj_Cl S CD (D + 1) z as h r := hm
/-! the cells of the two worlds, by program: kind and size of each, in the order of their making; and the references -/
def mj_S1 : mj_S := [(4, 16), (14, 11), (0, 6), (0, 240), (2, 4), (0, 960), (0, 160), (0, 24), (0, 24), (0, 900), (0, 12), (11, 12), (0, 17), (0, 900), (14, 11), (0, 6), (0, 240), (2, 4), (0, 960), (0, 160), (0, 24), (0, 24), (0, 900), (0, 12), (12, 8), (0, 160), (0, 160), (0, 160), (0, 40), (10, 5), (0, 26244), (1, 6561), (0, 6561), (6, 3), (7, 2), (0, 64), (0, 40), (0, 4), (5, 4), (0, 400), (1, 100), (5, 4), (0, 400), (1, 100), (5, 4), (0, 400), (1, 100), (9, 5), (0, 576), (0, 16), (0, 16), (15, 4), (0, 1820), (13, 8), (0, 12), (0, 12), (1, 1600), (2, 4096), (8, 6), (0, 24), (2, 6), (1, 6), (0, 240)]
def mj_RL1 : List (List Nat) := [[0, 1, 11, 24, 29, 33, 38, 41, 44, 0, 47, 51, 53, 58, 0, 0], [0, 2, 3, 4, 5, 6, 7, 8, 9, 0, 10], [], [], [], [], [], [], [], [], [], [12, 13, 0, 14, 0, 0, 0, 0, 0, 0, 0, 0], [], [], [0, 15, 16, 17, 18, 19, 20, 21, 22, 0, 23], [], [], [], [], [], [], [], [], [], [0, 0, 25, 26, 27, 0, 0, 28], [], [], [], [], [30, 31, 32, 0, 0], [], [], [], [34, 36, 37], [35, 0], [], [], [], [0, 0, 39, 40], [], [], [0, 0, 42, 43], [], [], [0, 0, 45, 46], [], [], [0, 48, 49, 50, 0], [], [], [], [0, 0, 0, 52], [], [0, 54, 55, 56, 57, 0, 0, 0], [], [], [], [], [59, 60, 61, 62, 0, 0], [], [], [], []]
def mj_R1 : Nat → Nat → Nat := mj_tb mj_RL1
-- cell 0: UnbeatenHouse 16 : 0 taped, 1 tale -> 1, 2 reader -> 11, 3 table -> 24, 4 pool -> 29, 5 gatherer -> 33, 6 hand -> 38, 7 made -> 41, 8 setFront -> 44, 9 setsOnFront, 10 picker -> 47, 11 weighings -> 51, 12 sayings -> 53, 13 people -> 58, 14 fell, 15 came
-- cell 1: UnbeatenHouse$Tale 11 : 0 statements, 1 counts -> 2, 2 names -> 3, 3 more -> 4, 4 amounts -> 5, 5 spreads -> 6, 6 tieFrom -> 7, 7 tieTo -> 8, 8 steps -> 9, 9 stepCount, 10 ruleEnds -> 10
-- cell 2: int 6
-- cell 3: int 240
-- cell 4: boolean 4
-- cell 5: int 960
-- cell 6: int 160
-- cell 7: int 24
-- cell 8: int 24
-- cell 9: int 900
-- cell 10: int 12
-- cell 11: UnbeatenHouse$Reader 12 : 0 ownCodes -> 12, 1 tape -> 13, 2 length, 3 into -> 14, 4 at, 5 token, 6 value, 7 own, 8 tokenAt, 9 open, 10 wrong, 11 wrongAt
-- cell 12: int 17
-- cell 13: int 900
-- cell 14: UnbeatenHouse$Tale 11 : 0 statements, 1 counts -> 15, 2 names -> 16, 3 more -> 17, 4 amounts -> 18, 5 spreads -> 19, 6 tieFrom -> 20, 7 tieTo -> 21, 8 steps -> 22, 9 stepCount, 10 ruleEnds -> 23
-- cell 15: int 6
-- cell 16: int 240
-- cell 17: boolean 4
-- cell 18: int 960
-- cell 19: int 160
-- cell 20: int 24
-- cell 21: int 24
-- cell 22: int 900
-- cell 23: int 12
-- cell 24: UnbeatenHouse$Rows 8 : 0 count, 1 wishes, 2 losses -> 25, 3 low -> 26, 4 high -> 27, 5 aside, 6 best, 7 worths -> 28
-- cell 25: int 160
-- cell 26: int 160
-- cell 27: int 160
-- cell 28: int 40
-- cell 29: UnbeatenHouse$Pool 5 : 0 losses -> 30, 1 keys -> 31, 2 order -> 32, 3 count, 4 wishes
-- cell 30: int 26244
-- cell 31: long 6561
-- cell 32: int 6561
-- cell 33: UnbeatenHouse$Gatherer 3 : 0 judge -> 34, 1 sums -> 36, 2 losses -> 37
-- cell 34: UnbeatenHouse$Judge 2 : 0 stack -> 35, 1 top
-- cell 35: int 64
-- cell 36: int 40
-- cell 37: int 4
-- cell 38: UnbeatenHouse$Front 4 : 0 kind, 1 count, 2 losses -> 39, 3 keys -> 40
-- cell 39: int 400
-- cell 40: long 100
-- cell 41: UnbeatenHouse$Front 4 : 0 kind, 1 count, 2 losses -> 42, 3 keys -> 43
-- cell 42: int 400
-- cell 43: long 100
-- cell 44: UnbeatenHouse$Front 4 : 0 kind, 1 count, 2 losses -> 45, 3 keys -> 46
-- cell 45: int 400
-- cell 46: long 100
-- cell 47: UnbeatenHouse$Picker 5 : 0 count, 1 distances -> 48, 2 tried -> 49, 3 chosen -> 50, 4 keptCount
-- cell 48: int 576
-- cell 49: int 16
-- cell 50: int 16
-- cell 51: UnbeatenHouse$Weighings 4 : 0 sum, 1 wishes, 2 count, 3 weights -> 52
-- cell 52: int 1820
-- cell 53: UnbeatenHouse$Sayings 8 : 0 count, 1 liked -> 54, 2 passed -> 55, 3 leaves -> 56, 4 held -> 57, 5 askedFirst, 6 askedSecond, 7 askedLeaves
-- cell 54: int 12
-- cell 55: int 12
-- cell 56: long 1600
-- cell 57: boolean 4096
-- cell 58: UnbeatenHouse$People 6 : 0 weights -> 59, 1 votes -> 60, 2 bars -> 61, 3 worths -> 62, 4 voters, 5 candidates
-- cell 59: int 24
-- cell 60: boolean 6
-- cell 61: long 6
-- cell 62: int 240
def mj_S2 : mj_S := [(3, 77), (0, 900), (0, 2), (0, 2), (0, 2), (0, 2), (0, 2), (0, 2), (1, 8), (2, 8), (1, 80), (0, 320), (0, 320), (1, 20), (0, 48), (0, 48), (0, 192), (1, 24), (0, 96), (0, 24), (0, 24), (0, 1800), (0, 1800), (0, 20), (0, 20), (2, 20), (0, 20), (0, 20), (0, 500), (0, 32768), (0, 8192), (0, 81920), (0, 4), (0, 10), (0, 40), (0, 10), (1, 950), (0, 400), (0, 100), (0, 1000), (0, 4), (0, 16), (0, 16), (0, 12), (0, 12), (0, 18240), (1, 456), (0, 456), (0, 24), (1, 6)]
def mj_RL2 : List (List Nat) := [[1, 0, 0, 0, 0, 0, 0, 0, 0, 0, 0, 0, 0, 2, 3, 4, 5, 6, 7, 8, 9, 10, 11, 12, 13, 14, 15, 16, 17, 18, 19, 20, 21, 22, 0, 0, 23, 24, 25, 26, 27, 0, 0, 28, 0, 0, 0, 0, 0, 29, 30, 31, 32, 33, 34, 35, 0, 36, 0, 0, 37, 38, 39, 0, 40, 0, 41, 42, 0, 43, 44, 0, 45, 46, 47, 48, 49], [], [], [], [], [], [], [], [], [], [], [], [], [], [], [], [], [], [], [], [], [], [], [], [], [], [], [], [], [], [], [], [], [], [], [], [], [], [], [], [], [], [], [], [], [], [], [], [], []]
def mj_R2 : Nat → Nat → Nat := mj_tb mj_RL2
-- cell 0: UnbeatenHouseModel 77 : 0 tape -> 1, 1 taped, 2 size, 3 sign, 4 signAt, 5 signEnd, 6 value, 7 word, 8 faultKind, 9 faultPlace, 10 toldKind, 11 toldPlace, 12 bank, 13 wishes -> 2, 14 rows -> 3, 15 knots -> 4, 16 ties -> 5, 17 things -> 6, 18 rules -> 7, 19 wishName -> 8, 20 isMore -> 9, 21 rowName -> 10, 22 rowHas -> 11, 23 spread -> 12, 24 knotName -> 13, 25 tieFrom -> 14, 26 tieTo -> 15, 27 tieHas -> 16, 28 thingName -> 17, 29 thingHas -> 18, 30 ruleFrom -> 19, 31 ruleTo -> 20, 32 codeSort -> 21, 33 codeValue -> 22, 34 codes, 35 in, 36 frame -> 23, 37 phase -> 24, 38 begins -> 25, 39 pair -> 26, 40 base -> 27, 41 deep, 42 open, 43 ops -> 28, 44 opMany, 45 operand, 46 fell, 47 came, 48 gathered, 49 gLoss -> 29, 50 gWho -> 30, 51 gKnots -> 31, 52 at -> 32, 53 path -> 33, 54 sums -> 34, 55 step -> 35, 56 setMask, 57 heap -> 36, 58 frontMany, 59 frontKind, 60 fLoss -> 37, 61 fWho -> 38, 62 fKnots -> 39, 63 grid, 64 weigh -> 40, 65 keptMany, 66 kept -> 41, 67 pick -> 42, 68 sayings, 69 better -> 43, 70 worse -> 44, 71 agreeing, 72 worths -> 45, 73 firsts -> 46, 74 agreements -> 47, 75 weights -> 48, 76 bars -> 49
-- cell 1: int 900
-- cell 2: int 2
-- cell 3: int 2
-- cell 4: int 2
-- cell 5: int 2
-- cell 6: int 2
-- cell 7: int 2
-- cell 8: long 8
-- cell 9: boolean 8
-- cell 10: long 80
-- cell 11: int 320
-- cell 12: int 320
-- cell 13: long 20
-- cell 14: int 48
-- cell 15: int 48
-- cell 16: int 192
-- cell 17: long 24
-- cell 18: int 96
-- cell 19: int 24
-- cell 20: int 24
-- cell 21: int 1800
-- cell 22: int 1800
-- cell 23: int 20
-- cell 24: int 20
-- cell 25: boolean 20
-- cell 26: int 20
-- cell 27: int 20
-- cell 28: int 500
-- cell 29: int 32768
-- cell 30: int 8192
-- cell 31: int 81920
-- cell 32: int 4
-- cell 33: int 10
-- cell 34: int 40
-- cell 35: int 10
-- cell 36: long 950
-- cell 37: int 400
-- cell 38: int 100
-- cell 39: int 1000
-- cell 40: int 4
-- cell 41: int 16
-- cell 42: int 16
-- cell 43: int 12
-- cell 44: int 12
-- cell 45: int 18240
-- cell 46: long 456
-- cell 47: int 456
-- cell 48: int 24
-- cell 49: long 6
end
