section
-- ===== PART A: goes FIRST, ahead of the names: the tables' words, and 'selects' of the private methods out of them =====
/-- a private method of a class that the tables say can be made, by its rows of tables_1 -/
def lw_okq (q : MethodName × Nat) : Prop := (q.1.cls ≠ "java/lang/invoke/MethodHandle" ∧ q.1.cls ≠ "java/lang/invoke/VarHandle") ∧ Cond.instantiable q.1.cls q.2 ∈ tables_1 ∧ Cond.privateMethod q.1 ∈ tables_1 ∧ Cond.instanceMethod q.1 ∈ tables_1
theorem lw_p0 : lw_okq (⟨"UnbeatenHouse", "putBytes", "(I)V"⟩, 16) := ⟨⟨by decide +kernel, by decide +kernel⟩, List.mem_of_getElem? (i := 23) (by decide +kernel), List.mem_of_getElem? (i := 472) (by decide +kernel), List.mem_of_getElem? (i := 473) (by decide +kernel)⟩
theorem lw_p1 : lw_okq (⟨"UnbeatenHouse$Reader", "advance", "()V"⟩, 12) := ⟨⟨by decide +kernel, by decide +kernel⟩, List.mem_of_getElem? (i := 97) (by decide +kernel), List.mem_of_getElem? (i := 492) (by decide +kernel), List.mem_of_getElem? (i := 493) (by decide +kernel)⟩
theorem lw_p2 : lw_okq (⟨"UnbeatenHouse$Reader", "ownNumber", "(I)I"⟩, 12) := ⟨⟨by decide +kernel, by decide +kernel⟩, List.mem_of_getElem? (i := 97) (by decide +kernel), List.mem_of_getElem? (i := 502) (by decide +kernel), List.mem_of_getElem? (i := 503) (by decide +kernel)⟩
theorem lw_p3 : lw_okq (⟨"UnbeatenHouse$Reader", "readStatement", "()V"⟩, 12) := ⟨⟨by decide +kernel, by decide +kernel⟩, List.mem_of_getElem? (i := 97) (by decide +kernel), List.mem_of_getElem? (i := 506) (by decide +kernel), List.mem_of_getElem? (i := 507) (by decide +kernel)⟩
theorem lw_p4 : lw_okq (⟨"UnbeatenHouse$Reader", "blame", "(I)V"⟩, 12) := ⟨⟨by decide +kernel, by decide +kernel⟩, List.mem_of_getElem? (i := 97) (by decide +kernel), List.mem_of_getElem? (i := 510) (by decide +kernel), List.mem_of_getElem? (i := 511) (by decide +kernel)⟩
theorem lw_p5 : lw_okq (⟨"UnbeatenHouse$Reader", "isOutOfTurn", "(I)Z"⟩, 12) := ⟨⟨by decide +kernel, by decide +kernel⟩, List.mem_of_getElem? (i := 97) (by decide +kernel), List.mem_of_getElem? (i := 516) (by decide +kernel), List.mem_of_getElem? (i := 517) (by decide +kernel)⟩
theorem lw_p6 : lw_okq (⟨"UnbeatenHouse$Reader", "readWish", "()V"⟩, 12) := ⟨⟨by decide +kernel, by decide +kernel⟩, List.mem_of_getElem? (i := 97) (by decide +kernel), List.mem_of_getElem? (i := 520) (by decide +kernel), List.mem_of_getElem? (i := 521) (by decide +kernel)⟩
theorem lw_p7 : lw_okq (⟨"UnbeatenHouse$Reader", "giveName", "(I)V"⟩, 12) := ⟨⟨by decide +kernel, by decide +kernel⟩, List.mem_of_getElem? (i := 97) (by decide +kernel), List.mem_of_getElem? (i := 524) (by decide +kernel), List.mem_of_getElem? (i := 525) (by decide +kernel)⟩
theorem lw_p8 : lw_okq (⟨"UnbeatenHouse$Reader", "isName", "()Z"⟩, 12) := ⟨⟨by decide +kernel, by decide +kernel⟩, List.mem_of_getElem? (i := 97) (by decide +kernel), List.mem_of_getElem? (i := 528) (by decide +kernel), List.mem_of_getElem? (i := 529) (by decide +kernel)⟩
theorem lw_p9 : lw_okq (⟨"UnbeatenHouse$Reader", "readTie", "()V"⟩, 12) := ⟨⟨by decide +kernel, by decide +kernel⟩, List.mem_of_getElem? (i := 97) (by decide +kernel), List.mem_of_getElem? (i := 544) (by decide +kernel), List.mem_of_getElem? (i := 545) (by decide +kernel)⟩
theorem lw_p10 : lw_okq (⟨"UnbeatenHouse$Reader", "askName", "(II)I"⟩, 12) := ⟨⟨by decide +kernel, by decide +kernel⟩, List.mem_of_getElem? (i := 97) (by decide +kernel), List.mem_of_getElem? (i := 548) (by decide +kernel), List.mem_of_getElem? (i := 549) (by decide +kernel)⟩
theorem lw_p11 : lw_okq (⟨"UnbeatenHouse$Reader", "readAmounts", "(II)V"⟩, 12) := ⟨⟨by decide +kernel, by decide +kernel⟩, List.mem_of_getElem? (i := 97) (by decide +kernel), List.mem_of_getElem? (i := 553) (by decide +kernel), List.mem_of_getElem? (i := 554) (by decide +kernel)⟩
theorem lw_p12 : lw_okq (⟨"UnbeatenHouse$Reader", "takeNumber", "()I"⟩, 12) := ⟨⟨by decide +kernel, by decide +kernel⟩, List.mem_of_getElem? (i := 97) (by decide +kernel), List.mem_of_getElem? (i := 560) (by decide +kernel), List.mem_of_getElem? (i := 561) (by decide +kernel)⟩
theorem lw_p13 : lw_okq (⟨"UnbeatenHouse$Reader", "readRule", "()V"⟩, 12) := ⟨⟨by decide +kernel, by decide +kernel⟩, List.mem_of_getElem? (i := 97) (by decide +kernel), List.mem_of_getElem? (i := 564) (by decide +kernel), List.mem_of_getElem? (i := 565) (by decide +kernel)⟩
theorem lw_p14 : lw_okq (⟨"UnbeatenHouse$Reader", "readTest", "()V"⟩, 12) := ⟨⟨by decide +kernel, by decide +kernel⟩, List.mem_of_getElem? (i := 97) (by decide +kernel), List.mem_of_getElem? (i := 568) (by decide +kernel), List.mem_of_getElem? (i := 569) (by decide +kernel)⟩
theorem lw_p15 : lw_okq (⟨"UnbeatenHouse$Reader", "readBoth", "()V"⟩, 12) := ⟨⟨by decide +kernel, by decide +kernel⟩, List.mem_of_getElem? (i := 97) (by decide +kernel), List.mem_of_getElem? (i := 572) (by decide +kernel), List.mem_of_getElem? (i := 573) (by decide +kernel)⟩
def lw_privs_1 : List (MethodName × Nat) := [(⟨"UnbeatenHouse", "putBytes", "(I)V"⟩, 16), (⟨"UnbeatenHouse$Reader", "advance", "()V"⟩, 12), (⟨"UnbeatenHouse$Reader", "ownNumber", "(I)I"⟩, 12), (⟨"UnbeatenHouse$Reader", "readStatement", "()V"⟩, 12), (⟨"UnbeatenHouse$Reader", "blame", "(I)V"⟩, 12), (⟨"UnbeatenHouse$Reader", "isOutOfTurn", "(I)Z"⟩, 12), (⟨"UnbeatenHouse$Reader", "readWish", "()V"⟩, 12), (⟨"UnbeatenHouse$Reader", "giveName", "(I)V"⟩, 12), (⟨"UnbeatenHouse$Reader", "isName", "()Z"⟩, 12), (⟨"UnbeatenHouse$Reader", "readTie", "()V"⟩, 12), (⟨"UnbeatenHouse$Reader", "askName", "(II)I"⟩, 12), (⟨"UnbeatenHouse$Reader", "readAmounts", "(II)V"⟩, 12), (⟨"UnbeatenHouse$Reader", "takeNumber", "()I"⟩, 12), (⟨"UnbeatenHouse$Reader", "readRule", "()V"⟩, 12), (⟨"UnbeatenHouse$Reader", "readTest", "()V"⟩, 12), (⟨"UnbeatenHouse$Reader", "readBoth", "()V"⟩, 12)]
theorem lw_r1 : ∀ q ∈ lw_privs_1, lw_okq q := List.forall_mem_cons.mpr ⟨lw_p0, List.forall_mem_cons.mpr ⟨lw_p1, List.forall_mem_cons.mpr ⟨lw_p2, List.forall_mem_cons.mpr ⟨lw_p3, List.forall_mem_cons.mpr ⟨lw_p4, List.forall_mem_cons.mpr ⟨lw_p5, List.forall_mem_cons.mpr ⟨lw_p6, List.forall_mem_cons.mpr ⟨lw_p7, List.forall_mem_cons.mpr ⟨lw_p8, List.forall_mem_cons.mpr ⟨lw_p9, List.forall_mem_cons.mpr ⟨lw_p10, List.forall_mem_cons.mpr ⟨lw_p11, List.forall_mem_cons.mpr ⟨lw_p12, List.forall_mem_cons.mpr ⟨lw_p13, List.forall_mem_cons.mpr ⟨lw_p14, List.forall_mem_cons.mpr ⟨lw_p15, fun _ h => absurd h List.not_mem_nil⟩⟩⟩⟩⟩⟩⟩⟩⟩⟩⟩⟩⟩⟩⟩⟩
theorem lw_p16 : lw_okq (⟨"UnbeatenHouse$Reader", "readFact", "()V"⟩, 12) := ⟨⟨by decide +kernel, by decide +kernel⟩, List.mem_of_getElem? (i := 97) (by decide +kernel), List.mem_of_getElem? (i := 576) (by decide +kernel), List.mem_of_getElem? (i := 577) (by decide +kernel)⟩
theorem lw_p17 : lw_okq (⟨"UnbeatenHouse$Reader", "isSign", "(I)Z"⟩, 12) := ⟨⟨by decide +kernel, by decide +kernel⟩, List.mem_of_getElem? (i := 97) (by decide +kernel), List.mem_of_getElem? (i := 580) (by decide +kernel), List.mem_of_getElem? (i := 581) (by decide +kernel)⟩
theorem lw_p18 : lw_okq (⟨"UnbeatenHouse$Reader", "opensOne", "(I)Z"⟩, 12) := ⟨⟨by decide +kernel, by decide +kernel⟩, List.mem_of_getElem? (i := 97) (by decide +kernel), List.mem_of_getElem? (i := 584) (by decide +kernel), List.mem_of_getElem? (i := 585) (by decide +kernel)⟩
theorem lw_p19 : lw_okq (⟨"UnbeatenHouse$Reader", "closeOne", "(I)V"⟩, 12) := ⟨⟨by decide +kernel, by decide +kernel⟩, List.mem_of_getElem? (i := 97) (by decide +kernel), List.mem_of_getElem? (i := 588) (by decide +kernel), List.mem_of_getElem? (i := 589) (by decide +kernel)⟩
theorem lw_p20 : lw_okq (⟨"UnbeatenHouse$Reader", "take", "(I)V"⟩, 12) := ⟨⟨by decide +kernel, by decide +kernel⟩, List.mem_of_getElem? (i := 97) (by decide +kernel), List.mem_of_getElem? (i := 592) (by decide +kernel), List.mem_of_getElem? (i := 593) (by decide +kernel)⟩
theorem lw_p21 : lw_okq (⟨"UnbeatenHouse$Reader", "readComparison", "()V"⟩, 12) := ⟨⟨by decide +kernel, by decide +kernel⟩, List.mem_of_getElem? (i := 97) (by decide +kernel), List.mem_of_getElem? (i := 603) (by decide +kernel), List.mem_of_getElem? (i := 604) (by decide +kernel)⟩
theorem lw_p22 : lw_okq (⟨"UnbeatenHouse$Reader", "readSum", "()V"⟩, 12) := ⟨⟨by decide +kernel, by decide +kernel⟩, List.mem_of_getElem? (i := 97) (by decide +kernel), List.mem_of_getElem? (i := 607) (by decide +kernel), List.mem_of_getElem? (i := 608) (by decide +kernel)⟩
theorem lw_p23 : lw_okq (⟨"UnbeatenHouse$Reader", "readProduct", "()V"⟩, 12) := ⟨⟨by decide +kernel, by decide +kernel⟩, List.mem_of_getElem? (i := 97) (by decide +kernel), List.mem_of_getElem? (i := 611) (by decide +kernel), List.mem_of_getElem? (i := 612) (by decide +kernel)⟩
theorem lw_p24 : lw_okq (⟨"UnbeatenHouse$Reader", "readPart", "()V"⟩, 12) := ⟨⟨by decide +kernel, by decide +kernel⟩, List.mem_of_getElem? (i := 97) (by decide +kernel), List.mem_of_getElem? (i := 615) (by decide +kernel), List.mem_of_getElem? (i := 616) (by decide +kernel)⟩
theorem lw_p25 : lw_okq (⟨"UnbeatenHouse$Reader", "readPair", "(I)V"⟩, 12) := ⟨⟨by decide +kernel, by decide +kernel⟩, List.mem_of_getElem? (i := 97) (by decide +kernel), List.mem_of_getElem? (i := 619) (by decide +kernel), List.mem_of_getElem? (i := 620) (by decide +kernel)⟩
theorem lw_p26 : lw_okq (⟨"UnbeatenHouse$Reader", "readRow", "()V"⟩, 12) := ⟨⟨by decide +kernel, by decide +kernel⟩, List.mem_of_getElem? (i := 97) (by decide +kernel), List.mem_of_getElem? (i := 623) (by decide +kernel), List.mem_of_getElem? (i := 624) (by decide +kernel)⟩
theorem lw_p27 : lw_okq (⟨"UnbeatenHouse$Reader", "readThing", "()V"⟩, 12) := ⟨⟨by decide +kernel, by decide +kernel⟩, List.mem_of_getElem? (i := 97) (by decide +kernel), List.mem_of_getElem? (i := 627) (by decide +kernel), List.mem_of_getElem? (i := 628) (by decide +kernel)⟩
theorem lw_p28 : lw_okq (⟨"UnbeatenHouse$Rows", "takeLoss", "(LUnbeatenHouse$Tale;II)V"⟩, 8) := ⟨⟨by decide +kernel, by decide +kernel⟩, List.mem_of_getElem? (i := 187) (by decide +kernel), List.mem_of_getElem? (i := 639) (by decide +kernel), List.mem_of_getElem? (i := 640) (by decide +kernel)⟩
theorem lw_p29 : lw_okq (⟨"UnbeatenHouse$Weighings", "add", "(IIII)V"⟩, 4) := ⟨⟨by decide +kernel, by decide +kernel⟩, List.mem_of_getElem? (i := 332) (by decide +kernel), List.mem_of_getElem? (i := 690) (by decide +kernel), List.mem_of_getElem? (i := 691) (by decide +kernel)⟩
theorem lw_p30 : lw_okq (⟨"UnbeatenHouse$Weighings", "put", "(II)V"⟩, 4) := ⟨⟨by decide +kernel, by decide +kernel⟩, List.mem_of_getElem? (i := 332) (by decide +kernel), List.mem_of_getElem? (i := 694) (by decide +kernel), List.mem_of_getElem? (i := 695) (by decide +kernel)⟩
theorem lw_p31 : lw_okq (⟨"UnbeatenHouse", "takeWays", "(II)I"⟩, 16) := ⟨⟨by decide +kernel, by decide +kernel⟩, List.mem_of_getElem? (i := 23) (by decide +kernel), List.mem_of_getElem? (i := 781) (by decide +kernel), List.mem_of_getElem? (i := 782) (by decide +kernel)⟩
def lw_privs_2 : List (MethodName × Nat) := [(⟨"UnbeatenHouse$Reader", "readFact", "()V"⟩, 12), (⟨"UnbeatenHouse$Reader", "isSign", "(I)Z"⟩, 12), (⟨"UnbeatenHouse$Reader", "opensOne", "(I)Z"⟩, 12), (⟨"UnbeatenHouse$Reader", "closeOne", "(I)V"⟩, 12), (⟨"UnbeatenHouse$Reader", "take", "(I)V"⟩, 12), (⟨"UnbeatenHouse$Reader", "readComparison", "()V"⟩, 12), (⟨"UnbeatenHouse$Reader", "readSum", "()V"⟩, 12), (⟨"UnbeatenHouse$Reader", "readProduct", "()V"⟩, 12), (⟨"UnbeatenHouse$Reader", "readPart", "()V"⟩, 12), (⟨"UnbeatenHouse$Reader", "readPair", "(I)V"⟩, 12), (⟨"UnbeatenHouse$Reader", "readRow", "()V"⟩, 12), (⟨"UnbeatenHouse$Reader", "readThing", "()V"⟩, 12), (⟨"UnbeatenHouse$Rows", "takeLoss", "(LUnbeatenHouse$Tale;II)V"⟩, 8), (⟨"UnbeatenHouse$Weighings", "add", "(IIII)V"⟩, 4), (⟨"UnbeatenHouse$Weighings", "put", "(II)V"⟩, 4), (⟨"UnbeatenHouse", "takeWays", "(II)I"⟩, 16)]
theorem lw_r2 : ∀ q ∈ lw_privs_2, lw_okq q := List.forall_mem_cons.mpr ⟨lw_p16, List.forall_mem_cons.mpr ⟨lw_p17, List.forall_mem_cons.mpr ⟨lw_p18, List.forall_mem_cons.mpr ⟨lw_p19, List.forall_mem_cons.mpr ⟨lw_p20, List.forall_mem_cons.mpr ⟨lw_p21, List.forall_mem_cons.mpr ⟨lw_p22, List.forall_mem_cons.mpr ⟨lw_p23, List.forall_mem_cons.mpr ⟨lw_p24, List.forall_mem_cons.mpr ⟨lw_p25, List.forall_mem_cons.mpr ⟨lw_p26, List.forall_mem_cons.mpr ⟨lw_p27, List.forall_mem_cons.mpr ⟨lw_p28, List.forall_mem_cons.mpr ⟨lw_p29, List.forall_mem_cons.mpr ⟨lw_p30, List.forall_mem_cons.mpr ⟨lw_p31, fun _ h => absurd h List.not_mem_nil⟩⟩⟩⟩⟩⟩⟩⟩⟩⟩⟩⟩⟩⟩⟩⟩
theorem lw_p32 : lw_okq (⟨"UnbeatenHouse$Gatherer", "walk", "(LUnbeatenHouse$Tale;LUnbeatenHouse$Pool;IIIIJ)V"⟩, 3) := ⟨⟨by decide +kernel, by decide +kernel⟩, List.mem_of_getElem? (i := 252) (by decide +kernel), List.mem_of_getElem? (i := 793) (by decide +kernel), List.mem_of_getElem? (i := 794) (by decide +kernel)⟩
theorem lw_p33 : lw_okq (⟨"UnbeatenHouse$Gatherer", "putLosses", "(LUnbeatenHouse$Tale;I)V"⟩, 3) := ⟨⟨by decide +kernel, by decide +kernel⟩, List.mem_of_getElem? (i := 252) (by decide +kernel), List.mem_of_getElem? (i := 797) (by decide +kernel), List.mem_of_getElem? (i := 798) (by decide +kernel)⟩
theorem lw_p34 : lw_okq (⟨"UnbeatenHouse$Gatherer", "goAlong", "(LUnbeatenHouse$Tale;II)V"⟩, 3) := ⟨⟨by decide +kernel, by decide +kernel⟩, List.mem_of_getElem? (i := 252) (by decide +kernel), List.mem_of_getElem? (i := 807) (by decide +kernel), List.mem_of_getElem? (i := 808) (by decide +kernel)⟩
theorem lw_p35 : lw_okq (⟨"UnbeatenHouse$Pool", "sort", "()V"⟩, 5) := ⟨⟨by decide +kernel, by decide +kernel⟩, List.mem_of_getElem? (i := 229) (by decide +kernel), List.mem_of_getElem? (i := 816) (by decide +kernel), List.mem_of_getElem? (i := 817) (by decide +kernel)⟩
theorem lw_p36 : lw_okq (⟨"UnbeatenHouse$Pool", "sink", "(II)V"⟩, 5) := ⟨⟨by decide +kernel, by decide +kernel⟩, List.mem_of_getElem? (i := 229) (by decide +kernel), List.mem_of_getElem? (i := 820) (by decide +kernel), List.mem_of_getElem? (i := 821) (by decide +kernel)⟩
theorem lw_p37 : lw_okq (⟨"UnbeatenHouse$Pool", "isAhead", "(II)Z"⟩, 5) := ⟨⟨by decide +kernel, by decide +kernel⟩, List.mem_of_getElem? (i := 229) (by decide +kernel), List.mem_of_getElem? (i := 824) (by decide +kernel), List.mem_of_getElem? (i := 825) (by decide +kernel)⟩
theorem lw_p38 : lw_okq (⟨"UnbeatenHouse$Pool", "swap", "(II)V"⟩, 5) := ⟨⟨by decide +kernel, by decide +kernel⟩, List.mem_of_getElem? (i := 229) (by decide +kernel), List.mem_of_getElem? (i := 828) (by decide +kernel), List.mem_of_getElem? (i := 829) (by decide +kernel)⟩
theorem lw_p39 : lw_okq (⟨"UnbeatenHouse", "takeSets", "()I"⟩, 16) := ⟨⟨by decide +kernel, by decide +kernel⟩, List.mem_of_getElem? (i := 23) (by decide +kernel), List.mem_of_getElem? (i := 844) (by decide +kernel), List.mem_of_getElem? (i := 845) (by decide +kernel)⟩
theorem lw_p40 : lw_okq (⟨"UnbeatenHouse$Gatherer", "addUp", "(LUnbeatenHouse$Tale;I)V"⟩, 3) := ⟨⟨by decide +kernel, by decide +kernel⟩, List.mem_of_getElem? (i := 252) (by decide +kernel), List.mem_of_getElem? (i := 852) (by decide +kernel), List.mem_of_getElem? (i := 853) (by decide +kernel)⟩
theorem lw_p41 : lw_okq (⟨"UnbeatenHouse$Judge", "work", "(III[I)V"⟩, 2) := ⟨⟨by decide +kernel, by decide +kernel⟩, List.mem_of_getElem? (i := 258) (by decide +kernel), List.mem_of_getElem? (i := 860) (by decide +kernel), List.mem_of_getElem? (i := 861) (by decide +kernel)⟩
theorem lw_p42 : lw_okq (⟨"UnbeatenHouse$Judge", "push", "(I)V"⟩, 2) := ⟨⟨by decide +kernel, by decide +kernel⟩, List.mem_of_getElem? (i := 258) (by decide +kernel), List.mem_of_getElem? (i := 864) (by decide +kernel), List.mem_of_getElem? (i := 865) (by decide +kernel)⟩
theorem lw_p43 : lw_okq (⟨"UnbeatenHouse$Judge", "pop", "()I"⟩, 2) := ⟨⟨by decide +kernel, by decide +kernel⟩, List.mem_of_getElem? (i := 258) (by decide +kernel), List.mem_of_getElem? (i := 874) (by decide +kernel), List.mem_of_getElem? (i := 875) (by decide +kernel)⟩
theorem lw_p44 : lw_okq (⟨"UnbeatenHouse$Picker", "measure", "(LUnbeatenHouse$Front;I)V"⟩, 5) := ⟨⟨by decide +kernel, by decide +kernel⟩, List.mem_of_getElem? (i := 308) (by decide +kernel), List.mem_of_getElem? (i := 956) (by decide +kernel), List.mem_of_getElem? (i := 957) (by decide +kernel)⟩
theorem lw_p45 : lw_okq (⟨"UnbeatenHouse$Picker", "pickOf", "(III)I"⟩, 5) := ⟨⟨by decide +kernel, by decide +kernel⟩, List.mem_of_getElem? (i := 308) (by decide +kernel), List.mem_of_getElem? (i := 966) (by decide +kernel), List.mem_of_getElem? (i := 967) (by decide +kernel)⟩
theorem lw_p46 : lw_okq (⟨"UnbeatenHouse$Picker", "farthest", "(II)I"⟩, 5) := ⟨⟨by decide +kernel, by decide +kernel⟩, List.mem_of_getElem? (i := 308) (by decide +kernel), List.mem_of_getElem? (i := 970) (by decide +kernel), List.mem_of_getElem? (i := 971) (by decide +kernel)⟩
theorem lw_p47 : lw_okq (⟨"UnbeatenHouse$Picker", "moveOn", "(I)Z"⟩, 5) := ⟨⟨by decide +kernel, by decide +kernel⟩, List.mem_of_getElem? (i := 308) (by decide +kernel), List.mem_of_getElem? (i := 976) (by decide +kernel), List.mem_of_getElem? (i := 977) (by decide +kernel)⟩
def lw_privs_3 : List (MethodName × Nat) := [(⟨"UnbeatenHouse$Gatherer", "walk", "(LUnbeatenHouse$Tale;LUnbeatenHouse$Pool;IIIIJ)V"⟩, 3), (⟨"UnbeatenHouse$Gatherer", "putLosses", "(LUnbeatenHouse$Tale;I)V"⟩, 3), (⟨"UnbeatenHouse$Gatherer", "goAlong", "(LUnbeatenHouse$Tale;II)V"⟩, 3), (⟨"UnbeatenHouse$Pool", "sort", "()V"⟩, 5), (⟨"UnbeatenHouse$Pool", "sink", "(II)V"⟩, 5), (⟨"UnbeatenHouse$Pool", "isAhead", "(II)Z"⟩, 5), (⟨"UnbeatenHouse$Pool", "swap", "(II)V"⟩, 5), (⟨"UnbeatenHouse", "takeSets", "()I"⟩, 16), (⟨"UnbeatenHouse$Gatherer", "addUp", "(LUnbeatenHouse$Tale;I)V"⟩, 3), (⟨"UnbeatenHouse$Judge", "work", "(III[I)V"⟩, 2), (⟨"UnbeatenHouse$Judge", "push", "(I)V"⟩, 2), (⟨"UnbeatenHouse$Judge", "pop", "()I"⟩, 2), (⟨"UnbeatenHouse$Picker", "measure", "(LUnbeatenHouse$Front;I)V"⟩, 5), (⟨"UnbeatenHouse$Picker", "pickOf", "(III)I"⟩, 5), (⟨"UnbeatenHouse$Picker", "farthest", "(II)I"⟩, 5), (⟨"UnbeatenHouse$Picker", "moveOn", "(I)Z"⟩, 5)]
theorem lw_r3 : ∀ q ∈ lw_privs_3, lw_okq q := List.forall_mem_cons.mpr ⟨lw_p32, List.forall_mem_cons.mpr ⟨lw_p33, List.forall_mem_cons.mpr ⟨lw_p34, List.forall_mem_cons.mpr ⟨lw_p35, List.forall_mem_cons.mpr ⟨lw_p36, List.forall_mem_cons.mpr ⟨lw_p37, List.forall_mem_cons.mpr ⟨lw_p38, List.forall_mem_cons.mpr ⟨lw_p39, List.forall_mem_cons.mpr ⟨lw_p40, List.forall_mem_cons.mpr ⟨lw_p41, List.forall_mem_cons.mpr ⟨lw_p42, List.forall_mem_cons.mpr ⟨lw_p43, List.forall_mem_cons.mpr ⟨lw_p44, List.forall_mem_cons.mpr ⟨lw_p45, List.forall_mem_cons.mpr ⟨lw_p46, List.forall_mem_cons.mpr ⟨lw_p47, fun _ h => absurd h List.not_mem_nil⟩⟩⟩⟩⟩⟩⟩⟩⟩⟩⟩⟩⟩⟩⟩⟩
theorem lw_p48 : lw_okq (⟨"UnbeatenHouse$Sayings", "isSayingAgreed", "(IILUnbeatenHouse$Weighings;LUnbeatenHouse$Rows;)Z"⟩, 8) := ⟨⟨by decide +kernel, by decide +kernel⟩, List.mem_of_getElem? (i := 355) (by decide +kernel), List.mem_of_getElem? (i := 1031) (by decide +kernel), List.mem_of_getElem? (i := 1032) (by decide +kernel)⟩
theorem lw_p49 : lw_okq (⟨"UnbeatenHouse$Sayings", "noteFirst", "(JLUnbeatenHouse$Rows;)V"⟩, 8) := ⟨⟨by decide +kernel, by decide +kernel⟩, List.mem_of_getElem? (i := 355) (by decide +kernel), List.mem_of_getElem? (i := 1058) (by decide +kernel), List.mem_of_getElem? (i := 1059) (by decide +kernel)⟩
theorem lw_p50 : lw_okq (⟨"UnbeatenHouse$Sayings", "tryQuestion", "(II)V"⟩, 8) := ⟨⟨by decide +kernel, by decide +kernel⟩, List.mem_of_getElem? (i := 355) (by decide +kernel), List.mem_of_getElem? (i := 1063) (by decide +kernel), List.mem_of_getElem? (i := 1064) (by decide +kernel)⟩
theorem lw_p51 : lw_okq (⟨"UnbeatenHouse$Sayings", "agreedSayings", "(ILUnbeatenHouse$Weighings;LUnbeatenHouse$Rows;)I"⟩, 8) := ⟨⟨by decide +kernel, by decide +kernel⟩, List.mem_of_getElem? (i := 355) (by decide +kernel), List.mem_of_getElem? (i := 1077) (by decide +kernel), List.mem_of_getElem? (i := 1078) (by decide +kernel)⟩
theorem lw_p52 : lw_okq (⟨"UnbeatenHouse$Sayings", "spreadToParts", "(I)V"⟩, 8) := ⟨⟨by decide +kernel, by decide +kernel⟩, List.mem_of_getElem? (i := 355) (by decide +kernel), List.mem_of_getElem? (i := 1081) (by decide +kernel), List.mem_of_getElem? (i := 1082) (by decide +kernel)⟩
theorem lw_p53 : lw_okq (⟨"UnbeatenHouse$People", "weighAll", "(ILUnbeatenHouse$Rows;)V"⟩, 6) := ⟨⟨by decide +kernel, by decide +kernel⟩, List.mem_of_getElem? (i := 390) (by decide +kernel), List.mem_of_getElem? (i := 1123) (by decide +kernel), List.mem_of_getElem? (i := 1124) (by decide +kernel)⟩
theorem lw_p54 : lw_okq (⟨"UnbeatenHouse$People", "pickAheadOfAll", "(J)I"⟩, 6) := ⟨⟨by decide +kernel, by decide +kernel⟩, List.mem_of_getElem? (i := 390) (by decide +kernel), List.mem_of_getElem? (i := 1131) (by decide +kernel), List.mem_of_getElem? (i := 1132) (by decide +kernel)⟩
theorem lw_p55 : lw_okq (⟨"UnbeatenHouse$People", "isAheadForMost", "(II)Z"⟩, 6) := ⟨⟨by decide +kernel, by decide +kernel⟩, List.mem_of_getElem? (i := 390) (by decide +kernel), List.mem_of_getElem? (i := 1136) (by decide +kernel), List.mem_of_getElem? (i := 1137) (by decide +kernel)⟩
theorem lw_p56 : lw_okq (⟨"UnbeatenHouse$People", "isAhead", "(III)Z"⟩, 6) := ⟨⟨by decide +kernel, by decide +kernel⟩, List.mem_of_getElem? (i := 390) (by decide +kernel), List.mem_of_getElem? (i := 1140) (by decide +kernel), List.mem_of_getElem? (i := 1141) (by decide +kernel)⟩
theorem lw_p57 : lw_okq (⟨"UnbeatenHouse$People", "blameOf", "(IIJ)I"⟩, 6) := ⟨⟨by decide +kernel, by decide +kernel⟩, List.mem_of_getElem? (i := 390) (by decide +kernel), List.mem_of_getElem? (i := 1144) (by decide +kernel), List.mem_of_getElem? (i := 1145) (by decide +kernel)⟩
theorem lw_p58 : lw_okq (⟨"UnbeatenHouse$People", "isBehindAll", "(I)Z"⟩, 6) := ⟨⟨by decide +kernel, by decide +kernel⟩, List.mem_of_getElem? (i := 390) (by decide +kernel), List.mem_of_getElem? (i := 1162) (by decide +kernel), List.mem_of_getElem? (i := 1163) (by decide +kernel)⟩
theorem lw_p59 : lw_okq (⟨"UnbeatenHouse$People", "everFirst", "()J"⟩, 6) := ⟨⟨by decide +kernel, by decide +kernel⟩, List.mem_of_getElem? (i := 390) (by decide +kernel), List.mem_of_getElem? (i := 1166) (by decide +kernel), List.mem_of_getElem? (i := 1167) (by decide +kernel)⟩
theorem lw_p60 : lw_okq (⟨"UnbeatenHouseModel", "put", "(I)V"⟩, 77) := ⟨⟨by decide +kernel, by decide +kernel⟩, List.mem_of_getElem? (i := 1175) (by decide +kernel), List.mem_of_getElem? (i := 1419) (by decide +kernel), List.mem_of_getElem? (i := 1420) (by decide +kernel)⟩
theorem lw_p61 : lw_okq (⟨"UnbeatenHouseModel", "next", "()V"⟩, 77) := ⟨⟨by decide +kernel, by decide +kernel⟩, List.mem_of_getElem? (i := 1175) (by decide +kernel), List.mem_of_getElem? (i := 1431) (by decide +kernel), List.mem_of_getElem? (i := 1432) (by decide +kernel)⟩
theorem lw_p62 : lw_okq (⟨"UnbeatenHouseModel", "blame", "(II)V"⟩, 77) := ⟨⟨by decide +kernel, by decide +kernel⟩, List.mem_of_getElem? (i := 1175) (by decide +kernel), List.mem_of_getElem? (i := 1441) (by decide +kernel), List.mem_of_getElem? (i := 1442) (by decide +kernel)⟩
theorem lw_p63 : lw_okq (⟨"UnbeatenHouseModel", "statement", "()V"⟩, 77) := ⟨⟨by decide +kernel, by decide +kernel⟩, List.mem_of_getElem? (i := 1175) (by decide +kernel), List.mem_of_getElem? (i := 1445) (by decide +kernel), List.mem_of_getElem? (i := 1446) (by decide +kernel)⟩
def lw_privs_4 : List (MethodName × Nat) := [(⟨"UnbeatenHouse$Sayings", "isSayingAgreed", "(IILUnbeatenHouse$Weighings;LUnbeatenHouse$Rows;)Z"⟩, 8), (⟨"UnbeatenHouse$Sayings", "noteFirst", "(JLUnbeatenHouse$Rows;)V"⟩, 8), (⟨"UnbeatenHouse$Sayings", "tryQuestion", "(II)V"⟩, 8), (⟨"UnbeatenHouse$Sayings", "agreedSayings", "(ILUnbeatenHouse$Weighings;LUnbeatenHouse$Rows;)I"⟩, 8), (⟨"UnbeatenHouse$Sayings", "spreadToParts", "(I)V"⟩, 8), (⟨"UnbeatenHouse$People", "weighAll", "(ILUnbeatenHouse$Rows;)V"⟩, 6), (⟨"UnbeatenHouse$People", "pickAheadOfAll", "(J)I"⟩, 6), (⟨"UnbeatenHouse$People", "isAheadForMost", "(II)Z"⟩, 6), (⟨"UnbeatenHouse$People", "isAhead", "(III)Z"⟩, 6), (⟨"UnbeatenHouse$People", "blameOf", "(IIJ)I"⟩, 6), (⟨"UnbeatenHouse$People", "isBehindAll", "(I)Z"⟩, 6), (⟨"UnbeatenHouse$People", "everFirst", "()J"⟩, 6), (⟨"UnbeatenHouseModel", "put", "(I)V"⟩, 77), (⟨"UnbeatenHouseModel", "next", "()V"⟩, 77), (⟨"UnbeatenHouseModel", "blame", "(II)V"⟩, 77), (⟨"UnbeatenHouseModel", "statement", "()V"⟩, 77)]
theorem lw_r4 : ∀ q ∈ lw_privs_4, lw_okq q := List.forall_mem_cons.mpr ⟨lw_p48, List.forall_mem_cons.mpr ⟨lw_p49, List.forall_mem_cons.mpr ⟨lw_p50, List.forall_mem_cons.mpr ⟨lw_p51, List.forall_mem_cons.mpr ⟨lw_p52, List.forall_mem_cons.mpr ⟨lw_p53, List.forall_mem_cons.mpr ⟨lw_p54, List.forall_mem_cons.mpr ⟨lw_p55, List.forall_mem_cons.mpr ⟨lw_p56, List.forall_mem_cons.mpr ⟨lw_p57, List.forall_mem_cons.mpr ⟨lw_p58, List.forall_mem_cons.mpr ⟨lw_p59, List.forall_mem_cons.mpr ⟨lw_p60, List.forall_mem_cons.mpr ⟨lw_p61, List.forall_mem_cons.mpr ⟨lw_p62, List.forall_mem_cons.mpr ⟨lw_p63, fun _ h => absurd h List.not_mem_nil⟩⟩⟩⟩⟩⟩⟩⟩⟩⟩⟩⟩⟩⟩⟩⟩
theorem lw_p64 : lw_okq (⟨"UnbeatenHouseModel", "isWord", "(J)Z"⟩, 77) := ⟨⟨by decide +kernel, by decide +kernel⟩, List.mem_of_getElem? (i := 1175) (by decide +kernel), List.mem_of_getElem? (i := 1450) (by decide +kernel), List.mem_of_getElem? (i := 1451) (by decide +kernel)⟩
theorem lw_p65 : lw_okq (⟨"UnbeatenHouseModel", "wish", "()V"⟩, 77) := ⟨⟨by decide +kernel, by decide +kernel⟩, List.mem_of_getElem? (i := 1175) (by decide +kernel), List.mem_of_getElem? (i := 1454) (by decide +kernel), List.mem_of_getElem? (i := 1455) (by decide +kernel)⟩
theorem lw_p66 : lw_okq (⟨"UnbeatenHouseModel", "counts", "(ZZ)V"⟩, 77) := ⟨⟨by decide +kernel, by decide +kernel⟩, List.mem_of_getElem? (i := 1175) (by decide +kernel), List.mem_of_getElem? (i := 1458) (by decide +kernel), List.mem_of_getElem? (i := 1459) (by decide +kernel)⟩
theorem lw_p67 : lw_okq (⟨"UnbeatenHouseModel", "fresh", "()J"⟩, 77) := ⟨⟨by decide +kernel, by decide +kernel⟩, List.mem_of_getElem? (i := 1175) (by decide +kernel), List.mem_of_getElem? (i := 1462) (by decide +kernel), List.mem_of_getElem? (i := 1463) (by decide +kernel)⟩
theorem lw_p68 : lw_okq (⟨"UnbeatenHouseModel", "isOwn", "(J)Z"⟩, 77) := ⟨⟨by decide +kernel, by decide +kernel⟩, List.mem_of_getElem? (i := 1175) (by decide +kernel), List.mem_of_getElem? (i := 1466) (by decide +kernel), List.mem_of_getElem? (i := 1467) (by decide +kernel)⟩
theorem lw_p69 : lw_okq (⟨"UnbeatenHouseModel", "isName", "(J)Z"⟩, 77) := ⟨⟨by decide +kernel, by decide +kernel⟩, List.mem_of_getElem? (i := 1175) (by decide +kernel), List.mem_of_getElem? (i := 1486) (by decide +kernel), List.mem_of_getElem? (i := 1487) (by decide +kernel)⟩
theorem lw_p70 : lw_okq (⟨"UnbeatenHouseModel", "wishOf", "(IJ)I"⟩, 77) := ⟨⟨by decide +kernel, by decide +kernel⟩, List.mem_of_getElem? (i := 1175) (by decide +kernel), List.mem_of_getElem? (i := 1490) (by decide +kernel), List.mem_of_getElem? (i := 1491) (by decide +kernel)⟩
theorem lw_p71 : lw_okq (⟨"UnbeatenHouseModel", "knotOf", "(IJ)I"⟩, 77) := ⟨⟨by decide +kernel, by decide +kernel⟩, List.mem_of_getElem? (i := 1175) (by decide +kernel), List.mem_of_getElem? (i := 1494) (by decide +kernel), List.mem_of_getElem? (i := 1495) (by decide +kernel)⟩
theorem lw_p72 : lw_okq (⟨"UnbeatenHouseModel", "thingOf", "(IJ)I"⟩, 77) := ⟨⟨by decide +kernel, by decide +kernel⟩, List.mem_of_getElem? (i := 1175) (by decide +kernel), List.mem_of_getElem? (i := 1498) (by decide +kernel), List.mem_of_getElem? (i := 1499) (by decide +kernel)⟩
theorem lw_p73 : lw_okq (⟨"UnbeatenHouseModel", "row", "()V"⟩, 77) := ⟨⟨by decide +kernel, by decide +kernel⟩, List.mem_of_getElem? (i := 1175) (by decide +kernel), List.mem_of_getElem? (i := 1502) (by decide +kernel), List.mem_of_getElem? (i := 1503) (by decide +kernel)⟩
theorem lw_p74 : lw_okq (⟨"UnbeatenHouseModel", "isSign", "(I)Z"⟩, 77) := ⟨⟨by decide +kernel, by decide +kernel⟩, List.mem_of_getElem? (i := 1175) (by decide +kernel), List.mem_of_getElem? (i := 1506) (by decide +kernel), List.mem_of_getElem? (i := 1507) (by decide +kernel)⟩
theorem lw_p75 : lw_okq (⟨"UnbeatenHouseModel", "number", "()I"⟩, 77) := ⟨⟨by decide +kernel, by decide +kernel⟩, List.mem_of_getElem? (i := 1175) (by decide +kernel), List.mem_of_getElem? (i := 1510) (by decide +kernel), List.mem_of_getElem? (i := 1511) (by decide +kernel)⟩
theorem lw_p76 : lw_okq (⟨"UnbeatenHouseModel", "tie", "()V"⟩, 77) := ⟨⟨by decide +kernel, by decide +kernel⟩, List.mem_of_getElem? (i := 1175) (by decide +kernel), List.mem_of_getElem? (i := 1514) (by decide +kernel), List.mem_of_getElem? (i := 1515) (by decide +kernel)⟩
theorem lw_p77 : lw_okq (⟨"UnbeatenHouseModel", "knotRead", "(I)I"⟩, 77) := ⟨⟨by decide +kernel, by decide +kernel⟩, List.mem_of_getElem? (i := 1175) (by decide +kernel), List.mem_of_getElem? (i := 1518) (by decide +kernel), List.mem_of_getElem? (i := 1519) (by decide +kernel)⟩
theorem lw_p78 : lw_okq (⟨"UnbeatenHouseModel", "thing", "()V"⟩, 77) := ⟨⟨by decide +kernel, by decide +kernel⟩, List.mem_of_getElem? (i := 1175) (by decide +kernel), List.mem_of_getElem? (i := 1522) (by decide +kernel), List.mem_of_getElem? (i := 1523) (by decide +kernel)⟩
theorem lw_p79 : lw_okq (⟨"UnbeatenHouseModel", "readsTest", "()V"⟩, 77) := ⟨⟨by decide +kernel, by decide +kernel⟩, List.mem_of_getElem? (i := 1175) (by decide +kernel), List.mem_of_getElem? (i := 1526) (by decide +kernel), List.mem_of_getElem? (i := 1527) (by decide +kernel)⟩
def lw_privs_5 : List (MethodName × Nat) := [(⟨"UnbeatenHouseModel", "isWord", "(J)Z"⟩, 77), (⟨"UnbeatenHouseModel", "wish", "()V"⟩, 77), (⟨"UnbeatenHouseModel", "counts", "(ZZ)V"⟩, 77), (⟨"UnbeatenHouseModel", "fresh", "()J"⟩, 77), (⟨"UnbeatenHouseModel", "isOwn", "(J)Z"⟩, 77), (⟨"UnbeatenHouseModel", "isName", "(J)Z"⟩, 77), (⟨"UnbeatenHouseModel", "wishOf", "(IJ)I"⟩, 77), (⟨"UnbeatenHouseModel", "knotOf", "(IJ)I"⟩, 77), (⟨"UnbeatenHouseModel", "thingOf", "(IJ)I"⟩, 77), (⟨"UnbeatenHouseModel", "row", "()V"⟩, 77), (⟨"UnbeatenHouseModel", "isSign", "(I)Z"⟩, 77), (⟨"UnbeatenHouseModel", "number", "()I"⟩, 77), (⟨"UnbeatenHouseModel", "tie", "()V"⟩, 77), (⟨"UnbeatenHouseModel", "knotRead", "(I)I"⟩, 77), (⟨"UnbeatenHouseModel", "thing", "()V"⟩, 77), (⟨"UnbeatenHouseModel", "readsTest", "()V"⟩, 77)]
theorem lw_r5 : ∀ q ∈ lw_privs_5, lw_okq q := List.forall_mem_cons.mpr ⟨lw_p64, List.forall_mem_cons.mpr ⟨lw_p65, List.forall_mem_cons.mpr ⟨lw_p66, List.forall_mem_cons.mpr ⟨lw_p67, List.forall_mem_cons.mpr ⟨lw_p68, List.forall_mem_cons.mpr ⟨lw_p69, List.forall_mem_cons.mpr ⟨lw_p70, List.forall_mem_cons.mpr ⟨lw_p71, List.forall_mem_cons.mpr ⟨lw_p72, List.forall_mem_cons.mpr ⟨lw_p73, List.forall_mem_cons.mpr ⟨lw_p74, List.forall_mem_cons.mpr ⟨lw_p75, List.forall_mem_cons.mpr ⟨lw_p76, List.forall_mem_cons.mpr ⟨lw_p77, List.forall_mem_cons.mpr ⟨lw_p78, List.forall_mem_cons.mpr ⟨lw_p79, fun _ h => absurd h List.not_mem_nil⟩⟩⟩⟩⟩⟩⟩⟩⟩⟩⟩⟩⟩⟩⟩⟩
theorem lw_p80 : lw_okq (⟨"UnbeatenHouseModel", "pushes", "(I)V"⟩, 77) := ⟨⟨by decide +kernel, by decide +kernel⟩, List.mem_of_getElem? (i := 1175) (by decide +kernel), List.mem_of_getElem? (i := 1530) (by decide +kernel), List.mem_of_getElem? (i := 1531) (by decide +kernel)⟩
theorem lw_p81 : lw_okq (⟨"UnbeatenHouseModel", "part", "()Z"⟩, 77) := ⟨⟨by decide +kernel, by decide +kernel⟩, List.mem_of_getElem? (i := 1175) (by decide +kernel), List.mem_of_getElem? (i := 1534) (by decide +kernel), List.mem_of_getElem? (i := 1535) (by decide +kernel)⟩
theorem lw_p82 : lw_okq (⟨"UnbeatenHouseModel", "holdsBack", "(I)V"⟩, 77) := ⟨⟨by decide +kernel, by decide +kernel⟩, List.mem_of_getElem? (i := 1175) (by decide +kernel), List.mem_of_getElem? (i := 1541) (by decide +kernel), List.mem_of_getElem? (i := 1542) (by decide +kernel)⟩
theorem lw_p83 : lw_okq (⟨"UnbeatenHouseModel", "opens", "(I)V"⟩, 77) := ⟨⟨by decide +kernel, by decide +kernel⟩, List.mem_of_getElem? (i := 1175) (by decide +kernel), List.mem_of_getElem? (i := 1545) (by decide +kernel), List.mem_of_getElem? (i := 1546) (by decide +kernel)⟩
theorem lw_p84 : lw_okq (⟨"UnbeatenHouseModel", "add", "(II)V"⟩, 77) := ⟨⟨by decide +kernel, by decide +kernel⟩, List.mem_of_getElem? (i := 1175) (by decide +kernel), List.mem_of_getElem? (i := 1549) (by decide +kernel), List.mem_of_getElem? (i := 1550) (by decide +kernel)⟩
theorem lw_p85 : lw_okq (⟨"UnbeatenHouseModel", "named", "(I)V"⟩, 77) := ⟨⟨by decide +kernel, by decide +kernel⟩, List.mem_of_getElem? (i := 1175) (by decide +kernel), List.mem_of_getElem? (i := 1553) (by decide +kernel), List.mem_of_getElem? (i := 1554) (by decide +kernel)⟩
theorem lw_p86 : lw_okq (⟨"UnbeatenHouseModel", "goesOn", "()Z"⟩, 77) := ⟨⟨by decide +kernel, by decide +kernel⟩, List.mem_of_getElem? (i := 1175) (by decide +kernel), List.mem_of_getElem? (i := 1557) (by decide +kernel), List.mem_of_getElem? (i := 1558) (by decide +kernel)⟩
theorem lw_p87 : lw_okq (⟨"UnbeatenHouseModel", "joins", "(I)V"⟩, 77) := ⟨⟨by decide +kernel, by decide +kernel⟩, List.mem_of_getElem? (i := 1175) (by decide +kernel), List.mem_of_getElem? (i := 1561) (by decide +kernel), List.mem_of_getElem? (i := 1562) (by decide +kernel)⟩
theorem lw_p88 : lw_okq (⟨"UnbeatenHouseModel", "must", "(I)V"⟩, 77) := ⟨⟨by decide +kernel, by decide +kernel⟩, List.mem_of_getElem? (i := 1175) (by decide +kernel), List.mem_of_getElem? (i := 1568) (by decide +kernel), List.mem_of_getElem? (i := 1569) (by decide +kernel)⟩
theorem lw_p89 : lw_okq (⟨"UnbeatenHouseModel", "isWish", "(I)Z"⟩, 77) := ⟨⟨by decide +kernel, by decide +kernel⟩, List.mem_of_getElem? (i := 1175) (by decide +kernel), List.mem_of_getElem? (i := 1584) (by decide +kernel), List.mem_of_getElem? (i := 1585) (by decide +kernel)⟩
theorem lw_p90 : lw_okq (⟨"UnbeatenHouseModel", "isRow", "(I)Z"⟩, 77) := ⟨⟨by decide +kernel, by decide +kernel⟩, List.mem_of_getElem? (i := 1175) (by decide +kernel), List.mem_of_getElem? (i := 1595) (by decide +kernel), List.mem_of_getElem? (i := 1596) (by decide +kernel)⟩
theorem lw_p91 : lw_okq (⟨"UnbeatenHouseModel", "rowAt", "(II)I"⟩, 77) := ⟨⟨by decide +kernel, by decide +kernel⟩, List.mem_of_getElem? (i := 1175) (by decide +kernel), List.mem_of_getElem? (i := 1603) (by decide +kernel), List.mem_of_getElem? (i := 1604) (by decide +kernel)⟩
theorem lw_p92 : lw_okq (⟨"UnbeatenHouseModel", "doesBeat", "(II)Z"⟩, 77) := ⟨⟨by decide +kernel, by decide +kernel⟩, List.mem_of_getElem? (i := 1175) (by decide +kernel), List.mem_of_getElem? (i := 1611) (by decide +kernel), List.mem_of_getElem? (i := 1612) (by decide +kernel)⟩
theorem lw_p93 : lw_okq (⟨"UnbeatenHouseModel", "isAside", "(I)Z"⟩, 77) := ⟨⟨by decide +kernel, by decide +kernel⟩, List.mem_of_getElem? (i := 1175) (by decide +kernel), List.mem_of_getElem? (i := 1615) (by decide +kernel), List.mem_of_getElem? (i := 1616) (by decide +kernel)⟩
theorem lw_p94 : lw_okq (⟨"UnbeatenHouseModel", "rowLoss", "(II)I"⟩, 77) := ⟨⟨by decide +kernel, by decide +kernel⟩, List.mem_of_getElem? (i := 1175) (by decide +kernel), List.mem_of_getElem? (i := 1619) (by decide +kernel), List.mem_of_getElem? (i := 1620) (by decide +kernel)⟩
theorem lw_p95 : lw_okq (⟨"UnbeatenHouseModel", "lossOf", "(II)I"⟩, 77) := ⟨⟨by decide +kernel, by decide +kernel⟩, List.mem_of_getElem? (i := 1175) (by decide +kernel), List.mem_of_getElem? (i := 1623) (by decide +kernel), List.mem_of_getElem? (i := 1624) (by decide +kernel)⟩
def lw_privs_6 : List (MethodName × Nat) := [(⟨"UnbeatenHouseModel", "pushes", "(I)V"⟩, 77), (⟨"UnbeatenHouseModel", "part", "()Z"⟩, 77), (⟨"UnbeatenHouseModel", "holdsBack", "(I)V"⟩, 77), (⟨"UnbeatenHouseModel", "opens", "(I)V"⟩, 77), (⟨"UnbeatenHouseModel", "add", "(II)V"⟩, 77), (⟨"UnbeatenHouseModel", "named", "(I)V"⟩, 77), (⟨"UnbeatenHouseModel", "goesOn", "()Z"⟩, 77), (⟨"UnbeatenHouseModel", "joins", "(I)V"⟩, 77), (⟨"UnbeatenHouseModel", "must", "(I)V"⟩, 77), (⟨"UnbeatenHouseModel", "isWish", "(I)Z"⟩, 77), (⟨"UnbeatenHouseModel", "isRow", "(I)Z"⟩, 77), (⟨"UnbeatenHouseModel", "rowAt", "(II)I"⟩, 77), (⟨"UnbeatenHouseModel", "doesBeat", "(II)Z"⟩, 77), (⟨"UnbeatenHouseModel", "isAside", "(I)Z"⟩, 77), (⟨"UnbeatenHouseModel", "rowLoss", "(II)I"⟩, 77), (⟨"UnbeatenHouseModel", "lossOf", "(II)I"⟩, 77)]
theorem lw_r6 : ∀ q ∈ lw_privs_6, lw_okq q := List.forall_mem_cons.mpr ⟨lw_p80, List.forall_mem_cons.mpr ⟨lw_p81, List.forall_mem_cons.mpr ⟨lw_p82, List.forall_mem_cons.mpr ⟨lw_p83, List.forall_mem_cons.mpr ⟨lw_p84, List.forall_mem_cons.mpr ⟨lw_p85, List.forall_mem_cons.mpr ⟨lw_p86, List.forall_mem_cons.mpr ⟨lw_p87, List.forall_mem_cons.mpr ⟨lw_p88, List.forall_mem_cons.mpr ⟨lw_p89, List.forall_mem_cons.mpr ⟨lw_p90, List.forall_mem_cons.mpr ⟨lw_p91, List.forall_mem_cons.mpr ⟨lw_p92, List.forall_mem_cons.mpr ⟨lw_p93, List.forall_mem_cons.mpr ⟨lw_p94, List.forall_mem_cons.mpr ⟨lw_p95, fun _ h => absurd h List.not_mem_nil⟩⟩⟩⟩⟩⟩⟩⟩⟩⟩⟩⟩⟩⟩⟩⟩
theorem lw_p96 : lw_okq (⟨"UnbeatenHouseModel", "rowFront", "()J"⟩, 77) := ⟨⟨by decide +kernel, by decide +kernel⟩, List.mem_of_getElem? (i := 1175) (by decide +kernel), List.mem_of_getElem? (i := 1631) (by decide +kernel), List.mem_of_getElem? (i := 1632) (by decide +kernel)⟩
theorem lw_p97 : lw_okq (⟨"UnbeatenHouseModel", "mayBeat", "(II)I"⟩, 77) := ⟨⟨by decide +kernel, by decide +kernel⟩, List.mem_of_getElem? (i := 1175) (by decide +kernel), List.mem_of_getElem? (i := 1655) (by decide +kernel), List.mem_of_getElem? (i := 1656) (by decide +kernel)⟩
theorem lw_p98 : lw_okq (⟨"UnbeatenHouseModel", "mostLoss", "(II)I"⟩, 77) := ⟨⟨by decide +kernel, by decide +kernel⟩, List.mem_of_getElem? (i := 1175) (by decide +kernel), List.mem_of_getElem? (i := 1659) (by decide +kernel), List.mem_of_getElem? (i := 1660) (by decide +kernel)⟩
theorem lw_p99 : lw_okq (⟨"UnbeatenHouseModel", "leastLoss", "(II)I"⟩, 77) := ⟨⟨by decide +kernel, by decide +kernel⟩, List.mem_of_getElem? (i := 1175) (by decide +kernel), List.mem_of_getElem? (i := 1663) (by decide +kernel), List.mem_of_getElem? (i := 1664) (by decide +kernel)⟩
theorem lw_p100 : lw_okq (⟨"UnbeatenHouseModel", "ways", "(II)V"⟩, 77) := ⟨⟨by decide +kernel, by decide +kernel⟩, List.mem_of_getElem? (i := 1175) (by decide +kernel), List.mem_of_getElem? (i := 1675) (by decide +kernel), List.mem_of_getElem? (i := 1676) (by decide +kernel)⟩
theorem lw_p101 : lw_okq (⟨"UnbeatenHouseModel", "gathers", "(I)V"⟩, 77) := ⟨⟨by decide +kernel, by decide +kernel⟩, List.mem_of_getElem? (i := 1175) (by decide +kernel), List.mem_of_getElem? (i := 1679) (by decide +kernel), List.mem_of_getElem? (i := 1680) (by decide +kernel)⟩
theorem lw_p102 : lw_okq (⟨"UnbeatenHouseModel", "isLost", "(I)Z"⟩, 77) := ⟨⟨by decide +kernel, by decide +kernel⟩, List.mem_of_getElem? (i := 1175) (by decide +kernel), List.mem_of_getElem? (i := 1683) (by decide +kernel), List.mem_of_getElem? (i := 1684) (by decide +kernel)⟩
theorem lw_p103 : lw_okq (⟨"UnbeatenHouseModel", "isWorse", "(I)Z"⟩, 77) := ⟨⟨by decide +kernel, by decide +kernel⟩, List.mem_of_getElem? (i := 1175) (by decide +kernel), List.mem_of_getElem? (i := 1687) (by decide +kernel), List.mem_of_getElem? (i := 1688) (by decide +kernel)⟩
theorem lw_p104 : lw_okq (⟨"UnbeatenHouseModel", "lays", "(II)V"⟩, 77) := ⟨⟨by decide +kernel, by decide +kernel⟩, List.mem_of_getElem? (i := 1175) (by decide +kernel), List.mem_of_getElem? (i := 1691) (by decide +kernel), List.mem_of_getElem? (i := 1692) (by decide +kernel)⟩
theorem lw_p105 : lw_okq (⟨"UnbeatenHouseModel", "sets", "()V"⟩, 77) := ⟨⟨by decide +kernel, by decide +kernel⟩, List.mem_of_getElem? (i := 1175) (by decide +kernel), List.mem_of_getElem? (i := 1695) (by decide +kernel), List.mem_of_getElem? (i := 1696) (by decide +kernel)⟩
theorem lw_p106 : lw_okq (⟨"UnbeatenHouseModel", "works", "(II)J"⟩, 77) := ⟨⟨by decide +kernel, by decide +kernel⟩, List.mem_of_getElem? (i := 1175) (by decide +kernel), List.mem_of_getElem? (i := 1699) (by decide +kernel), List.mem_of_getElem? (i := 1700) (by decide +kernel)⟩
theorem lw_p107 : lw_okq (⟨"UnbeatenHouseModel", "leaf", "(II)J"⟩, 77) := ⟨⟨by decide +kernel, by decide +kernel⟩, List.mem_of_getElem? (i := 1175) (by decide +kernel), List.mem_of_getElem? (i := 1703) (by decide +kernel), List.mem_of_getElem? (i := 1704) (by decide +kernel)⟩
theorem lw_p108 : lw_okq (⟨"UnbeatenHouseModel", "setHas", "(I)I"⟩, 77) := ⟨⟨by decide +kernel, by decide +kernel⟩, List.mem_of_getElem? (i := 1175) (by decide +kernel), List.mem_of_getElem? (i := 1707) (by decide +kernel), List.mem_of_getElem? (i := 1708) (by decide +kernel)⟩
theorem lw_p109 : lw_okq (⟨"UnbeatenHouseModel", "isAhead", "(II)Z"⟩, 77) := ⟨⟨by decide +kernel, by decide +kernel⟩, List.mem_of_getElem? (i := 1175) (by decide +kernel), List.mem_of_getElem? (i := 1722) (by decide +kernel), List.mem_of_getElem? (i := 1723) (by decide +kernel)⟩
theorem lw_p110 : lw_okq (⟨"UnbeatenHouseModel", "isFront", "(I)Z"⟩, 77) := ⟨⟨by decide +kernel, by decide +kernel⟩, List.mem_of_getElem? (i := 1175) (by decide +kernel), List.mem_of_getElem? (i := 1730) (by decide +kernel), List.mem_of_getElem? (i := 1731) (by decide +kernel)⟩
theorem lw_p111 : lw_okq (⟨"UnbeatenHouseModel", "numbers", "()I"⟩, 77) := ⟨⟨by decide +kernel, by decide +kernel⟩, List.mem_of_getElem? (i := 1175) (by decide +kernel), List.mem_of_getElem? (i := 1751) (by decide +kernel), List.mem_of_getElem? (i := 1752) (by decide +kernel)⟩
def lw_privs_7 : List (MethodName × Nat) := [(⟨"UnbeatenHouseModel", "rowFront", "()J"⟩, 77), (⟨"UnbeatenHouseModel", "mayBeat", "(II)I"⟩, 77), (⟨"UnbeatenHouseModel", "mostLoss", "(II)I"⟩, 77), (⟨"UnbeatenHouseModel", "leastLoss", "(II)I"⟩, 77), (⟨"UnbeatenHouseModel", "ways", "(II)V"⟩, 77), (⟨"UnbeatenHouseModel", "gathers", "(I)V"⟩, 77), (⟨"UnbeatenHouseModel", "isLost", "(I)Z"⟩, 77), (⟨"UnbeatenHouseModel", "isWorse", "(I)Z"⟩, 77), (⟨"UnbeatenHouseModel", "lays", "(II)V"⟩, 77), (⟨"UnbeatenHouseModel", "sets", "()V"⟩, 77), (⟨"UnbeatenHouseModel", "works", "(II)J"⟩, 77), (⟨"UnbeatenHouseModel", "leaf", "(II)J"⟩, 77), (⟨"UnbeatenHouseModel", "setHas", "(I)I"⟩, 77), (⟨"UnbeatenHouseModel", "isAhead", "(II)Z"⟩, 77), (⟨"UnbeatenHouseModel", "isFront", "(I)Z"⟩, 77), (⟨"UnbeatenHouseModel", "numbers", "()I"⟩, 77)]
theorem lw_r7 : ∀ q ∈ lw_privs_7, lw_okq q := List.forall_mem_cons.mpr ⟨lw_p96, List.forall_mem_cons.mpr ⟨lw_p97, List.forall_mem_cons.mpr ⟨lw_p98, List.forall_mem_cons.mpr ⟨lw_p99, List.forall_mem_cons.mpr ⟨lw_p100, List.forall_mem_cons.mpr ⟨lw_p101, List.forall_mem_cons.mpr ⟨lw_p102, List.forall_mem_cons.mpr ⟨lw_p103, List.forall_mem_cons.mpr ⟨lw_p104, List.forall_mem_cons.mpr ⟨lw_p105, List.forall_mem_cons.mpr ⟨lw_p106, List.forall_mem_cons.mpr ⟨lw_p107, List.forall_mem_cons.mpr ⟨lw_p108, List.forall_mem_cons.mpr ⟨lw_p109, List.forall_mem_cons.mpr ⟨lw_p110, List.forall_mem_cons.mpr ⟨lw_p111, fun _ h => absurd h List.not_mem_nil⟩⟩⟩⟩⟩⟩⟩⟩⟩⟩⟩⟩⟩⟩⟩⟩
theorem lw_p112 : lw_okq (⟨"UnbeatenHouseModel", "isWeighing", "(I)Z"⟩, 77) := ⟨⟨by decide +kernel, by decide +kernel⟩, List.mem_of_getElem? (i := 1175) (by decide +kernel), List.mem_of_getElem? (i := 1755) (by decide +kernel), List.mem_of_getElem? (i := 1756) (by decide +kernel)⟩
theorem lw_p113 : lw_okq (⟨"UnbeatenHouseModel", "isFirst", "(I)Z"⟩, 77) := ⟨⟨by decide +kernel, by decide +kernel⟩, List.mem_of_getElem? (i := 1175) (by decide +kernel), List.mem_of_getElem? (i := 1759) (by decide +kernel), List.mem_of_getElem? (i := 1760) (by decide +kernel)⟩
theorem lw_p114 : lw_okq (⟨"UnbeatenHouseModel", "worth", "(I)I"⟩, 77) := ⟨⟨by decide +kernel, by decide +kernel⟩, List.mem_of_getElem? (i := 1175) (by decide +kernel), List.mem_of_getElem? (i := 1763) (by decide +kernel), List.mem_of_getElem? (i := 1764) (by decide +kernel)⟩
theorem lw_p115 : lw_okq (⟨"UnbeatenHouseModel", "apart", "(I)I"⟩, 77) := ⟨⟨by decide +kernel, by decide +kernel⟩, List.mem_of_getElem? (i := 1175) (by decide +kernel), List.mem_of_getElem? (i := 1775) (by decide +kernel), List.mem_of_getElem? (i := 1776) (by decide +kernel)⟩
theorem lw_p116 : lw_okq (⟨"UnbeatenHouseModel", "more", "(II)I"⟩, 77) := ⟨⟨by decide +kernel, by decide +kernel⟩, List.mem_of_getElem? (i := 1175) (by decide +kernel), List.mem_of_getElem? (i := 1779) (by decide +kernel), List.mem_of_getElem? (i := 1780) (by decide +kernel)⟩
theorem lw_p117 : lw_okq (⟨"UnbeatenHouseModel", "keeps", "(I)V"⟩, 77) := ⟨⟨by decide +kernel, by decide +kernel⟩, List.mem_of_getElem? (i := 1175) (by decide +kernel), List.mem_of_getElem? (i := 1783) (by decide +kernel), List.mem_of_getElem? (i := 1784) (by decide +kernel)⟩
theorem lw_p118 : lw_okq (⟨"UnbeatenHouseModel", "nextPick", "(I)Z"⟩, 77) := ⟨⟨by decide +kernel, by decide +kernel⟩, List.mem_of_getElem? (i := 1175) (by decide +kernel), List.mem_of_getElem? (i := 1787) (by decide +kernel), List.mem_of_getElem? (i := 1788) (by decide +kernel)⟩
theorem lw_p119 : lw_okq (⟨"UnbeatenHouseModel", "agrees", "()Z"⟩, 77) := ⟨⟨by decide +kernel, by decide +kernel⟩, List.mem_of_getElem? (i := 1175) (by decide +kernel), List.mem_of_getElem? (i := 1822) (by decide +kernel), List.mem_of_getElem? (i := 1823) (by decide +kernel)⟩
theorem lw_p120 : lw_okq (⟨"UnbeatenHouseModel", "agreed", "()I"⟩, 77) := ⟨⟨by decide +kernel, by decide +kernel⟩, List.mem_of_getElem? (i := 1175) (by decide +kernel), List.mem_of_getElem? (i := 1826) (by decide +kernel), List.mem_of_getElem? (i := 1827) (by decide +kernel)⟩
theorem lw_p121 : lw_okq (⟨"UnbeatenHouseModel", "rowWorth", "(I)I"⟩, 77) := ⟨⟨by decide +kernel, by decide +kernel⟩, List.mem_of_getElem? (i := 1175) (by decide +kernel), List.mem_of_getElem? (i := 1830) (by decide +kernel), List.mem_of_getElem? (i := 1831) (by decide +kernel)⟩
theorem lw_p122 : lw_okq (⟨"UnbeatenHouseModel", "gathersAgreeing", "()V"⟩, 77) := ⟨⟨by decide +kernel, by decide +kernel⟩, List.mem_of_getElem? (i := 1175) (by decide +kernel), List.mem_of_getElem? (i := 1838) (by decide +kernel), List.mem_of_getElem? (i := 1839) (by decide +kernel)⟩
theorem lw_p123 : lw_okq (⟨"UnbeatenHouseModel", "leaves", "(II)I"⟩, 77) := ⟨⟨by decide +kernel, by decide +kernel⟩, List.mem_of_getElem? (i := 1175) (by decide +kernel), List.mem_of_getElem? (i := 1846) (by decide +kernel), List.mem_of_getElem? (i := 1847) (by decide +kernel)⟩
theorem lw_p124 : lw_okq (⟨"UnbeatenHouseModel", "isAgreed", "(II)Z"⟩, 77) := ⟨⟨by decide +kernel, by decide +kernel⟩, List.mem_of_getElem? (i := 1175) (by decide +kernel), List.mem_of_getElem? (i := 1854) (by decide +kernel), List.mem_of_getElem? (i := 1855) (by decide +kernel)⟩
theorem lw_p125 : lw_okq (⟨"UnbeatenHouseModel", "voters", "()I"⟩, 77) := ⟨⟨by decide +kernel, by decide +kernel⟩, List.mem_of_getElem? (i := 1175) (by decide +kernel), List.mem_of_getElem? (i := 1877) (by decide +kernel), List.mem_of_getElem? (i := 1878) (by decide +kernel)⟩
theorem lw_p126 : lw_okq (⟨"UnbeatenHouseModel", "votes", "(I)Z"⟩, 77) := ⟨⟨by decide +kernel, by decide +kernel⟩, List.mem_of_getElem? (i := 1175) (by decide +kernel), List.mem_of_getElem? (i := 1881) (by decide +kernel), List.mem_of_getElem? (i := 1882) (by decide +kernel)⟩
theorem lw_p127 : lw_okq (⟨"UnbeatenHouseModel", "candidates", "()J"⟩, 77) := ⟨⟨by decide +kernel, by decide +kernel⟩, List.mem_of_getElem? (i := 1175) (by decide +kernel), List.mem_of_getElem? (i := 1885) (by decide +kernel), List.mem_of_getElem? (i := 1886) (by decide +kernel)⟩
def lw_privs_8 : List (MethodName × Nat) := [(⟨"UnbeatenHouseModel", "isWeighing", "(I)Z"⟩, 77), (⟨"UnbeatenHouseModel", "isFirst", "(I)Z"⟩, 77), (⟨"UnbeatenHouseModel", "worth", "(I)I"⟩, 77), (⟨"UnbeatenHouseModel", "apart", "(I)I"⟩, 77), (⟨"UnbeatenHouseModel", "more", "(II)I"⟩, 77), (⟨"UnbeatenHouseModel", "keeps", "(I)V"⟩, 77), (⟨"UnbeatenHouseModel", "nextPick", "(I)Z"⟩, 77), (⟨"UnbeatenHouseModel", "agrees", "()Z"⟩, 77), (⟨"UnbeatenHouseModel", "agreed", "()I"⟩, 77), (⟨"UnbeatenHouseModel", "rowWorth", "(I)I"⟩, 77), (⟨"UnbeatenHouseModel", "gathersAgreeing", "()V"⟩, 77), (⟨"UnbeatenHouseModel", "leaves", "(II)I"⟩, 77), (⟨"UnbeatenHouseModel", "isAgreed", "(II)Z"⟩, 77), (⟨"UnbeatenHouseModel", "voters", "()I"⟩, 77), (⟨"UnbeatenHouseModel", "votes", "(I)Z"⟩, 77), (⟨"UnbeatenHouseModel", "candidates", "()J"⟩, 77)]
theorem lw_r8 : ∀ q ∈ lw_privs_8, lw_okq q := List.forall_mem_cons.mpr ⟨lw_p112, List.forall_mem_cons.mpr ⟨lw_p113, List.forall_mem_cons.mpr ⟨lw_p114, List.forall_mem_cons.mpr ⟨lw_p115, List.forall_mem_cons.mpr ⟨lw_p116, List.forall_mem_cons.mpr ⟨lw_p117, List.forall_mem_cons.mpr ⟨lw_p118, List.forall_mem_cons.mpr ⟨lw_p119, List.forall_mem_cons.mpr ⟨lw_p120, List.forall_mem_cons.mpr ⟨lw_p121, List.forall_mem_cons.mpr ⟨lw_p122, List.forall_mem_cons.mpr ⟨lw_p123, List.forall_mem_cons.mpr ⟨lw_p124, List.forall_mem_cons.mpr ⟨lw_p125, List.forall_mem_cons.mpr ⟨lw_p126, List.forall_mem_cons.mpr ⟨lw_p127, fun _ h => absurd h List.not_mem_nil⟩⟩⟩⟩⟩⟩⟩⟩⟩⟩⟩⟩⟩⟩⟩⟩
theorem lw_p128 : lw_okq (⟨"UnbeatenHouseModel", "chosenBy", "(IJ)I"⟩, 77) := ⟨⟨by decide +kernel, by decide +kernel⟩, List.mem_of_getElem? (i := 1175) (by decide +kernel), List.mem_of_getElem? (i := 1889) (by decide +kernel), List.mem_of_getElem? (i := 1890) (by decide +kernel)⟩
theorem lw_p129 : lw_okq (⟨"UnbeatenHouseModel", "against", "(IIJ)I"⟩, 77) := ⟨⟨by decide +kernel, by decide +kernel⟩, List.mem_of_getElem? (i := 1175) (by decide +kernel), List.mem_of_getElem? (i := 1893) (by decide +kernel), List.mem_of_getElem? (i := 1894) (by decide +kernel)⟩
theorem lw_p130 : lw_okq (⟨"UnbeatenHouseModel", "placeOf", "(IIJ)I"⟩, 77) := ⟨⟨by decide +kernel, by decide +kernel⟩, List.mem_of_getElem? (i := 1175) (by decide +kernel), List.mem_of_getElem? (i := 1897) (by decide +kernel), List.mem_of_getElem? (i := 1898) (by decide +kernel)⟩
theorem lw_p131 : lw_okq (⟨"UnbeatenHouseModel", "isBefore", "(III)Z"⟩, 77) := ⟨⟨by decide +kernel, by decide +kernel⟩, List.mem_of_getElem? (i := 1175) (by decide +kernel), List.mem_of_getElem? (i := 1901) (by decide +kernel), List.mem_of_getElem? (i := 1902) (by decide +kernel)⟩
theorem lw_p132 : lw_okq (⟨"UnbeatenHouseModel", "personWorth", "(II)I"⟩, 77) := ⟨⟨by decide +kernel, by decide +kernel⟩, List.mem_of_getElem? (i := 1175) (by decide +kernel), List.mem_of_getElem? (i := 1905) (by decide +kernel), List.mem_of_getElem? (i := 1906) (by decide +kernel)⟩
theorem lw_p133 : lw_okq (⟨"UnbeatenHouseModel", "wins", "(II)Z"⟩, 77) := ⟨⟨by decide +kernel, by decide +kernel⟩, List.mem_of_getElem? (i := 1175) (by decide +kernel), List.mem_of_getElem? (i := 1909) (by decide +kernel), List.mem_of_getElem? (i := 1910) (by decide +kernel)⟩
def lw_privs_9 : List (MethodName × Nat) := [(⟨"UnbeatenHouseModel", "chosenBy", "(IJ)I"⟩, 77), (⟨"UnbeatenHouseModel", "against", "(IIJ)I"⟩, 77), (⟨"UnbeatenHouseModel", "placeOf", "(IIJ)I"⟩, 77), (⟨"UnbeatenHouseModel", "isBefore", "(III)Z"⟩, 77), (⟨"UnbeatenHouseModel", "personWorth", "(II)I"⟩, 77), (⟨"UnbeatenHouseModel", "wins", "(II)Z"⟩, 77)]
theorem lw_r9 : ∀ q ∈ lw_privs_9, lw_okq q := List.forall_mem_cons.mpr ⟨lw_p128, List.forall_mem_cons.mpr ⟨lw_p129, List.forall_mem_cons.mpr ⟨lw_p130, List.forall_mem_cons.mpr ⟨lw_p131, List.forall_mem_cons.mpr ⟨lw_p132, List.forall_mem_cons.mpr ⟨lw_p133, fun _ h => absurd h List.not_mem_nil⟩⟩⟩⟩⟩⟩
def lw_privs : List (MethodName × Nat) := lw_privs_1 ++ (lw_privs_2 ++ (lw_privs_3 ++ (lw_privs_4 ++ (lw_privs_5 ++ (lw_privs_6 ++ (lw_privs_7 ++ (lw_privs_8 ++ (lw_privs_9))))))))
def lw_tbl : List Cond := k2_sels lw_privs ++ tables_1
theorem lw_privs_ok : ∀ q ∈ lw_privs, lw_okq q := by
  show ∀ q ∈ lw_privs_1 ++ (lw_privs_2 ++ (lw_privs_3 ++ (lw_privs_4 ++ (lw_privs_5 ++ (lw_privs_6 ++ (lw_privs_7 ++ (lw_privs_8 ++ (lw_privs_9)))))))), lw_okq q
  exact List.forall_mem_append.mpr ⟨lw_r1, List.forall_mem_append.mpr ⟨lw_r2, List.forall_mem_append.mpr ⟨lw_r3, List.forall_mem_append.mpr ⟨lw_r4, List.forall_mem_append.mpr ⟨lw_r5, List.forall_mem_append.mpr ⟨lw_r6, List.forall_mem_append.mpr ⟨lw_r7, List.forall_mem_append.mpr ⟨lw_r8, lw_r9⟩⟩⟩⟩⟩⟩⟩⟩
end
section
/-! THE SMALL MACHINE. A reference is the number of a cell; the heap is three functions: cell, slot -> int, long, cell. -/
abbrev mj_H : Type := (Nat → Nat → Int32) × (Nat → Nat → Int64) × (Nat → Nat → Nat)
abbrev mj_L : Type := List (Nat × Value)
abbrev mj_R : Type := Value × mj_H
abbrev mj_S : Type := List (Nat × Nat)
/-- an instruction as decoded, its length, four operands, an int, a long, the cases of a switch -/
abbrev mj_E : Type := Jvm.ClassFile.Instr × Nat × (Nat × Nat × Nat × Nat) × Int32 × Int64 × List (Int32 × Nat)
/-- a method's blocks by their first pc; the pcs where a walk halts, with the locals that go on living; how many locals -/
abbrev mj_C : Type := List (Nat × List mj_E) × List (Nat × List Nat) × Nat
abbrev mj_K : Type := mj_L → List Value → mj_H → Prop
def mj_up {α : Type} (f : Nat → Nat → α) (k j : Nat) (v : α) : Nat → Nat → α := fun k' j' => if k' = k then (if j' = j then v else f k' j') else f k' j'
def mj_cp {α : Type} (f : Nat → Nat → α) (a sp b dp n : Nat) : Nat → Nat → α := fun k' j' => if k' = b then (if dp ≤ j' ∧ j' < dp + n then f a (sp + (j' - dp)) else f k' j') else f k' j'
def mj_nth {α : Type} : List α → Nat → Option α
  | [], _ => none
  | x :: _, 0 => some x
  | _ :: r, n + 1 => mj_nth r n
def mj_fd {α : Type} : List (Nat × α) → Nat → Option α
  | [], _ => none
  | q :: r, i => match Nat.beq q.1 i with
    | true => some q.2
    | false => mj_fd r i
def mj_in (x : Nat × Value) : mj_L → mj_L
  | [] => [x]
  | q :: r => match Nat.blt q.1 x.1 with
    | true => q :: mj_in x r
    | false => x :: q :: r
def mj_s1 (i : Nat) (v : Value) (l : mj_L) : mj_L := mj_in (i, v) (l.filter (fun q => !(q.1 == i) && !(q.1 + 1 == i && q.2.category == 2)))
def mj_s2 (i : Nat) (v : Value) (l : mj_L) : mj_L := mj_in (i, v) (l.filter (fun q => !(q.1 == i) && (!(q.1 == i + 1) && !(q.1 + 1 == i && q.2.category == 2))))
def mj_tm (ks : List Nat) (l : mj_L) : mj_L := l.filter (fun q => ks.elem q.1)
def mj_a0 : Nat → List Value → mj_L
  | _, [] => []
  | i, v :: vs => (i, v) :: mj_a0 (if v.category = 2 then i + 2 else i + 1) vs
-- pops
def mj_pI (s : List Value) (F : Int32 → List Value → Prop) : Prop := match s with
  | .int x :: r => F x r
  | _ => False
def mj_pL (s : List Value) (F : Int64 → List Value → Prop) : Prop := match s with
  | .long x :: r => F x r
  | _ => False
def mj_pR (s : List Value) (F : Nat → List Value → Prop) : Prop := match s with
  | .ref x :: r => F x r
  | _ => False
def mj_lI (l : mj_L) (i : Nat) (F : Int32 → Prop) : Prop := match mj_fd l i with
  | some (.int x) => F x
  | _ => False
def mj_lL (l : mj_L) (i : Nat) (F : Int64 → Prop) : Prop := match mj_fd l i with
  | some (.long x) => F x
  | _ => False
def mj_lR (l : mj_L) (i : Nat) (F : Nat → Prop) : Prop := match mj_fd l i with
  | some (.ref x) => F x
  | _ => False
/-- the cell q of a shape: its kind (0 int[], 1 long[], 2 boolean[], 3 + c an object of class c) and size -/
def mj_sh (S : mj_S) (q t : Nat) (F : Nat → Prop) : Prop := match mj_nth S q with
  | some z => match Nat.beq z.1 t with
    | true => F z.2
    | false => False
  | none => False
def mj_if (b : Bool) (P : Prop) : Prop := match b with
  | true => P
  | false => False
def mj_sw : List (Int32 × Nat) → Nat → Int32 → (Nat → Prop) → Prop
  | [], d, _, F => F d
  | q :: r, d, x, F => if x = q.1 then F q.2 else mj_sw r d x F
def mj_sz : List Value → Nat
  | [] => 0
  | v :: r => v.category + mj_sz r
/-- a call's answer goes on the stack, by its kind: 0 none, 1 int, 2 long, 3 a cell -/
def mj_rt (c : Nat) (v : Value) (r : List Value) (F : List Value → Prop) : Prop := match c with
  | 0 => v = .null ∧ F r
  | 1 => ∃ x : Int32, v = .int x ∧ F (.int x :: r)
  | 2 => ∃ x : Int64, v = .long x ∧ F (.long x :: r)
  | _ => ∃ x : Nat, v = .ref x ∧ F (.ref x :: r)
/-- the receiver is an object of class d (as d + 1; 0: a static method) -/
def mj_rc (S : mj_S) (d : Nat) (as : List Value) : Prop := match d with
  | 0 => True
  | d + 1 => match as with
    | .ref q :: _ => mj_sh S q (d + 3) (fun _ => True)
    | _ => False
def mj_cl (S : mj_S) (cal : Nat → List Value → mj_H → mj_R → Prop) (z n c d : Nat) (s : List Value) (h : mj_H) (k : List Value → mj_H → Prop) : Prop :=
  mj_if (Nat.ble n s.length && Nat.ble (mj_sz (s.drop n)) 8) (mj_rc S d (s.take n).reverse ∧ ∃ q : mj_R, cal z (s.take n).reverse h q ∧ mj_rt c q.1 (s.drop n) (fun r => k r q.2))
def mj_ins (S : mj_S) (cal : Nat → List Value → mj_H → mj_R → Prop) (Q : mj_R → Prop) (jmp : Nat → mj_K) (i : Jvm.ClassFile.Instr) (a b c d : Nat) (v : Int32) (w : Int64) (sw : List (Int32 × Nat)) (l : mj_L) (s : List Value) (h : mj_H) (k : mj_K) : Prop :=
  match i with
  | .iconst _ => k l (.int v :: s) h
  | .bipush _ => k l (.int v :: s) h
  | .sipush _ => k l (.int v :: s) h
  | .ldc _ => k l (.int v :: s) h
  | .ldc_w _ => k l (.int v :: s) h
  | .lconst _ => k l (.long w :: s) h
  | .ldc2_w _ => k l (.long w :: s) h
  | .iload_n n => mj_lI l n.val fun x => k l (.int x :: s) h
  | .iload n => mj_lI l n fun x => k l (.int x :: s) h
  | .lload_n n => mj_lL l n.val fun x => k l (.long x :: s) h
  | .lload n => mj_lL l n fun x => k l (.long x :: s) h
  | .aload_n n => mj_lR l n.val fun x => k l (.ref x :: s) h
  | .aload n => mj_lR l n fun x => k l (.ref x :: s) h
  | .istore_n n => mj_pI s fun x r => k (mj_s1 n.val (.int x) l) r h
  | .istore n => mj_pI s fun x r => k (mj_s1 n (.int x) l) r h
  | .lstore_n n => mj_pL s fun x r => k (mj_s2 n.val (.long x) l) r h
  | .lstore n => mj_pL s fun x r => k (mj_s2 n (.long x) l) r h
  | .astore_n n => mj_pR s fun x r => k (mj_s1 n.val (.ref x) l) r h
  | .astore n => mj_pR s fun x r => k (mj_s1 n (.ref x) l) r h
  | .iinc n _ => mj_lI l n fun x => k (mj_s1 n (.int (x + v)) l) s h
  | .iadd => mj_pI s fun y r => mj_pI r fun x r => k l (.int (x + y) :: r) h
  | .isub => mj_pI s fun y r => mj_pI r fun x r => k l (.int (x - y) :: r) h
  | .imul => mj_pI s fun y r => mj_pI r fun x r => k l (.int (x * y) :: r) h
  | .iand => mj_pI s fun y r => mj_pI r fun x r => k l (.int (x &&& y) :: r) h
  | .ior => mj_pI s fun y r => mj_pI r fun x r => k l (.int (x ||| y) :: r) h
  | .ixor => mj_pI s fun y r => mj_pI r fun x r => k l (.int (x ^^^ y) :: r) h
  | .idiv => mj_pI s fun y r => mj_pI r fun x r => ¬ y = 0 ∧ k l (.int (x / y) :: r) h
  | .irem => mj_pI s fun y r => mj_pI r fun x r => ¬ y = 0 ∧ k l (.int (x - x / y * y) :: r) h
  | .ineg => mj_pI s fun x r => k l (.int (-x) :: r) h
  | .ishl => mj_pI s fun y r => mj_pI r fun x r => k l (.int (x <<< (y &&& 31)) :: r) h
  | .ishr => mj_pI s fun y r => mj_pI r fun x r => k l (.int (x >>> (y &&& 31)) :: r) h
  | .iushr => mj_pI s fun y r => mj_pI r fun x r => k l (.int (x.toUInt32 >>> (y.toUInt32 &&& Int32.toUInt32 31)).toInt32 :: r) h
  | .ladd => mj_pL s fun y r => mj_pL r fun x r => k l (.long (x + y) :: r) h
  | .lsub => mj_pL s fun y r => mj_pL r fun x r => k l (.long (x - y) :: r) h
  | .lmul => mj_pL s fun y r => mj_pL r fun x r => k l (.long (x * y) :: r) h
  | .land => mj_pL s fun y r => mj_pL r fun x r => k l (.long (x &&& y) :: r) h
  | .lor => mj_pL s fun y r => mj_pL r fun x r => k l (.long (x ||| y) :: r) h
  | .lxor => mj_pL s fun y r => mj_pL r fun x r => k l (.long (x ^^^ y) :: r) h
  | .ldiv => mj_pL s fun y r => mj_pL r fun x r => ¬ y = 0 ∧ k l (.long (x / y) :: r) h
  | .lrem => mj_pL s fun y r => mj_pL r fun x r => ¬ y = 0 ∧ k l (.long (x - x / y * y) :: r) h
  | .lneg => mj_pL s fun x r => k l (.long (-x) :: r) h
  | .lshl => mj_pI s fun y r => mj_pL r fun x r => k l (.long (x <<< (y.toInt64 &&& 63)) :: r) h
  | .lshr => mj_pI s fun y r => mj_pL r fun x r => k l (.long (x >>> (y.toInt64 &&& 63)) :: r) h
  | .lushr => mj_pI s fun y r => mj_pL r fun x r => k l (.long (x.toUInt64 >>> (y.toInt64.toUInt64 &&& Int64.toUInt64 63)).toInt64 :: r) h
  | .lcmp => mj_pL s fun y r => mj_pL r fun x r => k l (.int (lg_cmp x y) :: r) h
  | .i2l => mj_pI s fun x r => k l (.long x.toInt64 :: r) h
  | .l2i => mj_pL s fun x r => k l (.int x.toInt32 :: r) h
  | .dup => match s with
    | .int x :: r => k l (.int x :: .int x :: r) h
    | .ref x :: r => k l (.ref x :: .ref x :: r) h
    | _ => False
  | .dup2 => mj_pI s fun x r => mj_pR r fun y r => k l (.int x :: .ref y :: .int x :: .ref y :: r) h
  | .getfield _ => mj_pR s fun q r => mj_sh S q (a + 3) fun n => mj_if (Nat.blt b n) (match c with
    | 1 => k l (.long (h.2.1 q b) :: r) h
    | 2 => k l (.ref (h.2.2 q b) :: r) h
    | _ => k l (.int (h.1 q b) :: r) h)
  | .putfield _ => match c with
    | 1 => mj_pL s fun x r => mj_pR r fun q r => mj_sh S q (a + 3) fun n => mj_if (Nat.blt b n) (k l r (h.1, mj_up h.2.1 q b x, h.2.2))
    | 2 => mj_pR s fun x r => mj_pR r fun q r => mj_sh S q (a + 3) fun n => mj_if (Nat.blt b n) (k l r (h.1, h.2.1, mj_up h.2.2 q b x))
    | 3 => mj_pI s fun x r => mj_pR r fun q r => mj_sh S q (a + 3) fun n => mj_if (Nat.blt b n) ((x = 0 ∨ x = 1) ∧ k l r (mj_up h.1 q b x, h.2.1, h.2.2))
    | _ => mj_pI s fun x r => mj_pR r fun q r => mj_sh S q (a + 3) fun n => mj_if (Nat.blt b n) (k l r (mj_up h.1 q b x, h.2.1, h.2.2))
  | .iaload => mj_pI s fun i r => mj_pR r fun q r => mj_sh S q 0 fun n => vp_in i n ∧ k l (.int (h.1 q i.toNatClampNeg) :: r) h
  | .laload => mj_pI s fun i r => mj_pR r fun q r => mj_sh S q 1 fun n => vp_in i n ∧ k l (.long (h.2.1 q i.toNatClampNeg) :: r) h
  | .baload => mj_pI s fun i r => mj_pR r fun q r => mj_sh S q 2 fun n => vp_in i n ∧ k l (.int (h.1 q i.toNatClampNeg) :: r) h
  | .iastore => mj_pI s fun x r => mj_pI r fun i r => mj_pR r fun q r => mj_sh S q 0 fun n => vp_in i n ∧ k l r (mj_up h.1 q i.toNatClampNeg x, h.2.1, h.2.2)
  | .lastore => mj_pL s fun x r => mj_pI r fun i r => mj_pR r fun q r => mj_sh S q 1 fun n => vp_in i n ∧ k l r (h.1, mj_up h.2.1 q i.toNatClampNeg x, h.2.2)
  | .bastore => mj_pI s fun x r => mj_pI r fun i r => mj_pR r fun q r => mj_sh S q 2 fun n => vp_in i n ∧ k l r (mj_up h.1 q i.toNatClampNeg (vp_nar .boolean x), h.2.1, h.2.2)
  | .goto _ => jmp a l s h
  | .ifCond o _ => mj_pI s fun x r => match o with
    | .eq => if x = 0 then jmp a l r h else k l r h
    | .ne => if x = 0 then k l r h else jmp a l r h
    | .lt => if x < 0 then jmp a l r h else k l r h
    | .ge => if x < 0 then k l r h else jmp a l r h
    | .gt => if x ≤ 0 then k l r h else jmp a l r h
    | .le => if x ≤ 0 then jmp a l r h else k l r h
  | .if_icmp o _ => mj_pI s fun y r => mj_pI r fun x r => match o with
    | .eq => if x = y then jmp a l r h else k l r h
    | .ne => if x = y then k l r h else jmp a l r h
    | .lt => if x < y then jmp a l r h else k l r h
    | .ge => if y ≤ x then jmp a l r h else k l r h
    | .gt => if y < x then jmp a l r h else k l r h
    | .le => if x ≤ y then jmp a l r h else k l r h
  | .tableswitch _ _ _ _ => mj_pI s fun x r => mj_sw sw a x fun t => jmp t l r h
  | .lookupswitch _ _ => mj_pI s fun x r => mj_sw sw a x fun t => jmp t l r h
  | .invokevirtual _ => mj_cl S cal a b c d s h fun r h => k l r h
  | .invokestatic _ => match Nat.beq a 999 with
    | true => mj_pI s fun n r => mj_pI r fun dp r => mj_pR r fun y r => mj_pI r fun sp r => mj_pR r fun x r => mj_sh S x 0 fun n0 => mj_sh S y 0 fun n1 =>
        (¬ sp < 0 ∧ ¬ dp < 0 ∧ ¬ n < 0 ∧ sp.toNatClampNeg + n.toNatClampNeg ≤ n0 ∧ dp.toNatClampNeg + n.toNatClampNeg ≤ n1) ∧ mj_if (Nat.ble (mj_sz r) 8) (k l r (mj_cp h.1 x sp.toNatClampNeg y dp.toNatClampNeg n.toNatClampNeg, h.2.1, h.2.2))
    | false => mj_cl S cal a b c 0 s h fun r h => k l r h
  | .return_ => match s with
    | [] => Q (.null, h)
    | _ => False
  | .ireturn => match s with
    | [.int x] => (match a with
      | 0 => Q (.int x, h)
      | _ => (x = 0 ∨ x = 1) ∧ Q (.int x, h))
    | _ => False
  | .lreturn => match s with
    | [.long x] => Q (.long x, h)
    | _ => False
  | .areturn => match s with
    | [.ref x] => Q (.ref x, h)
    | _ => False
  | _ => False
def mj_bk (S : mj_S) (cal : Nat → List Value → mj_H → mj_R → Prop) (Q : mj_R → Prop) (jmp : Nat → mj_K) : List mj_E → Nat → mj_K
  | [], pc => fun l s h => jmp pc l s h
  | e :: r, pc => fun l s h => mj_ins S cal Q jmp e.1 e.2.2.1.1 e.2.2.1.2.1 e.2.2.1.2.2.1 e.2.2.1.2.2.2 e.2.2.2.1 e.2.2.2.2.1 e.2.2.2.2.2 l s h (mj_bk S cal Q jmp r (pc + e.2.1))
def mj_sg (S : mj_S) (C : mj_C) (cal : Nat → List Value → mj_H → mj_R → Prop) (Q : mj_R → Prop) (K : Nat → mj_K) : Nat → Nat → mj_K
  | 0, _ => fun _ _ _ => False
  | m + 1, pc => fun l s h => match mj_fd C.2.1 pc with
    | some ks => K pc (mj_tm ks l) s h
    | none => match mj_fd C.1 pc with
      | some b => mj_bk S cal Q (mj_sg S C cal Q K m) b pc l s h
      | none => False
/-- from a pc on, without halting at it -/
def mj_go (S : mj_S) (C : mj_C) (cal : Nat → List Value → mj_H → mj_R → Prop) (Q : mj_R → Prop) (K : Nat → mj_K) (pc : Nat) : mj_K := fun l s h => match mj_fd C.1 pc with
  | some b => mj_bk S cal Q (mj_sg S C cal Q K 100) b pc l s h
  | none => False
def mj_rn (S : mj_S) (C : mj_C) (cal : Nat → List Value → mj_H → mj_R → Prop) (Q : mj_R → Prop) : Nat → Nat → mj_K
  | 0, _ => fun _ _ _ => False
  | n + 1, pc => mj_go S C cal Q (mj_rn S C cal Q n) pc
def mj_Ev (S : mj_S) (C : mj_C) (cal : Nat → List Value → mj_H → mj_R → Prop) (Q : mj_R → Prop) (pc : Nat) : mj_K := fun l s h => ∃ n, mj_rn S C cal Q n pc l s h
/-- what method z answers at depth D, from its arguments and the heap -/
def mj_Cl (S : mj_S) (CD : Nat → mj_C) : Nat → Nat → List Value → mj_H → mj_R → Prop
  | 0 => fun _ _ _ _ => False
  | D + 1 => fun z as h r => mj_if (Nat.ble (mj_sz as) (CD z).2.2) (mj_sg S (CD z) (mj_Cl S CD D) (fun x => x = r) (mj_Ev S (CD z) (mj_Cl S CD D) (fun x => x = r)) 100 0 (mj_a0 0 as) [] h)
-- inversions
theorem mj_pI_e {s : List Value} {F : Int32 → List Value → Prop} (h : mj_pI s F) : ∃ x r, s = .int x :: r ∧ F x r := by
  unfold mj_pI at h
  split at h
  · exact ⟨_, _, rfl, h⟩
  · exact h.elim
theorem mj_pL_e {s : List Value} {F : Int64 → List Value → Prop} (h : mj_pL s F) : ∃ x r, s = .long x :: r ∧ F x r := by
  unfold mj_pL at h
  split at h
  · exact ⟨_, _, rfl, h⟩
  · exact h.elim
theorem mj_pR_e {s : List Value} {F : Nat → List Value → Prop} (h : mj_pR s F) : ∃ x r, s = .ref x :: r ∧ F x r := by
  unfold mj_pR at h
  split at h
  · exact ⟨_, _, rfl, h⟩
  · exact h.elim
theorem mj_fd_mem {α : Type} : ∀ {l : List (Nat × α)} {i : Nat} {v : α}, mj_fd l i = some v → (i, v) ∈ l
  | [], i, v, h => by simp [mj_fd] at h
  | q :: r, i, v, h => by
    unfold mj_fd at h
    split at h
    · rename_i e
      have e2 : q.1 = i := Nat.eq_of_beq_eq_true e
      cases h
      rw [← e2]
      exact List.mem_cons_self
    · exact List.mem_cons_of_mem _ (mj_fd_mem h)
theorem mj_lI_e {l : mj_L} {i : Nat} {F : Int32 → Prop} (h : mj_lI l i F) : ∃ x, (i, Value.int x) ∈ l ∧ F x := by
  unfold mj_lI at h
  split at h
  · rename_i e
    exact ⟨_, mj_fd_mem e, h⟩
  · exact h.elim
theorem mj_lL_e {l : mj_L} {i : Nat} {F : Int64 → Prop} (h : mj_lL l i F) : ∃ x, (i, Value.long x) ∈ l ∧ F x := by
  unfold mj_lL at h
  split at h
  · rename_i e
    exact ⟨_, mj_fd_mem e, h⟩
  · exact h.elim
theorem mj_lR_e {l : mj_L} {i : Nat} {F : Nat → Prop} (h : mj_lR l i F) : ∃ x, (i, Value.ref x) ∈ l ∧ F x := by
  unfold mj_lR at h
  split at h
  · rename_i e
    exact ⟨_, mj_fd_mem e, h⟩
  · exact h.elim
theorem mj_nth_eq {α : Type} : ∀ (l : List α) (n : Nat), mj_nth l n = l[n]?
  | [], n => by simp [mj_nth]
  | x :: r, 0 => by simp [mj_nth]
  | x :: r, n + 1 => by simp [mj_nth, mj_nth_eq r n]
theorem mj_sh_e {S : mj_S} {q t : Nat} {F : Nat → Prop} (h : mj_sh S q t F) : ∃ n, S[q]? = some (t, n) ∧ F n := by
  unfold mj_sh at h
  split at h
  · rename_i z e
    split at h
    · rename_i e2
      have e3 : z.1 = t := Nat.eq_of_beq_eq_true e2
      refine ⟨z.2, ?_, h⟩
      rw [← mj_nth_eq, e, ← e3]
    · exact h.elim
  · exact h.elim
theorem mj_if_e {b : Bool} {P : Prop} (h : mj_if b P) : b = true ∧ P := by
  cases b
  · exact h.elim
  · exact ⟨rfl, h⟩
theorem mj_in_e {x y : Nat × Value} : ∀ {l : mj_L}, y ∈ mj_in x l → y = x ∨ y ∈ l
  | [], h => by
    simp [mj_in] at h
    exact Or.inl h
  | q :: r, h => by
    unfold mj_in at h
    split at h
    · rcases List.mem_cons.mp h with h | h
      · exact Or.inr (h ▸ List.mem_cons_self)
      · rcases mj_in_e h with h | h
        · exact Or.inl h
        · exact Or.inr (List.mem_cons_of_mem _ h)
    · rcases List.mem_cons.mp h with h | h
      · exact Or.inl h
      · exact Or.inr h
end
section
/-! a walk goes one way: what holds for some x at its end, holds for some x of the whole walk -/
section MJX
variable {ι : Type}
theorem mj_x_pI {s : List Value} {F : ι → Int32 → List Value → Prop} : mj_pI s (fun x r => ∃ i, F i x r) ↔ ∃ i, mj_pI s (F i) := by
  cases s with
  | nil => simp [mj_pI]
  | cons v r => cases v <;> simp [mj_pI]
theorem mj_x_pL {s : List Value} {F : ι → Int64 → List Value → Prop} : mj_pL s (fun x r => ∃ i, F i x r) ↔ ∃ i, mj_pL s (F i) := by
  cases s with
  | nil => simp [mj_pL]
  | cons v r => cases v <;> simp [mj_pL]
theorem mj_x_pR {s : List Value} {F : ι → Nat → List Value → Prop} : mj_pR s (fun x r => ∃ i, F i x r) ↔ ∃ i, mj_pR s (F i) := by
  cases s with
  | nil => simp [mj_pR]
  | cons v r => cases v <;> simp [mj_pR]
theorem mj_x_lI {l : mj_L} {n : Nat} {F : ι → Int32 → Prop} : mj_lI l n (fun x => ∃ i, F i x) ↔ ∃ i, mj_lI l n (F i) := by
  unfold mj_lI
  cases mj_fd l n with
  | none => simp
  | some v => cases v <;> simp
theorem mj_x_lL {l : mj_L} {n : Nat} {F : ι → Int64 → Prop} : mj_lL l n (fun x => ∃ i, F i x) ↔ ∃ i, mj_lL l n (F i) := by
  unfold mj_lL
  cases mj_fd l n with
  | none => simp
  | some v => cases v <;> simp
theorem mj_x_lR {l : mj_L} {n : Nat} {F : ι → Nat → Prop} : mj_lR l n (fun x => ∃ i, F i x) ↔ ∃ i, mj_lR l n (F i) := by
  unfold mj_lR
  cases mj_fd l n with
  | none => simp
  | some v => cases v <;> simp
theorem mj_x_sh {S : mj_S} {q t : Nat} {F : ι → Nat → Prop} : mj_sh S q t (fun x => ∃ i, F i x) ↔ ∃ i, mj_sh S q t (F i) := by
  unfold mj_sh
  cases mj_nth S q with
  | none => simp
  | some z =>
    show (match Nat.beq z.1 t with | true => ∃ i, F i z.2 | false => False) ↔ ∃ i, match Nat.beq z.1 t with | true => F i z.2 | false => False
    generalize Nat.beq z.1 t = b
    cases b <;> simp
theorem mj_x_if {b : Bool} {F : ι → Prop} : mj_if b (∃ i, F i) ↔ ∃ i, mj_if b (F i) := by
  cases b <;> simp [mj_if]
theorem mj_x_sw {d : Nat} {x : Int32} {F : ι → Nat → Prop} : ∀ sw : List (Int32 × Nat), mj_sw sw d x (fun t => ∃ i, F i t) ↔ ∃ i, mj_sw sw d x (F i)
  | [] => Iff.rfl
  | q :: r => by
    unfold mj_sw
    by_cases h : x = q.1
    · simp only [h, if_true]
    · simp only [h, if_false]
      exact mj_x_sw r
theorem mj_x_rt {c : Nat} {v : Value} {r : List Value} {F : ι → List Value → Prop} (h : mj_rt c v r (fun x => ∃ i, F i x)) : ∃ i, mj_rt c v r (F i) := by
  match c, h with
  | 0, h => obtain ⟨h1, i, h2⟩ := h; exact ⟨i, h1, h2⟩
  | 1, h => obtain ⟨x, h1, i, h2⟩ := h; exact ⟨i, x, h1, h2⟩
  | 2, h => obtain ⟨x, h1, i, h2⟩ := h; exact ⟨i, x, h1, h2⟩
  | _ + 3, h => obtain ⟨x, h1, i, h2⟩ := h; exact ⟨i, x, h1, h2⟩
theorem mj_x_cl {S : mj_S} {cal : Nat → List Value → mj_H → mj_R → Prop} {z n c d : Nat} {s : List Value} {h : mj_H} {k : ι → List Value → mj_H → Prop} (hm : mj_cl S cal z n c d s h (fun r h => ∃ i, k i r h)) : ∃ i, mj_cl S cal z n c d s h (k i) := by
  unfold mj_cl at hm
  obtain ⟨h1, h2, q, h3, h4⟩ := mj_if_e hm
  obtain ⟨i, h5⟩ := mj_x_rt h4
  refine ⟨i, ?_⟩
  unfold mj_cl
  rw [h1]
  exact ⟨h2, q, h3, h5⟩
theorem mj_x_ite {c : Prop} [Decidable c] {A B : ι → Prop} : (if c then ∃ i, A i else ∃ i, B i) ↔ ∃ i, if c then A i else B i := by
  by_cases h : c <;> simp [h]
set_option maxHeartbeats 4000000 in
theorem mj_x_ins {S : mj_S} {cal : Nat → List Value → mj_H → mj_R → Prop} {Q : ι → mj_R → Prop} {jmp : ι → Nat → mj_K} {i : Jvm.ClassFile.Instr} {a b c d : Nat} {v : Int32} {w : Int64} {sw : List (Int32 × Nat)} {l : mj_L} {s : List Value} {h : mj_H} {k : ι → mj_K}
    (hm : mj_ins S cal (fun r => ∃ x, Q x r) (fun t l s h => ∃ x, jmp x t l s h) i a b c d v w sw l s h (fun l s h => ∃ x, k x l s h)) : ∃ x, mj_ins S cal (Q x) (jmp x) i a b c d v w sw l s h (k x) := by
  cases i with
  | iconst _ => exact hm
  | bipush _ => exact hm
  | sipush _ => exact hm
  | ldc _ => exact hm
  | ldc_w _ => exact hm
  | lconst _ => exact hm
  | ldc2_w _ => exact hm
  | iload_n n => exact mj_x_lI.mp hm
  | iload n => exact mj_x_lI.mp hm
  | lload_n n => exact mj_x_lL.mp hm
  | lload n => exact mj_x_lL.mp hm
  | aload_n n => exact mj_x_lR.mp hm
  | aload n => exact mj_x_lR.mp hm
  | istore_n n => exact mj_x_pI.mp hm
  | istore n => exact mj_x_pI.mp hm
  | lstore_n n => exact mj_x_pL.mp hm
  | lstore n => exact mj_x_pL.mp hm
  | astore_n n => exact mj_x_pR.mp hm
  | astore n => exact mj_x_pR.mp hm
  | iinc n _ => exact mj_x_lI.mp hm
  | iadd => simp only [mj_ins, mj_x_pI] at hm ⊢; exact hm
  | isub => simp only [mj_ins, mj_x_pI] at hm ⊢; exact hm
  | imul => simp only [mj_ins, mj_x_pI] at hm ⊢; exact hm
  | iand => simp only [mj_ins, mj_x_pI] at hm ⊢; exact hm
  | ior => simp only [mj_ins, mj_x_pI] at hm ⊢; exact hm
  | ixor => simp only [mj_ins, mj_x_pI] at hm ⊢; exact hm
  | idiv => simp only [mj_ins, mj_x_pI, ← exists_and_left] at hm ⊢; exact hm
  | irem => simp only [mj_ins, mj_x_pI, ← exists_and_left] at hm ⊢; exact hm
  | ineg => exact mj_x_pI.mp hm
  | ishl => simp only [mj_ins, mj_x_pI] at hm ⊢; exact hm
  | ishr => simp only [mj_ins, mj_x_pI] at hm ⊢; exact hm
  | iushr => simp only [mj_ins, mj_x_pI] at hm ⊢; exact hm
  | ladd => simp only [mj_ins, mj_x_pL] at hm ⊢; exact hm
  | lsub => simp only [mj_ins, mj_x_pL] at hm ⊢; exact hm
  | lmul => simp only [mj_ins, mj_x_pL] at hm ⊢; exact hm
  | land => simp only [mj_ins, mj_x_pL] at hm ⊢; exact hm
  | lor => simp only [mj_ins, mj_x_pL] at hm ⊢; exact hm
  | lxor => simp only [mj_ins, mj_x_pL] at hm ⊢; exact hm
  | ldiv => simp only [mj_ins, mj_x_pL, ← exists_and_left] at hm ⊢; exact hm
  | lrem => simp only [mj_ins, mj_x_pL, ← exists_and_left] at hm ⊢; exact hm
  | lneg => exact mj_x_pL.mp hm
  | lshl => simp only [mj_ins, mj_x_pI, mj_x_pL] at hm ⊢; exact hm
  | lshr => simp only [mj_ins, mj_x_pI, mj_x_pL] at hm ⊢; exact hm
  | lushr => simp only [mj_ins, mj_x_pI, mj_x_pL] at hm ⊢; exact hm
  | lcmp => simp only [mj_ins, mj_x_pL] at hm ⊢; exact hm
  | i2l => exact mj_x_pI.mp hm
  | l2i => exact mj_x_pL.mp hm
  | dup =>
    simp only [mj_ins] at hm ⊢
    split at hm
    · exact hm
    · exact hm
    · exact hm.elim
  | dup2 => simp only [mj_ins, mj_x_pI, mj_x_pR] at hm ⊢; exact hm
  | getfield _ =>
    simp only [mj_ins] at hm ⊢
    split at hm <;> (simp only [mj_x_pR, mj_x_sh, mj_x_if] at hm; exact hm)
  | putfield _ =>
    simp only [mj_ins] at hm ⊢
    split at hm <;> (simp only [mj_x_pI, mj_x_pL, mj_x_pR, mj_x_sh, mj_x_if, ← exists_and_left] at hm; exact hm)
  | iaload => simp only [mj_ins, mj_x_pI, mj_x_pR, mj_x_sh, ← exists_and_left] at hm ⊢; exact hm
  | laload => simp only [mj_ins, mj_x_pI, mj_x_pR, mj_x_sh, ← exists_and_left] at hm ⊢; exact hm
  | baload => simp only [mj_ins, mj_x_pI, mj_x_pR, mj_x_sh, ← exists_and_left] at hm ⊢; exact hm
  | iastore => simp only [mj_ins, mj_x_pI, mj_x_pR, mj_x_sh, ← exists_and_left] at hm ⊢; exact hm
  | lastore => simp only [mj_ins, mj_x_pI, mj_x_pL, mj_x_pR, mj_x_sh, ← exists_and_left] at hm ⊢; exact hm
  | bastore => simp only [mj_ins, mj_x_pI, mj_x_pR, mj_x_sh, ← exists_and_left] at hm ⊢; exact hm
  | goto _ => exact hm
  | ifCond o _ => cases o <;> (simp only [mj_ins, mj_x_pI, mj_x_ite] at hm ⊢; exact hm)
  | if_icmp o _ => cases o <;> (simp only [mj_ins, mj_x_pI, mj_x_ite] at hm ⊢; exact hm)
  | tableswitch _ _ _ _ => simp only [mj_ins, mj_x_pI, mj_x_sw] at hm ⊢; exact hm
  | lookupswitch _ _ => simp only [mj_ins, mj_x_pI, mj_x_sw] at hm ⊢; exact hm
  | invokevirtual _ => exact mj_x_cl hm
  | invokestatic _ =>
    simp only [mj_ins] at hm ⊢
    split at hm
    · simp only [mj_x_pI, mj_x_pR, mj_x_sh, mj_x_if, ← exists_and_left] at hm; exact hm
    · exact mj_x_cl hm
  | return_ =>
    simp only [mj_ins] at hm ⊢
    split at hm
    · exact hm
    · exact hm.elim
  | ireturn =>
    simp only [mj_ins] at hm ⊢
    split at hm
    · split at hm
      · exact hm
      · obtain ⟨h1, x, h2⟩ := hm; exact ⟨x, h1, h2⟩
    · exact hm.elim
  | lreturn =>
    simp only [mj_ins] at hm ⊢
    split at hm
    · exact hm
    · exact hm.elim
  | areturn =>
    simp only [mj_ins] at hm ⊢
    split at hm
    · exact hm
    · exact hm.elim
  | _ => exact hm.elim
end MJX
/-! more at the end: more of the whole walk -/
section MJM
theorem mj_m_pI {s : List Value} {F G : Int32 → List Value → Prop} (h : ∀ x r, F x r → G x r) (hm : mj_pI s F) : mj_pI s G := by
  obtain ⟨x, r, rfl, q⟩ := mj_pI_e hm
  exact h _ _ q
theorem mj_m_pL {s : List Value} {F G : Int64 → List Value → Prop} (h : ∀ x r, F x r → G x r) (hm : mj_pL s F) : mj_pL s G := by
  obtain ⟨x, r, rfl, q⟩ := mj_pL_e hm
  exact h _ _ q
theorem mj_m_pR {s : List Value} {F G : Nat → List Value → Prop} (h : ∀ x r, F x r → G x r) (hm : mj_pR s F) : mj_pR s G := by
  obtain ⟨x, r, rfl, q⟩ := mj_pR_e hm
  exact h _ _ q
theorem mj_m_lI {l : mj_L} {n : Nat} {F G : Int32 → Prop} (h : ∀ x, F x → G x) (hm : mj_lI l n F) : mj_lI l n G := by
  unfold mj_lI at hm ⊢
  split at hm
  · exact h _ hm
  · exact hm.elim
theorem mj_m_lL {l : mj_L} {n : Nat} {F G : Int64 → Prop} (h : ∀ x, F x → G x) (hm : mj_lL l n F) : mj_lL l n G := by
  unfold mj_lL at hm ⊢
  split at hm
  · exact h _ hm
  · exact hm.elim
theorem mj_m_lR {l : mj_L} {n : Nat} {F G : Nat → Prop} (h : ∀ x, F x → G x) (hm : mj_lR l n F) : mj_lR l n G := by
  unfold mj_lR at hm ⊢
  split at hm
  · exact h _ hm
  · exact hm.elim
theorem mj_m_sh {S : mj_S} {q t : Nat} {F G : Nat → Prop} (h : ∀ x, F x → G x) (hm : mj_sh S q t F) : mj_sh S q t G := by
  unfold mj_sh at hm ⊢
  split at hm
  · split at hm
    · exact h _ hm
    · exact hm.elim
  · exact hm.elim
theorem mj_m_if {b : Bool} {F G : Prop} (h : F → G) (hm : mj_if b F) : mj_if b G := by
  cases b
  · exact hm
  · exact h hm
theorem mj_m_sw {d : Nat} {x : Int32} {F G : Nat → Prop} (h : ∀ x, F x → G x) : ∀ sw : List (Int32 × Nat), mj_sw sw d x F → mj_sw sw d x G
  | [], hm => h _ hm
  | q :: r, hm => by
    unfold mj_sw at hm ⊢
    by_cases e : x = q.1
    · rw [if_pos e] at hm ⊢; exact h _ hm
    · rw [if_neg e] at hm ⊢; exact mj_m_sw h r hm
theorem mj_m_rt {c : Nat} {v : Value} {r : List Value} {F G : List Value → Prop} (hk : ∀ x, F x → G x) (h : mj_rt c v r F) : mj_rt c v r G := by
  match c, h with
  | 0, h => exact ⟨h.1, hk _ h.2⟩
  | 1, h => obtain ⟨x, h1, h2⟩ := h; exact ⟨x, h1, hk _ h2⟩
  | 2, h => obtain ⟨x, h1, h2⟩ := h; exact ⟨x, h1, hk _ h2⟩
  | _ + 3, h => obtain ⟨x, h1, h2⟩ := h; exact ⟨x, h1, hk _ h2⟩
theorem mj_m_cl {S : mj_S} {cal cal' : Nat → List Value → mj_H → mj_R → Prop} {z n c d : Nat} {s : List Value} {h : mj_H} {k k' : List Value → mj_H → Prop} (hc : ∀ z as h r, cal z as h r → cal' z as h r) (hk : ∀ r h, k r h → k' r h) (hm : mj_cl S cal z n c d s h k) : mj_cl S cal' z n c d s h k' := by
  unfold mj_cl at hm ⊢
  refine mj_m_if (fun q => ?_) hm
  obtain ⟨h2, q, h3, h4⟩ := q
  exact ⟨h2, q, hc _ _ _ _ h3, mj_m_rt (fun _ => hk _ _) h4⟩
theorem mj_m_ite {c : Prop} [Decidable c] {A B A' B' : Prop} (ha : A → A') (hb : B → B') (hm : if c then A else B) : if c then A' else B' := by
  by_cases h : c
  · rw [if_pos h] at hm ⊢; exact ha hm
  · rw [if_neg h] at hm ⊢; exact hb hm
set_option maxHeartbeats 4000000 in
theorem mj_m_ins {S : mj_S} {cal cal' : Nat → List Value → mj_H → mj_R → Prop} {Q Q' : mj_R → Prop} {jmp jmp' : Nat → mj_K} {i : Jvm.ClassFile.Instr} {a b c d : Nat} {v : Int32} {w : Int64} {sw : List (Int32 × Nat)} {l : mj_L} {s : List Value} {h : mj_H} {k k' : mj_K}
    (hc : ∀ z as h r, cal z as h r → cal' z as h r) (hQ : ∀ r, Q r → Q' r) (hj : ∀ t l s h, jmp t l s h → jmp' t l s h) (hk : ∀ l s h, k l s h → k' l s h)
    (hm : mj_ins S cal Q jmp i a b c d v w sw l s h k) : mj_ins S cal' Q' jmp' i a b c d v w sw l s h k' := by
  cases i with
  | iconst _ => exact hk _ _ _ hm
  | bipush _ => exact hk _ _ _ hm
  | sipush _ => exact hk _ _ _ hm
  | ldc _ => exact hk _ _ _ hm
  | ldc_w _ => exact hk _ _ _ hm
  | lconst _ => exact hk _ _ _ hm
  | ldc2_w _ => exact hk _ _ _ hm
  | iload_n n => exact mj_m_lI (fun _ => hk _ _ _) hm
  | iload n => exact mj_m_lI (fun _ => hk _ _ _) hm
  | lload_n n => exact mj_m_lL (fun _ => hk _ _ _) hm
  | lload n => exact mj_m_lL (fun _ => hk _ _ _) hm
  | aload_n n => exact mj_m_lR (fun _ => hk _ _ _) hm
  | aload n => exact mj_m_lR (fun _ => hk _ _ _) hm
  | istore_n n => exact mj_m_pI (fun _ _ => hk _ _ _) hm
  | istore n => exact mj_m_pI (fun _ _ => hk _ _ _) hm
  | lstore_n n => exact mj_m_pL (fun _ _ => hk _ _ _) hm
  | lstore n => exact mj_m_pL (fun _ _ => hk _ _ _) hm
  | astore_n n => exact mj_m_pR (fun _ _ => hk _ _ _) hm
  | astore n => exact mj_m_pR (fun _ _ => hk _ _ _) hm
  | iinc n _ => exact mj_m_lI (fun _ => hk _ _ _) hm
  | iadd => exact mj_m_pI (fun _ _ => mj_m_pI (fun _ _ => hk _ _ _)) hm
  | isub => exact mj_m_pI (fun _ _ => mj_m_pI (fun _ _ => hk _ _ _)) hm
  | imul => exact mj_m_pI (fun _ _ => mj_m_pI (fun _ _ => hk _ _ _)) hm
  | iand => exact mj_m_pI (fun _ _ => mj_m_pI (fun _ _ => hk _ _ _)) hm
  | ior => exact mj_m_pI (fun _ _ => mj_m_pI (fun _ _ => hk _ _ _)) hm
  | ixor => exact mj_m_pI (fun _ _ => mj_m_pI (fun _ _ => hk _ _ _)) hm
  | idiv => exact mj_m_pI (fun _ _ => mj_m_pI (fun _ _ q => ⟨q.1, hk _ _ _ q.2⟩)) hm
  | irem => exact mj_m_pI (fun _ _ => mj_m_pI (fun _ _ q => ⟨q.1, hk _ _ _ q.2⟩)) hm
  | ineg => exact mj_m_pI (fun _ _ => hk _ _ _) hm
  | ishl => exact mj_m_pI (fun _ _ => mj_m_pI (fun _ _ => hk _ _ _)) hm
  | ishr => exact mj_m_pI (fun _ _ => mj_m_pI (fun _ _ => hk _ _ _)) hm
  | iushr => exact mj_m_pI (fun _ _ => mj_m_pI (fun _ _ => hk _ _ _)) hm
  | ladd => exact mj_m_pL (fun _ _ => mj_m_pL (fun _ _ => hk _ _ _)) hm
  | lsub => exact mj_m_pL (fun _ _ => mj_m_pL (fun _ _ => hk _ _ _)) hm
  | lmul => exact mj_m_pL (fun _ _ => mj_m_pL (fun _ _ => hk _ _ _)) hm
  | land => exact mj_m_pL (fun _ _ => mj_m_pL (fun _ _ => hk _ _ _)) hm
  | lor => exact mj_m_pL (fun _ _ => mj_m_pL (fun _ _ => hk _ _ _)) hm
  | lxor => exact mj_m_pL (fun _ _ => mj_m_pL (fun _ _ => hk _ _ _)) hm
  | ldiv => exact mj_m_pL (fun _ _ => mj_m_pL (fun _ _ q => ⟨q.1, hk _ _ _ q.2⟩)) hm
  | lrem => exact mj_m_pL (fun _ _ => mj_m_pL (fun _ _ q => ⟨q.1, hk _ _ _ q.2⟩)) hm
  | lneg => exact mj_m_pL (fun _ _ => hk _ _ _) hm
  | lshl => exact mj_m_pI (fun _ _ => mj_m_pL (fun _ _ => hk _ _ _)) hm
  | lshr => exact mj_m_pI (fun _ _ => mj_m_pL (fun _ _ => hk _ _ _)) hm
  | lushr => exact mj_m_pI (fun _ _ => mj_m_pL (fun _ _ => hk _ _ _)) hm
  | lcmp => exact mj_m_pL (fun _ _ => mj_m_pL (fun _ _ => hk _ _ _)) hm
  | i2l => exact mj_m_pI (fun _ _ => hk _ _ _) hm
  | l2i => exact mj_m_pL (fun _ _ => hk _ _ _) hm
  | dup =>
    simp only [mj_ins] at hm ⊢
    split at hm
    · exact hk _ _ _ hm
    · exact hk _ _ _ hm
    · exact hm.elim
  | dup2 => exact mj_m_pI (fun _ _ => mj_m_pR (fun _ _ => hk _ _ _)) hm
  | getfield _ =>
    refine mj_m_pR (fun _ _ => mj_m_sh (fun _ => mj_m_if (fun q => ?_))) hm
    split at q
    · exact hk _ _ _ q
    · exact hk _ _ _ q
    · exact hk _ _ _ q
  | putfield _ =>
    simp only [mj_ins] at hm ⊢
    split at hm
    · exact mj_m_pL (fun _ _ => mj_m_pR (fun _ _ => mj_m_sh (fun _ => mj_m_if (hk _ _ _)))) hm
    · exact mj_m_pR (fun _ _ => mj_m_pR (fun _ _ => mj_m_sh (fun _ => mj_m_if (hk _ _ _)))) hm
    · exact mj_m_pI (fun _ _ => mj_m_pR (fun _ _ => mj_m_sh (fun _ => mj_m_if (fun q => ⟨q.1, hk _ _ _ q.2⟩)))) hm
    · exact mj_m_pI (fun _ _ => mj_m_pR (fun _ _ => mj_m_sh (fun _ => mj_m_if (hk _ _ _)))) hm
  | iaload => exact mj_m_pI (fun _ _ => mj_m_pR (fun _ _ => mj_m_sh (fun _ q => ⟨q.1, hk _ _ _ q.2⟩))) hm
  | laload => exact mj_m_pI (fun _ _ => mj_m_pR (fun _ _ => mj_m_sh (fun _ q => ⟨q.1, hk _ _ _ q.2⟩))) hm
  | baload => exact mj_m_pI (fun _ _ => mj_m_pR (fun _ _ => mj_m_sh (fun _ q => ⟨q.1, hk _ _ _ q.2⟩))) hm
  | iastore => exact mj_m_pI (fun _ _ => mj_m_pI (fun _ _ => mj_m_pR (fun _ _ => mj_m_sh (fun _ q => ⟨q.1, hk _ _ _ q.2⟩)))) hm
  | lastore => exact mj_m_pL (fun _ _ => mj_m_pI (fun _ _ => mj_m_pR (fun _ _ => mj_m_sh (fun _ q => ⟨q.1, hk _ _ _ q.2⟩)))) hm
  | bastore => exact mj_m_pI (fun _ _ => mj_m_pI (fun _ _ => mj_m_pR (fun _ _ => mj_m_sh (fun _ q => ⟨q.1, hk _ _ _ q.2⟩)))) hm
  | goto _ => exact hj _ _ _ _ hm
  | ifCond o _ =>
    refine mj_m_pI (fun _ _ q => ?_) hm
    cases o <;> exact mj_m_ite (by first | exact hj _ _ _ _ | exact hk _ _ _) (by first | exact hj _ _ _ _ | exact hk _ _ _) q
  | if_icmp o _ =>
    refine mj_m_pI (fun _ _ => mj_m_pI (fun _ _ q => ?_)) hm
    cases o <;> exact mj_m_ite (by first | exact hj _ _ _ _ | exact hk _ _ _) (by first | exact hj _ _ _ _ | exact hk _ _ _) q
  | tableswitch _ _ _ _ => exact mj_m_pI (fun _ _ => mj_m_sw (fun _ => hj _ _ _ _) _) hm
  | lookupswitch _ _ => exact mj_m_pI (fun _ _ => mj_m_sw (fun _ => hj _ _ _ _) _) hm
  | invokevirtual _ => exact mj_m_cl hc (fun _ _ => hk _ _ _) hm
  | invokestatic _ =>
    simp only [mj_ins] at hm ⊢
    split at hm
    · exact mj_m_pI (fun _ _ => mj_m_pI (fun _ _ => mj_m_pR (fun _ _ => mj_m_pI (fun _ _ => mj_m_pR (fun _ _ => mj_m_sh (fun _ => mj_m_sh (fun _ q => ⟨q.1, mj_m_if (hk _ _ _) q.2⟩))))))) hm
    · exact mj_m_cl hc (fun _ _ => hk _ _ _) hm
  | return_ =>
    simp only [mj_ins] at hm ⊢
    split at hm
    · exact hQ _ hm
    · exact hm.elim
  | ireturn =>
    simp only [mj_ins] at hm ⊢
    split at hm
    · split at hm
      · exact hQ _ hm
      · exact ⟨hm.1, hQ _ hm.2⟩
    · exact hm.elim
  | lreturn =>
    simp only [mj_ins] at hm ⊢
    split at hm
    · exact hQ _ hm
    · exact hm.elim
  | areturn =>
    simp only [mj_ins] at hm ⊢
    split at hm
    · exact hQ _ hm
    · exact hm.elim
  | _ => exact hm.elim
theorem mj_m_bk {S : mj_S} {cal cal' : Nat → List Value → mj_H → mj_R → Prop} {Q Q' : mj_R → Prop} {jmp jmp' : Nat → mj_K}
    (hc : ∀ z as h r, cal z as h r → cal' z as h r) (hQ : ∀ r, Q r → Q' r) (hj : ∀ t l s h, jmp t l s h → jmp' t l s h) : ∀ (b : List mj_E) {pc : Nat} {l : mj_L} {s : List Value} {h : mj_H},
    mj_bk S cal Q jmp b pc l s h → mj_bk S cal' Q' jmp' b pc l s h
  | [], _, _, _, _, hm => hj _ _ _ _ hm
  | _ :: r, _, _, _, _, hm => mj_m_ins hc hQ hj (fun _ _ _ q => mj_m_bk hc hQ hj r q) hm
theorem mj_m_sg {S : mj_S} {C : mj_C} {cal cal' : Nat → List Value → mj_H → mj_R → Prop} {Q Q' : mj_R → Prop} {K K' : Nat → mj_K}
    (hc : ∀ z as h r, cal z as h r → cal' z as h r) (hQ : ∀ r, Q r → Q' r) (hK : ∀ t l s h, K t l s h → K' t l s h) : ∀ (m : Nat) {pc : Nat} {l : mj_L} {s : List Value} {h : mj_H},
    mj_sg S C cal Q K m pc l s h → mj_sg S C cal' Q' K' m pc l s h
  | 0, _, _, _, _, hm => hm.elim
  | m + 1, pc, l, s, h, hm => by
    unfold mj_sg at hm ⊢
    split at hm
    · exact hK _ _ _ _ hm
    · split at hm
      · exact mj_m_bk hc hQ (fun t l s h q => mj_m_sg hc hQ hK m q) _ hm
      · exact hm.elim
theorem mj_m_go {S : mj_S} {C : mj_C} {cal cal' : Nat → List Value → mj_H → mj_R → Prop} {Q Q' : mj_R → Prop} {K K' : Nat → mj_K}
    (hc : ∀ z as h r, cal z as h r → cal' z as h r) (hQ : ∀ r, Q r → Q' r) (hK : ∀ t l s h, K t l s h → K' t l s h) {pc : Nat} {l : mj_L} {s : List Value} {h : mj_H}
    (hm : mj_go S C cal Q K pc l s h) : mj_go S C cal' Q' K' pc l s h := by
  unfold mj_go at hm ⊢
  split at hm
  · exact mj_m_bk hc hQ (fun t l s h q => mj_m_sg hc hQ hK _ q) _ hm
  · exact hm.elim
theorem mj_m_rn {S : mj_S} {C : mj_C} {cal cal' : Nat → List Value → mj_H → mj_R → Prop} {Q Q' : mj_R → Prop}
    (hc : ∀ z as h r, cal z as h r → cal' z as h r) (hQ : ∀ r, Q r → Q' r) : ∀ (n : Nat) {pc : Nat} {l : mj_L} {s : List Value} {h : mj_H}, mj_rn S C cal Q n pc l s h → mj_rn S C cal' Q' n pc l s h
  | 0, _, _, _, _, hm => hm.elim
  | n + 1, _, _, _, _, hm => mj_m_go hc hQ (fun _ _ _ _ q => mj_m_rn hc hQ n q) hm
theorem mj_m_Ev {S : mj_S} {C : mj_C} {cal cal' : Nat → List Value → mj_H → mj_R → Prop} {Q Q' : mj_R → Prop}
    (hc : ∀ z as h r, cal z as h r → cal' z as h r) (hQ : ∀ r, Q r → Q' r) {pc : Nat} {l : mj_L} {s : List Value} {h : mj_H} (hm : mj_Ev S C cal Q pc l s h) : mj_Ev S C cal' Q' pc l s h := by
  obtain ⟨n, q⟩ := hm
  exact ⟨n, mj_m_rn hc hQ n q⟩
theorem mj_m_Cl {S : mj_S} {CD : Nat → mj_C} : ∀ (D : Nat) {z : Nat} {as : List Value} {h : mj_H} {r : mj_R}, mj_Cl S CD D z as h r → mj_Cl S CD (D + 1) z as h r
  | 0, _, _, _, _, hm => hm.elim
  | D + 1, z, as, h, r, hm => by
    have hc : ∀ z as h r, mj_Cl S CD D z as h r → mj_Cl S CD (D + 1) z as h r := fun _ _ _ _ q => mj_m_Cl D q
    have h2 : mj_if (Nat.ble (mj_sz as) (CD z).2.2) (mj_sg S (CD z) (mj_Cl S CD D) (fun x => x = r) (mj_Ev S (CD z) (mj_Cl S CD D) (fun x => x = r)) 100 0 (mj_a0 0 as) [] h) := hm
    exact mj_m_if (fun q => mj_m_sg hc (fun _ q => q) (fun _ _ _ _ q => mj_m_Ev hc (fun _ q => q) q) 100 q) h2
theorem mj_Cl_le {S : mj_S} {CD : Nat → mj_C} {D E : Nat} (hle : D ≤ E) {z : Nat} {as : List Value} {h : mj_H} {r : mj_R} (hm : mj_Cl S CD D z as h r) : mj_Cl S CD E z as h r := by
  induction hle with
  | refl => exact hm
  | step _ ih => exact mj_m_Cl _ ih
end MJM
section MJX2
variable {ι : Type}
theorem mj_x_bk {S : mj_S} {cal : Nat → List Value → mj_H → mj_R → Prop} {Q : ι → mj_R → Prop} {jmp : ι → Nat → mj_K} : ∀ (b : List mj_E) {pc : Nat} {l : mj_L} {s : List Value} {h : mj_H},
    mj_bk S cal (fun r => ∃ x, Q x r) (fun t l s h => ∃ x, jmp x t l s h) b pc l s h → ∃ x, mj_bk S cal (Q x) (jmp x) b pc l s h
  | [], _, _, _, _, hm => hm
  | _ :: r, _, _, _, _, hm => mj_x_ins (mj_m_ins (fun _ _ _ _ q => q) (fun _ q => q) (fun _ _ _ _ q => q) (fun _ _ _ q => mj_x_bk r q) hm)
theorem mj_x_sg {S : mj_S} {C : mj_C} {cal : Nat → List Value → mj_H → mj_R → Prop} {Q : ι → mj_R → Prop} {K : ι → Nat → mj_K} : ∀ (m : Nat) {pc : Nat} {l : mj_L} {s : List Value} {h : mj_H},
    mj_sg S C cal (fun r => ∃ x, Q x r) (fun t l s h => ∃ x, K x t l s h) m pc l s h → ∃ x, mj_sg S C cal (Q x) (K x) m pc l s h
  | 0, _, _, _, _, hm => hm.elim
  | m + 1, pc, l, s, h, hm => by
    unfold mj_sg at hm ⊢
    split at hm
    · exact hm
    · split at hm
      · exact mj_x_bk _ (mj_m_bk (fun _ _ _ _ q => q) (fun _ q => q) (fun t l s h q => mj_x_sg m q) _ hm)
      · exact hm.elim
theorem mj_x_go {S : mj_S} {C : mj_C} {cal : Nat → List Value → mj_H → mj_R → Prop} {Q : ι → mj_R → Prop} {K : ι → Nat → mj_K} {pc : Nat} {l : mj_L} {s : List Value} {h : mj_H}
    (hm : mj_go S C cal (fun r => ∃ x, Q x r) (fun t l s h => ∃ x, K x t l s h) pc l s h) : ∃ x, mj_go S C cal (Q x) (K x) pc l s h := by
  unfold mj_go at hm ⊢
  split at hm
  · exact mj_x_bk _ (mj_m_bk (fun _ _ _ _ q => q) (fun _ q => q) (fun t l s h q => mj_x_sg _ q) _ hm)
  · exact hm.elim
theorem mj_x_rn {S : mj_S} {C : mj_C} {cal : Nat → List Value → mj_H → mj_R → Prop} {Q : ι → mj_R → Prop} : ∀ (n : Nat) {pc : Nat} {l : mj_L} {s : List Value} {h : mj_H},
    mj_rn S C cal (fun r => ∃ x, Q x r) n pc l s h → ∃ x, mj_rn S C cal (Q x) n pc l s h
  | 0, _, _, _, _, hm => hm.elim
  | n + 1, _, _, _, _, hm => mj_x_go (K := fun x t l s h => mj_rn S C cal (Q x) n t l s h) (mj_m_go (fun _ _ _ _ q => q) (fun _ q => q) (fun _ _ _ _ q => mj_x_rn n q) hm)
theorem mj_x_Ev {S : mj_S} {C : mj_C} {cal : Nat → List Value → mj_H → mj_R → Prop} {Q : ι → mj_R → Prop} {pc : Nat} {l : mj_L} {s : List Value} {h : mj_H}
    (hm : mj_Ev S C cal (fun r => ∃ x, Q x r) pc l s h) : ∃ x, mj_Ev S C cal (Q x) pc l s h := by
  obtain ⟨n, q⟩ := hm
  obtain ⟨x, q⟩ := mj_x_rn n q
  exact ⟨x, n, q⟩
end MJX2
/-- on from a pc: what the walk comes to may be shown for each of the places where it halts -/
theorem mj_on {S : mj_S} {C : mj_C} {cal : Nat → List Value → mj_H → mj_R → Prop} {Q : mj_R → Prop} {pc : Nat} {l : mj_L} {s : List Value} {h : mj_H}
    (hm : mj_go S C cal Q (mj_Ev S C cal Q) pc l s h) : mj_Ev S C cal Q pc l s h := by
  have h2 : mj_go S C cal (fun r => ∃ _ : Nat, Q r) (fun t l s h => ∃ n, mj_rn S C cal Q n t l s h) pc l s h := mj_m_go (fun _ _ _ _ q => q) (fun _ q => ⟨0, q⟩) (fun _ _ _ _ q => q) hm
  obtain ⟨n, q⟩ := mj_x_go (Q := fun _ => Q) (K := fun n t l s h => mj_rn S C cal Q n t l s h) h2
  exact ⟨n + 1, q⟩
/-- a method from its entry, for any wish Q of its answer -/
theorem mj_call {S : mj_S} {CD : Nat → mj_C} {D z : Nat} {as : List Value} {h : mj_H} {Q : mj_R → Prop}
    (hm : mj_if (Nat.ble (mj_sz as) (CD z).2.2) (mj_sg S (CD z) (mj_Cl S CD D) Q (mj_Ev S (CD z) (mj_Cl S CD D) Q) 100 0 (mj_a0 0 as) [] h)) : ∃ r, Q r ∧ mj_Cl S CD (D + 1) z as h r := by
  obtain ⟨hz, hm⟩ := mj_if_e hm
  have h2 : mj_sg S (CD z) (mj_Cl S CD D) (fun r => ∃ x : { r : mj_R // Q r }, r = x.1) (fun t l s h => ∃ x : { r : mj_R // Q r }, mj_Ev S (CD z) (mj_Cl S CD D) (fun r => r = x.1) t l s h) 100 0 (mj_a0 0 as) [] h :=
    mj_m_sg (fun _ _ _ _ q => q) (fun r q => ⟨⟨r, q⟩, rfl⟩) (fun _ _ _ _ q => mj_x_Ev (Q := fun (x : { r : mj_R // Q r }) r => r = x.1) (mj_m_Ev (fun _ _ _ _ q => q) (fun r q => ⟨⟨r, q⟩, rfl⟩) q)) 100 hm
  obtain ⟨⟨r, hr⟩, q⟩ := mj_x_sg (Q := fun (x : { r : mj_R // Q r }) r => r = x.1) (K := fun (x : { r : mj_R // Q r }) t l s h => mj_Ev S (CD z) (mj_Cl S CD D) (fun r => r = x.1) t l s h) 100 h2
  have h3 : mj_if (Nat.ble (mj_sz as) (CD z).2.2) (mj_sg S (CD z) (mj_Cl S CD D) (fun x => x = r) (mj_Ev S (CD z) (mj_Cl S CD D) (fun x => x = r)) 100 0 (mj_a0 0 as) [] h) := by
    rw [hz]
    exact q
  exact ⟨r, hr, h3⟩
end
section
/-! THE SMALL MACHINE'S WORLD on the real heap, and what is to be checked of a code table -/
abbrev mj_M : Type := MethodName × ByteArray × Nat × Option FieldType
def mj_tr (ad : Nat → Nat) : Value → Value
  | .ref q => .ref (ad q)
  | v => v
def mj_tl (ad : Nat → Nat) (L : mj_L) : List (Nat × Value) := L.map (fun q => (q.1, mj_tr ad q.2))
def mj_rv (ad : Nat → Nat) : Value → Option Value
  | .null => none
  | v => some (mj_tr ad v)
/-- a field's kind: 0 int, 1 long, 2 a cell, 3 boolean -/
def mj_tc : FieldType → Nat
  | .int => 0
  | .long => 1
  | .object _ => 2
  | .array _ => 2
  | .boolean => 3
  | _ => 9
def mj_fv (ad : Nat → Nat) (h : mj_H) (q k : Nat) : Nat → Value
  | 1 => .long (h.2.1 q k)
  | 2 => .ref (ad (h.2.2 q k))
  | _ => .int (h.1 q k)
def mj_ce (TY : Nat → Nat → FieldType) (T3 : Nat × Nat × Nat) (ad : Nat → Nat) (h : mj_H) (q : Nat) : Nat × Nat → va_E
  | (0, n) => .inl (T3.1, n, .inl (h.1 q))
  | (1, n) => .inl (T3.2.1, n, .inr (.inl (h.2.1 q)))
  | (2, n) => .inl (T3.2.2, n, .inl (h.1 q))
  | (t + 3, n) => .inr (t, (List.range n).map (fun k => mj_fv ad h q k (mj_tc (TY t k))))
def mj_W (S : mj_S) (TY : Nat → Nat → FieldType) (T3 : Nat × Nat × Nat) (ad : Nat → Nat) (h : mj_H) : va_W :=
  (List.range S.length).map (fun q => (ad q, mj_ce TY T3 ad h q (S.getD q (0, 0))))
def mj_A (ad : Nat → Nat) (n sz : Nat) : Nat → Prop := fun q => (∃ k, k < n ∧ q = ad k) ∨ sz ≤ q
def mj_tys (T3 : Nat × Nat × Nat) : List (ClassId × FieldType) := [(T3.1, .int), (T3.2.1, .long), (T3.2.2, .boolean)]
def mj_nest : Cond → Bool
  | .fieldLinkNest _ _ _ _ _ _ => true
  | .methodLinkNest _ _ _ _ => true
  | _ => false
def mj_floatDescs : List String := ["(D)D", "(DD)D", "(DDD)D", "(F)F", "(FF)F", "(FFF)F"]
theorem mj_mathRows : (Jvm.natives.all fun r => r.cls != "java/lang/Math" || mj_floatDescs.contains r.desc) = true := by decide +kernel
theorem mj_mathPlain {x : MethodName} (hc : x.cls = "java/lang/Math") (hd : mj_floatDescs.contains x.desc = false) : plainFor x = true := by
  unfold plainFor
  rw [Bool.or_eq_true]; right
  rw [Option.isNone_iff_eq_none, NativeRow.find?, List.find?_eq_none]
  intro r hr h
  have := List.all_eq_true.mp mj_mathRows r hr
  simp only [Bool.and_eq_true, beq_iff_eq] at h
  rw [h.1.2, h.2, hc, hd] at this
  simp at this
/-- Met.ofW for a class of which no method of this name is the machine's own -/
theorem mj_ofW {l : Launch} {y : MethodName} {ws ws' : List Cond} {rm : Room} {Pc : Array Value → State → Prop} {Qc : Array Value → State → Outcome → State → Prop} {mc ms : Nat} {free : Addr → Prop} {cc : ByteArray} {maxL : Nat} {ret : Option FieldType}
    (hy : plainFor y = true) (hw : ws = Cond.code y cc maxL ret :: ws')
    (body : ∀ p e s m args below meth c s₁, BodyLoose p l y (headSpec ws rm) cc maxL ret e s m args below meth c s₁ → c.maxLocals = maxL → Pc args s →
      W p l e (headSpec ws rm).room s m args below meth c s.heap [] 0 0 (MQ below Qc args s mc ms free) (entryFrame m args maxL)) : Met l y ws rm Pc Qc mc ms free := by
  refine MetFree.of_bodySF (code := cc) (maxLocals := maxL) (ret := ret) hy ?_ ?_
  · intro args s m h hn
    obtain ⟨meth, c, h1, h2, h3, h4, h5, h6, -, -⟩ := Cond.code_spec hn (atoms_spec (ws := ws) h _ (by rw [hw]; exact List.mem_cons_self))
    exact ⟨meth, c, h1, h2, h3, h4, h5, h6⟩
  · intro p e s m args below meth c s₁ B hml hP _
    have hh0 : s₁.heap = s.heap := by rw [B.state]; rfl
    obtain ⟨t, a1, o, b1, b2, b3⟩ := body p e s m args below meth c s₁ B hml hP s₁ hh0 (Stand.of_body B)
    exact ⟨t, o, a1, b1, b2, ⟨b3.1, b3.2⟩⟩
-- what a table must keep
def mj_okF (TB : List Cond) (CL : List vw_C) (own : String) (x ci k : Nat) : Prop :=
  ∃ (C : String) (T : u_T) (N : Nat), CL[ci]? = some (C, T, N) ∧ k < N ∧ (Cond.fieldLink own x (T k).1 (T k).2.1 (T k).2.2.1 ∈ TB ∨ ∃ host : String, Cond.fieldLinkNest own x (T k).1 (T k).2.1 (T k).2.2.1 host ∈ TB)
def mj_okY (TB : List Cond) (y : mj_M) : Prop := Cond.code y.1 y.2.1 y.2.2.1 y.2.2.2 ∈ TB ∧ Cond.initialized y.1.cls ∈ TB ∧ y.2.2.1 ≤ 40 ∧ plainFor y.1 = true ∧ y.1.cls ≠ "java/lang/invoke/MethodHandle" ∧ y.1.cls ≠ "java/lang/invoke/VarHandle"
def mj_okV (TB : List Cond) (CL : List vw_C) (own : String) (x : Nat) (y : mj_M) (n d : Nat) : Prop :=
  (Cond.methodLink own x y.1 ∈ TB ∨ ∃ host : String, Cond.methodLinkNest own x y.1 host ∈ TB) ∧ Cond.instanceMethod y.1 ∈ TB ∧ Cond.selects y.1.cls y.1 y.1 ∈ TB ∧ (∃ (ci : Nat) (T : u_T) (N : Nat), d = ci + 1 ∧ CL[ci]? = some (y.1.cls, T, N)) ∧ (∃ k, n = k + 1 ∧ (parseMethodDescriptor y.1.desc).map (fun d => d.parameters.length) = some k) ∧ mj_okY TB y
def mj_okS (TB : List Cond) (own : String) (x : Nat) (y : mj_M) (n : Nat) : Prop :=
  (Cond.methodLink own x y.1 ∈ TB ∨ ∃ host : String, Cond.methodLinkNest own x y.1 host ∈ TB) ∧ Cond.static y.1 ∈ TB ∧ (parseMethodDescriptor y.1.desc).map (fun d => d.parameters.length) = some n ∧ mj_okY TB y
def mj_okC (TB : List Cond) (own : String) (x : Nat) : Prop := Cond.methodLink own x arraycopyName ∈ TB ∧ Cond.native arraycopyName ∈ TB ∧ Cond.static arraycopyName ∈ TB ∧ Cond.initialized "java/lang/System" ∈ TB
def mj_okI (TB : List Cond) (CL : List vw_C) (TY : Nat → Nat → FieldType) (MS : Nat → mj_M) (own : String) (nL : Nat) (rt : Option FieldType) (pc : Nat) (e : mj_E) : Prop :=
  match e.1, e.2.1, e.2.2.1.1, e.2.2.1.2.1, e.2.2.1.2.2.1, e.2.2.1.2.2.2, e.2.2.2.1, e.2.2.2.2.1, e.2.2.2.2.2 with
  | .iconst n, len, _, _, _, _, v, _, _ => len = 1 ∧ Int32.ofInt n = v
  | .bipush n, len, _, _, _, _, v, _, _ => len = 2 ∧ (Int8.ofInt n).toInt32 = v
  | .sipush n, len, _, _, _, _, v, _, _ => len = 3 ∧ (Int16.ofInt n).toInt32 = v
  | .ldc x, len, _, _, _, _, v, _, _ => len = 2 ∧ Cond.constant own x v ∈ TB
  | .ldc_w x, len, _, _, _, _, v, _, _ => len = 3 ∧ Cond.constant own x v ∈ TB
  | .lconst n, len, _, _, _, _, _, w, _ => len = 1 ∧ Int64.ofNat n.val = w
  | .ldc2_w x, len, _, _, _, _, _, w, _ => len = 3 ∧ Cond.constantLong own x w ∈ TB
  | .iload _, len, _, _, _, _, _, _, _ => len = 2
  | .lload _, len, _, _, _, _, _, _, _ => len = 2
  | .aload _, len, _, _, _, _, _, _, _ => len = 2
  | .istore_n n, len, _, _, _, _, _, _, _ => len = 1 ∧ n.val < nL
  | .astore_n n, len, _, _, _, _, _, _, _ => len = 1 ∧ n.val < nL
  | .lstore_n n, len, _, _, _, _, _, _, _ => len = 1 ∧ n.val + 1 < nL
  | .istore n, len, _, _, _, _, _, _, _ => len = 2 ∧ n < nL
  | .astore n, len, _, _, _, _, _, _, _ => len = 2 ∧ n < nL
  | .lstore n, len, _, _, _, _, _, _, _ => len = 2 ∧ n + 1 < nL
  | .iinc n x, len, _, _, _, _, v, _, _ => len = 3 ∧ n < nL ∧ Int32.ofInt x = v
  | .getfield x, len, a, b, c, _, _, _, _ => len = 3 ∧ mj_okF TB CL own x a b ∧ mj_tc (TY a b) = c
  | .putfield x, len, a, b, c, _, _, _, _ => len = 3 ∧ mj_okF TB CL own x a b ∧ mj_tc (TY a b) = c ∧ c < 4 ∧ (∃ q, CL[a]? = some q ∧ (q.2.1 b).2.2.2 = false)
  | .goto off, len, a, _, _, _, _, _, _ => len = 3 ∧ (pc : Int) + off = (a : Int)
  | .ifCond _ off, len, a, _, _, _, _, _, _ => len = 3 ∧ (pc : Int) + off = (a : Int)
  | .if_icmp _ off, len, a, _, _, _, _, _, _ => len = 3 ∧ (pc : Int) + off = (a : Int)
  | .tableswitch df lo hi offs, _, a, _, _, _, _, _, sw => (pc : Int) + df = (a : Int) ∧ lo + sw.length = hi + 1 ∧ ∀ k, k < sw.length → (sw.getD k (0, 0)).1.toInt = lo + k ∧ offs[k]? = some (((sw.getD k (0, 0)).2 : Int) - pc)
  | .lookupswitch df ps, _, a, _, _, _, _, _, sw => (pc : Int) + df = (a : Int) ∧ (ps.toList.zip (ps.toList.drop 1)).all (fun (a, next) => a.1 < next.1) = true ∧ ps.toList = sw.map (fun q => (q.1.toInt, (q.2 : Int) - pc))
  | .invokevirtual x, len, a, b, _, d, _, _, _ => len = 3 ∧ mj_okV TB CL own x (MS a) b d
  | .invokestatic x, len, a, b, _, _, _, _, _ => len = 3 ∧ ((a = 999 ∧ mj_okC TB own x) ∨ (a ≠ 999 ∧ mj_okS TB own x (MS a) b))
  | .ireturn, len, a, _, _, _, _, _, _ => len = 1 ∧ rt = some (match a with | 0 => .int | _ => .boolean)
  | .lreturn, len, _, _, _, _, _, _, _ => len = 1 ∧ rt = some .long
  | .areturn, len, _, _, _, _, _, _, _ => len = 1 ∧ ∃ n, rt = some (.object n)
  | .return_, len, _, _, _, _, _, _, _ => len = 1 ∧ rt = none
  | _, len, _, _, _, _, _, _, _ => len = 1
/-- every instruction of a block, from its pc on -/
def mj_okB (TB : List Cond) (CL : List vw_C) (TY : Nat → Nat → FieldType) (MS : Nat → mj_M) (own : String) (cc : ByteArray) (nL : Nat) (rt : Option FieldType) : List mj_E → Nat → Prop
  | [], _ => True
  | e :: r, pc => (decode cc pc = .ok (e.1, e.2.1) ∧ mj_okI TB CL TY MS own nL rt pc e) ∧ mj_okB TB CL TY MS own cc nL rt r (pc + e.2.1)
def mj_okM (TB : List Cond) (CL : List vw_C) (TY : Nat → Nat → FieldType) (MS : Nat → mj_M) (y : mj_M) (C : mj_C) : Prop :=
  mj_okY TB y ∧ C.2.2 = y.2.2.1 ∧ ∀ b ∈ C.1, mj_okB TB CL TY MS y.1.cls y.2.1 y.2.2.1 y.2.2.2 b.2 b.1
-- small facts
theorem mj_sub {ls : Array Slot} {n : Nat} {l l' : List (Nat × Value)} (h : lv_has ls n l) (hs : ∀ q ∈ l', q ∈ l) : lv_has ls n l' := ⟨h.1, h.2.1, fun q hq => h.2.2 q (hs q hq)⟩
theorem mj_tl_mem {ad : Nat → Nat} {L : mj_L} {i : Nat} {v : Value} (h : (i, v) ∈ L) : (i, mj_tr ad v) ∈ mj_tl ad L := List.mem_map.mpr ⟨(i, v), h, rfl⟩
theorem mj_at {ls : Array Slot} {n : Nat} {ad : Nat → Nat} {L : mj_L} (h : lv_has ls n (mj_tl ad L)) {i : Nat} {v : Value} (hv : (i, v) ∈ L) : ls[i]? = some (.val (mj_tr ad v)) := h.2.2 (i, mj_tr ad v) (mj_tl_mem hv)
theorem mj_cat (ad : Nat → Nat) (v : Value) : (mj_tr ad v).category = v.category := by cases v <;> rfl
theorem mj_sz_eq (ad : Nat → Nat) : ∀ s : List Value, ((s.map (mj_tr ad)).map fun v => v.category).sum = mj_sz s
  | [] => rfl
  | v :: r => by
    simp only [List.map_cons, List.sum_cons, mj_sz, mj_cat]
    rw [mj_sz_eq ad r]
theorem mj_s1_has {ls : Array Slot} {nL i : Nat} {ad : Nat → Nat} {L : mj_L} {v : Value} (h : lv_has ls nL ((i, mj_tr ad v) :: (mj_tl ad L).filter (fun q => !(q.1 == i) && !(q.1 + 1 == i && q.2.category == 2)))) : lv_has ls nL (mj_tl ad (mj_s1 i v L)) := by
  refine mj_sub h fun q hq => ?_
  obtain ⟨x, hx, rfl⟩ := List.mem_map.mp hq
  rcases mj_in_e hx with rfl | hx
  · exact List.mem_cons_self
  · obtain ⟨h1, h2⟩ := List.mem_filter.mp hx
    refine List.mem_cons_of_mem _ (List.mem_filter.mpr ⟨mj_tl_mem h1, ?_⟩)
    simpa [mj_cat] using h2
theorem mj_s2_has {ls : Array Slot} {nL i : Nat} {ad : Nat → Nat} {L : mj_L} {v : Value} (h : lv_has ls nL ((i, mj_tr ad v) :: (mj_tl ad L).filter (fun q => !(q.1 == i) && (!(q.1 == i + 1) && !(q.1 + 1 == i && q.2.category == 2))))) : lv_has ls nL (mj_tl ad (mj_s2 i v L)) := by
  refine mj_sub h fun q hq => ?_
  obtain ⟨x, hx, rfl⟩ := List.mem_map.mp hq
  rcases mj_in_e hx with rfl | hx
  · exact List.mem_cons_self
  · obtain ⟨h1, h2⟩ := List.mem_filter.mp hx
    refine List.mem_cons_of_mem _ (List.mem_filter.mpr ⟨mj_tl_mem h1, ?_⟩)
    simpa [mj_cat] using h2
theorem mj_tm_has {ls : Array Slot} {nL : Nat} {ad : Nat → Nat} {L : mj_L} {ks : List Nat} (h : lv_has ls nL (mj_tl ad L)) : lv_has ls nL (mj_tl ad (mj_tm ks L)) := by
  refine mj_sub h fun q hq => ?_
  obtain ⟨x, hx, rfl⟩ := List.mem_map.mp hq
  exact List.mem_map.mpr ⟨x, (List.mem_filter.mp hx).1, rfl⟩
theorem mj_a0_eq (ad : Nat → Nat) : ∀ (vs : List Value) (i : Nat), lv_args i (vs.map (mj_tr ad)) = mj_tl ad (mj_a0 i vs)
  | [], _ => rfl
  | v :: vs, i => by
    show (i, mj_tr ad v) :: lv_args _ (vs.map (mj_tr ad)) = (i, mj_tr ad v) :: mj_tl ad (mj_a0 _ vs)
    rw [mj_cat, mj_a0_eq ad vs]
-- the world's cells
section MJW
variable {S : mj_S} {TY : Nat → Nat → FieldType} {T3 : Nat × Nat × Nat} {ad : Nat → Nat} {h h' : mj_H} {q n t : Nat}
theorem mj_W_at {z : Nat × Nat} (hq : S[q]? = some z) : (mj_W S TY T3 ad h)[q]? = some (ad q, mj_ce TY T3 ad h q z) := by
  have hl : q < S.length := (List.getElem?_eq_some_iff.mp hq).1
  have e : S.getD q (0, 0) = z := by simp [List.getD, hq]
  unfold mj_W
  rw [List.getElem?_map, List.getElem?_range hl]
  simp only [Option.map_some, e]
theorem mj_W_inv {e : Nat × va_E} (hq : (mj_W S TY T3 ad h)[q]? = some e) : q < S.length ∧ e = (ad q, mj_ce TY T3 ad h q (S.getD q (0, 0))) := by
  unfold mj_W at hq
  rw [List.getElem?_map] at hq
  cases h1 : (List.range S.length)[q]? with
  | none => rw [h1] at hq; cases hq
  | some j =>
    rw [h1] at hq
    obtain ⟨h2, h3⟩ := List.getElem?_eq_some_iff.mp h1
    simp only [List.length_range] at h2
    simp only [List.getElem_range] at h3
    subst h3
    simp only [Option.map_some, Option.some.injEq] at hq
    exact ⟨h2, hq.symm⟩
theorem mj_W_set {z : Nat × Nat} (hq : S[q]? = some z) (hk : ∀ k, k ≠ q → ∀ y, mj_ce TY T3 ad h' k y = mj_ce TY T3 ad h k y) : (mj_W S TY T3 ad h).set q (ad q, mj_ce TY T3 ad h' q z) = mj_W S TY T3 ad h' := by
  apply List.ext_getElem?
  intro k
  by_cases e : k = q
  · subst e
    rw [List.getElem?_set_self (by
      have := (List.getElem?_eq_some_iff.mp (mj_W_at (TY := TY) (T3 := T3) (ad := ad) (h := h) hq)).1
      exact this), mj_W_at hq]
  · rw [List.getElem?_set_ne (Ne.symm e)]
    unfold mj_W
    rw [List.getElem?_map, List.getElem?_map]
    cases h1 : (List.range S.length)[k]? with
    | none => rfl
    | some j =>
      obtain ⟨h2, h3⟩ := List.getElem?_eq_some_iff.mp h1
      simp only [List.getElem_range] at h3
      subst h3
      simp only [Option.map_some, hk _ e]
theorem mj_W_D {sz : Nat} (hinj : ∀ i j, i < S.length → j < S.length → ad i = ad j → i = j) : va_D (mj_A ad S.length sz) (mj_W S TY T3 ad h) := by
  refine ⟨fun i j x y hi hj e => ?_, fun k x hk => ?_⟩
  · obtain ⟨h1, rfl⟩ := mj_W_inv hi
    obtain ⟨h2, rfl⟩ := mj_W_inv hj
    exact hinj _ _ h1 h2 e
  · obtain ⟨h1, rfl⟩ := mj_W_inv hk
    exact Or.inl ⟨k, h1, rfl⟩
theorem mj_ce_up1 {k j : Nat} {x : Int32} (hk : k ≠ q) (y : Nat × Nat) : mj_ce TY T3 ad (mj_up h.1 q j x, h.2.1, h.2.2) k y = mj_ce TY T3 ad h k y := by
  have e : (mj_up h.1 q j x) k = h.1 k := by funext i; simp [mj_up, hk]
  obtain ⟨t, n⟩ := y
  match t with
  | 0 => simp only [mj_ce, e]
  | 1 => rfl
  | 2 => simp only [mj_ce, e]
  | t + 3 =>
    simp only [mj_ce, Sum.inr.injEq, Prod.mk.injEq, true_and]
    refine List.map_congr_left fun i _ => ?_
    unfold mj_fv
    split
    · rfl
    · rfl
    · simp only [e]
theorem mj_ce_up2 {k j : Nat} {x : Int64} (hk : k ≠ q) (y : Nat × Nat) : mj_ce TY T3 ad (h.1, mj_up h.2.1 q j x, h.2.2) k y = mj_ce TY T3 ad h k y := by
  have e : (mj_up h.2.1 q j x) k = h.2.1 k := by funext i; simp [mj_up, hk]
  obtain ⟨t, n⟩ := y
  match t with
  | 0 => rfl
  | 1 => simp only [mj_ce, e]
  | 2 => rfl
  | t + 3 =>
    simp only [mj_ce, Sum.inr.injEq, Prod.mk.injEq, true_and]
    refine List.map_congr_left fun i _ => ?_
    unfold mj_fv
    split
    · simp only [e]
    · rfl
    · rfl
theorem mj_ce_up3 {k j : Nat} {x : Nat} (hk : k ≠ q) (y : Nat × Nat) : mj_ce TY T3 ad (h.1, h.2.1, mj_up h.2.2 q j x) k y = mj_ce TY T3 ad h k y := by
  have e : (mj_up h.2.2 q j x) k = h.2.2 k := by funext i; simp [mj_up, hk]
  obtain ⟨t, n⟩ := y
  match t with
  | 0 => rfl
  | 1 => rfl
  | 2 => rfl
  | t + 3 =>
    simp only [mj_ce, Sum.inr.injEq, Prod.mk.injEq, true_and]
    refine List.map_congr_left fun i _ => ?_
    unfold mj_fv
    split
    · rfl
    · simp only [e]
    · rfl
theorem mj_fs_at {f : Nat → Value} {b : Nat} (hb : b < n) : ((List.range n).map f)[b]? = some (f b) := by
  rw [List.getElem?_map, List.getElem?_range hb]
  rfl
theorem mj_fs_set {f g : Nat → Value} {b : Nat} {v : Value} (hv : g b = v) (hk : ∀ k, k ≠ b → g k = f k) : ((List.range n).map f).set b v = (List.range n).map g := by
  apply List.ext_getElem?
  intro k
  by_cases e : k = b
  · subst e
    by_cases hl : k < n
    · rw [List.getElem?_set_self (by simpa using hl), mj_fs_at hl, hv]
    · rw [List.getElem?_eq_none (by simpa using Nat.le_of_not_lt hl), List.getElem?_eq_none (by simpa using Nat.le_of_not_lt hl)]
  · rw [List.getElem?_set_ne (Ne.symm e), List.getElem?_map, List.getElem?_map]
    cases h1 : (List.range n)[k]? with
    | none => rfl
    | some j =>
      obtain ⟨h2, h3⟩ := List.getElem?_eq_some_iff.mp h1
      simp only [List.getElem_range] at h3
      subst h3
      simp only [Option.map_some, hk _ e]
end MJW
end
section
/-! SOUNDNESS: what the small machine comes to, the method comes to -/
def mj_Pc (TB : List Cond) (CL : List vw_C) (TY : Nat → Nat → FieldType) (S : mj_S) (Dg : va_G) (T3 : Nat × Nat × Nat) (ad : Nat → Nat) (as : List Value) (h : mj_H) (sz : Nat) : Array Value → State → Prop :=
  va_Pc (as.map (mj_tr ad)) (fun U => U.heap.size = sz ∧ va_P Dg CL (mj_W S TY T3 ad h) U.heap ∧ va_K Dg CL (mj_tys T3) U ∧ ∀ w ∈ TB, mj_nest w = true → va_Nw w U)
def mj_Qc (CL : List vw_C) (TY : Nat → Nat → FieldType) (S : mj_S) (Dg : va_G) (T3 : Nat × Nat × Nat) (ad : Nat → Nat) (r : mj_R) (sz : Nat) : Array Value → State → Outcome → State → Prop :=
  fun _ st oc t => oc = .returned (mj_rv ad r.1) ∧ va_P Dg CL (mj_W S TY T3 ad r.2) t.heap ∧ va_F (mj_A ad S.length sz) st t
def mj_ws (TB : List Cond) (y : mj_M) : List Cond := Cond.code y.1 y.2.1 y.2.2.1 y.2.2.2 :: TB.filter goodWord
def mj_rm (D : Nat) : Room := { frames := D, cells := 0, slots := 0, locals := 64 * D }
/-- the contract that the small machine's answer r is -/
def mj_Met (l : Launch) (TB : List Cond) (CL : List vw_C) (TY : Nat → Nat → FieldType) (S : mj_S) (Dg : va_G) (T3 : Nat × Nat × Nat) (ad : Nat → Nat) (D : Nat) (y : mj_M) (as : List Value) (h : mj_H) (r : mj_R) : Prop :=
  ∀ sz, Met l y.1 (mj_ws TB y) (mj_rm D) (mj_Pc TB CL TY S Dg T3 ad as h sz) (mj_Qc CL TY S Dg T3 ad r sz) 0 0 (mj_A ad S.length sz)
theorem mj_good_in {TB : List Cond} {w : Cond} (h : w ∈ TB) (hg : goodWord w = true) : w ∈ TB.filter goodWord := List.mem_filter.mpr ⟨h, hg⟩
theorem mj_nw {TB : List Cond} {s U : State} (hW : s.WarmedH U.vm) (h : ∀ w ∈ TB, mj_nest w = true → va_Nw w s) : ∀ w ∈ TB, mj_nest w = true → va_Nw w U := by
  intro w hw hn
  have h1 := h w hw hn
  cases w <;> first | exact va_Nw.warmF hW h1 | exact va_Nw.warmM hW h1 | exact absurd (show false = true from hn) (by decide)
theorem mj_goodIn {TB : List Cond} {y : mj_M} (h : mj_okY TB y) : GoodIn (TB.filter goodWord) (mj_ws TB y) := by
  intro w hw
  rcases List.mem_cons.mp hw with rfl | hw
  · exact ⟨mj_good_in h.1 rfl, good_of_word rfl⟩
  · exact ⟨hw, good_of_word (List.mem_filter.mp hw).2⟩
theorem mj_blind {TB : List Cond} {CL : List vw_C} {TY : Nat → Nat → FieldType} {S : mj_S} {Dg : va_G} {T3 : Nat × Nat × Nat} {ad : Nat → Nat} {as : List Value} {h : mj_H} {sz : Nat} : FrameBlind (mj_Pc TB CL TY S Dg T3 ad as h sz) := by
  intro a U g mk q
  obtain ⟨q0, q1, q2, q3, q4⟩ := q
  refine ⟨q0, q1, q2, va_K.moved (u := U) (U := U.calling g mk a) (Vm.Alike.refl U.vm) q3, fun w hw hn => ?_⟩
  have h1 := q4 w hw hn
  cases w <;> first | exact va_Nw.same (u := U) rfl rfl h1 | exact absurd (show false = true from hn) (by decide)
section MJS
variable {p : Program} {l : Launch} {e : Env} {s : State} {m : MethodId} {args : Array Value} {below : List Frame} {meth : Method} {c : Code}
variable {TB : List Cond} {CL : List vw_C} {TY : Nat → Nat → FieldType} {MS : Nat → mj_M} {S : mj_S} {Dg : va_G} {T3 : Nat × Nat × Nat} {ad : Nat → Nat} {cc : ByteArray} {nL D : Nat} {own : String} {rr : mj_R} {rt : Option FieldType}
/-- what holds all along a method's walk -/
def mj_Cx (p : Program) (s : State) (m : MethodId) (args : Array Value) (meth : Method) (c : Code) (TB : List Cond) (CL : List vw_C) (S : mj_S) (Dg : va_G) (T3 : Nat × Nat × Nat) (ad : Nat → Nat) (cc : ByteArray) (nL : Nat) (own : String) (rt : Option FieldType) : Prop :=
  p.tables.exec = Jvm.exec ∧ c.code = cc ∧ c.maxLocals = nL ∧ s.vm.findClass own = some m.cls ∧ (∀ w ∈ TB.filter goodWord, w.before args s = true) ∧ va_K Dg CL (mj_tys T3) s ∧ (∀ w ∈ TB, mj_nest w = true → va_Nw w s) ∧ (∀ i j, i < S.length → j < S.length → ad i = ad j → i = j) ∧ meth.locks = false ∧ meth.sig.returnType = rt
/-- what the tables of classes keep -/
def mj_Cs (TB : List Cond) (CL : List vw_C) (TY : Nat → Nat → FieldType) (S : mj_S) : Prop :=
  (∀ (ci : Nat) (C : String) (T : u_T) (N : Nat), CL[ci]? = some (C, T, N) → (∀ w ∈ u_ws C T N, w ∈ TB) ∧ (∀ k, k < N → parseFieldDescriptor (T k).2.2.1 = some (TY ci k)) ∧ (∀ a, a < N → ∀ b, b < N → a ≠ b → (T a).2.1 ≠ (T b).2.1)) ∧
  (∀ (q t n : Nat), S[q]? = some (t + 3, n) → ∃ (C : String) (T : u_T), CL[t]? = some (C, T, n))
def mj_Go (p : Program) (l : Launch) (e : Env) (s : State) (m : MethodId) (args : Array Value) (below : List Frame) (meth : Method) (c : Code) (CL : List vw_C) (TY : Nat → Nat → FieldType) (S : mj_S) (Dg : va_G) (T3 : Nat × Nat × Nat) (ad : Nat → Nat) (nL D : Nat) (rr : mj_R) (pc : Nat) (L : mj_L) (st : List Value) (h : mj_H) : Prop :=
  ∀ (H : Heap) (locs : List Loc) (ls : Array Slot), va_P Dg CL (mj_W S TY T3 ad h) H → va_S (mj_A ad S.length s.heap.size) s.heap H locs → lv_has ls nL (mj_tl ad L) →
    W p l e (mj_rm D) s m args below meth c H locs 0 0 (MQ below (mj_Qc CL TY S Dg T3 ad rr s.heap.size) args s 0 0 (mj_A ad S.length s.heap.size)) (F0 m pc ls (st.map (mj_tr ad)))
theorem mj_lays {C : String} {T : u_T} {N : Nat} (h : ∀ w ∈ u_ws C T N, w ∈ TB) : ∀ w ∈ u_ws C T N, w ∈ TB.filter goodWord := by
  intro w hw
  refine mj_good_in (h w hw) ?_
  obtain ⟨k, -, rfl⟩ := List.mem_map.mp hw
  unfold u_lay
  split <;> rfl
theorem mj_getf (X : mj_Cx p s m args meth c TB CL S Dg T3 ad cc nL own rt) (Y : mj_Cs TB CL TY S) {x a b n q pc : Nat} {L : mj_L} {r : List Value} {h : mj_H} {u : Value}
    (hF : mj_okF TB CL own x a b) (hq : S[q]? = some (a + 3, n)) (hb : b < n) (hdg : decode cc pc = .ok (.getfield x, 3)) (hu : mj_tr ad u = mj_fv ad h q b (mj_tc (TY a b)))
    (k : mj_Go p l e s m args below meth c CL TY S Dg T3 ad nL D rr (pc + 3) L (u :: r) h) : mj_Go p l e s m args below meth c CL TY S Dg T3 ad nL D rr pc L (.ref q :: r) h := by
  intro H locs ls hP hS hl
  obtain ⟨hx, hbc, hml, hown, hts, hK, hN, hinj, -⟩ := X
  obtain ⟨C, T, N, hc, hbN, hlk⟩ := hF
  have hk := k H locs ls hP hS hl
  have he := mj_W_at (TY := TY) (T3 := T3) (ad := ad) (h := h) hq
  have hv : ((List.range n).map (fun k => mj_fv ad h q k (mj_tc (TY a k))))[b]? = some (mj_tr ad u) := by rw [hu]; exact mj_fs_at hb
  rcases hlk with hlk | ⟨host, hlk⟩
  · exact va_get hx hbc hts (mj_lays (Y.1 a C T N hc).1) hown hK hP q he hc b hbN (hts _ (mj_good_in hlk rfl)) (fun _ h9 => h9) hv hdg hk
  · exact va_getN hx hbc hts (mj_lays (Y.1 a C T N hc).1) hown hK hP q he hc b hbN (va_Nw.use rfl (hN _ hlk rfl)) (fun _ h9 => h9) hv hdg hk
theorem mj_putf (X : mj_Cx p s m args meth c TB CL S Dg T3 ad cc nL own rt) (Y : mj_Cs TB CL TY S) {x a b n q pc : Nat} {L : mj_L} {r : List Value} {h h' : mj_H} {u : Value}
    (hF : mj_okF TB CL own x a b) (hfin : ∃ q, CL[a]? = some q ∧ (q.2.1 b).2.2.2 = false) (hq : S[q]? = some (a + 3, n)) (hb : b < n) (hdg : decode cc pc = .ok (.putfield x, 3))
    (hnar : narrow (TY a b) (mj_tr ad u) = mj_tr ad u) (hfit : fits (TY a b) (mj_tr ad u) = true)
    (hu : ∀ k, mj_fv ad h' q k (mj_tc (TY a k)) = if k = b then mj_tr ad u else mj_fv ad h q k (mj_tc (TY a k))) (ho : ∀ k, k ≠ q → ∀ y, mj_ce TY T3 ad h' k y = mj_ce TY T3 ad h k y)
    (k : mj_Go p l e s m args below meth c CL TY S Dg T3 ad nL D rr (pc + 3) L r h') : mj_Go p l e s m args below meth c CL TY S Dg T3 ad nL D rr pc L (u :: .ref q :: r) h := by
  intro H locs ls hP hS hl
  obtain ⟨hx, hbc, hml, hown, hts, hK, hN, hinj, -⟩ := X
  obtain ⟨C, T, N, hc, hbN, hlk⟩ := hF
  obtain ⟨q9, hq9, hfin⟩ := hfin
  have e9 : q9 = (C, T, N) := Option.some.inj (hq9.symm.trans hc)
  subst e9
  have he := mj_W_at (TY := TY) (T3 := T3) (ad := ad) (h := h) hq
  have hD := mj_W_D (S := S) (TY := TY) (T3 := T3) (ad := ad) (h := h) (sz := s.heap.size) hinj
  have hlen : b < ((List.range n).map (fun k => mj_fv ad h q k (mj_tc (TY a k)))).length := by simpa using hb
  have hset : (mj_W S TY T3 ad h).set q (ad q, .inr (a, ((List.range n).map (fun k => mj_fv ad h q k (mj_tc (TY a k)))).set b (mj_tr ad u))) = mj_W S TY T3 ad h' := by
    rw [mj_fs_set (g := fun k => mj_fv ad h' q k (mj_tc (TY a k))) (by rw [hu b, if_pos rfl]) (fun k hk => by rw [hu k, if_neg hk])]
    exact mj_W_set (z := (a + 3, n)) hq ho
  have kk : ∀ (H1 : Heap) (locs1 : List Loc), va_P Dg CL ((mj_W S TY T3 ad h).set q (ad q, .inr (a, ((List.range n).map (fun k => mj_fv ad h q k (mj_tc (TY a k)))).set b (mj_tr ad u)))) H1 → va_D (mj_A ad S.length s.heap.size) ((mj_W S TY T3 ad h).set q (ad q, .inr (a, ((List.range n).map (fun k => mj_fv ad h q k (mj_tc (TY a k)))).set b (mj_tr ad u)))) → va_S (mj_A ad S.length s.heap.size) s.heap H1 locs1 → W p l e (mj_rm D) s m args below meth c H1 locs1 0 0 (MQ below (mj_Qc CL TY S Dg T3 ad rr s.heap.size) args s 0 0 (mj_A ad S.length s.heap.size)) (F0 m (pc + 3) ls (r.map (mj_tr ad))) :=
    fun H1 locs1 g1 g2 g3 => k H1 locs1 ls (hset ▸ g1) g3 hl
  rcases hlk with hlk | ⟨host, hlk⟩
  · exact va_put hx hbc hts (mj_lays (Y.1 a C T N hc).1) (TY a) (Y.1 a C T N hc).2.1 (Y.1 a C T N hc).2.2 hown hK hP hD hS q he hc b hbN (hts _ (mj_good_in hlk rfl)) (fun _ h9 => h9) hfin ((Y.1 a C T N hc).2.1 b hbN) hnar hfit hlen hdg kk
  · exact va_putN hx hbc hts (mj_lays (Y.1 a C T N hc).1) (TY a) (Y.1 a C T N hc).2.1 (Y.1 a C T N hc).2.2 hown hK hP hD hS q he hc b hbN (va_Nw.use rfl (hN _ hlk rfl)) (fun _ h9 => h9) hfin ((Y.1 a C T N hc).2.1 b hbN) hnar hfit hlen hdg kk
/-- behind a call -/
theorem mj_back {rc : mj_R} {H : Heap} {locs : List Loc} {pc : Nat} {ls : Array Slot} {st0 rest : List Value} {a : Array Value}
    (hr : va_Run p l e (mj_rm D) s m args below meth c H locs 0 0 0 0 (F0 m pc ls st0) rest (mj_Qc CL TY S Dg T3 ad rc H.size a) (mj_A ad S.length H.size)) (hS : va_S (mj_A ad S.length s.heap.size) s.heap H locs)
    (kk : ∀ (H1 : Heap) (locs1 : List Loc), va_P Dg CL (mj_W S TY T3 ad rc.2) H1 → va_S (mj_A ad S.length s.heap.size) s.heap H1 locs1 → W p l e (mj_rm D) s m args below meth c H1 locs1 0 0 (MQ below (mj_Qc CL TY S Dg T3 ad rr s.heap.size) args s 0 0 (mj_A ad S.length s.heap.size)) (F0 m (pc + 3) ls ((mj_rv ad rc.1).toList ++ rest))) :
    W p l e (mj_rm D) s m args below meth c H locs 0 0 (MQ below (mj_Qc CL TY S Dg T3 ad rr s.heap.size) args s 0 0 (mj_A ad S.length s.heap.size)) (F0 m pc ls st0) := by
  have hA : ∀ q, q < H.size → mj_A ad S.length H.size q → mj_A ad S.length s.heap.size q := by
    intro q hq h
    rcases h with h | h
    · exact Or.inl h
    · omega
  have hf : ∀ q, mj_A ad S.length H.size q → mj_A ad S.length s.heap.size q := by
    intro q h
    rcases h with h | h
    · exact Or.inl h
    · exact Or.inr (Nat.le_trans hS.1 h)
  intro T hT X
  obtain ⟨v, st₀, t, T', L, h0, X', hL, e1, e2, ⟨hv, hp, hz, hk⟩, st⟩ := hr T hT X
  cases hv
  rw [h0] at hz hk
  obtain ⟨t2, a1, b1⟩ := kk T'.heap (locs ++ L) (by rw [e1]; exact hp)
    ⟨Nat.le_trans hS.1 (by rw [e1]; exact hz), fun q h1 h2 => by rw [e1, hk q (Nat.lt_of_lt_of_le h1 hS.1) (fun z => h2 (hA q (Nat.lt_of_lt_of_le h1 hS.1) z))]; exact hS.2.1 q h1 h2, fun q hq => by
      rcases List.mem_append.mp hq with h | h
      · exact hS.2.2 q h
      · exact hf _ (hL q h)⟩ T' rfl X'
  exact ⟨t2, st t2 a1, b1⟩
theorem mj_room {D nL : Nat} (h : nL ≤ 40) : (mj_rm D).frames + 1 ≤ (mj_rm (D + 1)).frames ∧ 8 + (nL + 11) + (mj_rm D).locals ≤ (mj_rm (D + 1)).locals := by
  simp only [mj_rm]
  omega
theorem mj_pre {z : mj_M} (X : mj_Cx p s m args meth c TB CL S Dg T3 ad cc nL own rt) {as : List Value} {h : mj_H} {H : Heap} (hP : va_P Dg CL (mj_W S TY T3 ad h) H) : ∀ U : State, U.heap = H → s.WarmedH U.vm → mj_Pc TB CL TY S Dg T3 ad as h H.size (as.map (mj_tr ad)).toArray U := by
  obtain ⟨hx, hbc, hml, hown, hts, hK, hN, hinj, -⟩ := X
  exact fun U hU hW => ⟨rfl, by rw [hU], by rw [hU]; exact hP, va_K.moved hW.alike hK, mj_nw hW hN⟩
end MJS
end
section
/-! each instruction is sound -/
theorem mj_rc_e {S : mj_S} {ci : Nat} {as : List Value} (h : mj_rc S (ci + 1) as) : ∃ q r n, as = .ref q :: r ∧ S[q]? = some (ci + 3, n) := by
  unfold mj_rc at h
  match as, h with
  | .ref q :: r, h =>
    obtain ⟨n, h1, -⟩ := mj_sh_e h
    exact ⟨q, r, n, rfl, h1⟩
theorem mj_rt_e {c : Nat} {v : Value} {r : List Value} {F : List Value → Prop} (ad : Nat → Nat) (h : mj_rt c v r F) : ∃ r', F r' ∧ (mj_rv ad v).toList ++ r.map (mj_tr ad) = r'.map (mj_tr ad) := by
  match c, h with
  | 0, h => obtain ⟨rfl, h2⟩ := h; exact ⟨_, h2, rfl⟩
  | 1, h => obtain ⟨x, rfl, h2⟩ := h; exact ⟨_, h2, rfl⟩
  | 2, h => obtain ⟨x, rfl, h2⟩ := h; exact ⟨_, h2, rfl⟩
  | _ + 3, h => obtain ⟨x, rfl, h2⟩ := h; exact ⟨_, h2, rfl⟩
theorem mj_sw_e {x : Int32} {d : Nat} {F : Nat → Prop} : ∀ {sw : List (Int32 × Nat)}, mj_sw sw d x F → ((∀ k, k < sw.length → x ≠ (sw.getD k (0, 0)).1) ∧ F d) ∨ ∃ k, k < sw.length ∧ x = (sw.getD k (0, 0)).1 ∧ F (sw.getD k (0, 0)).2
  | [], h => Or.inl ⟨fun k hk => absurd hk (Nat.not_lt_zero k), h⟩
  | q :: r, h => by
    unfold mj_sw at h
    by_cases e : x = q.1
    · rw [if_pos e] at h
      exact Or.inr ⟨0, Nat.succ_pos _, e, h⟩
    · rw [if_neg e] at h
      rcases mj_sw_e h with ⟨h1, h2⟩ | ⟨k, h1, h2, h3⟩
      · refine Or.inl ⟨fun k hk => ?_, h2⟩
        cases k with
        | zero => exact e
        | succ k => exact h1 k (Nat.lt_of_succ_lt_succ hk)
      · exact Or.inr ⟨k + 1, Nat.succ_lt_succ h1, h2, h3⟩
theorem mj_sw_l {x : Int32} {d pc : Nat} {F : Nat → Prop} : ∀ {sw : List (Int32 × Nat)}, mj_sw sw d x F → ∃ t : Nat, F t ∧ Op.lookupswitch.offset (sw.map (fun q => (q.1.toInt, (q.2 : Int) - pc))) ((d : Int) - pc) x.toInt = (t : Int) - pc
  | [], h => ⟨d, h, rfl⟩
  | q :: r, h => by
    unfold mj_sw at h
    by_cases e : x = q.1
    · rw [if_pos e] at h
      refine ⟨q.2, h, ?_⟩
      rw [List.map_cons, Op.lookupswitch.offset_cons, if_pos (by rw [e])]
    · rw [if_neg e] at h
      obtain ⟨t, h1, h2⟩ := mj_sw_l h
      refine ⟨t, h1, ?_⟩
      rw [List.map_cons, lv_osw e rfl]
      exact h2
section MJI
variable {p : Program} {l : Launch} {e : Env} {s : State} {m : MethodId} {args : Array Value} {below : List Frame} {meth : Method} {c : Code}
variable {TB : List Cond} {CL : List vw_C} {TY : Nat → Nat → FieldType} {MS : Nat → mj_M} {S : mj_S} {Dg : va_G} {T3 : Nat × Nat × Nat} {ad : Nat → Nat} {cc : ByteArray} {nL D : Nat} {own : String} {rr : mj_R} {rt : Option FieldType}
theorem mj_s_virt (X : mj_Cx p s m args meth c TB CL S Dg T3 ad cc nL own rt) {x n d pc c' : Nat} {y : mj_M} {L : mj_L} {st : List Value} {h : mj_H} {as : List Value} {q : mj_R} {F : List Value → Prop}
    (hok : mj_okV TB CL own x y n d) (hn : n ≤ st.length) (h8 : mj_sz (st.drop n) ≤ 8) (has : as = (st.take n).reverse) (hrc : mj_rc S d as) (hM : mj_Met l TB CL TY S Dg T3 ad D y as h q) (hrt : mj_rt c' q.1 (st.drop n) F) (hdg : decode cc pc = .ok (.invokevirtual x, 3))
    (k : ∀ r, F r → mj_Go p l e s m args below meth c CL TY S Dg T3 ad nL (D + 1) rr (pc + 3) L r q.2) : mj_Go p l e s m args below meth c CL TY S Dg T3 ad nL (D + 1) rr pc L st h := by
  obtain ⟨hlk, hin, hsel, ⟨ci, T, N, rfl, hcl⟩, ⟨kn, rfl, hpar⟩, hY⟩ := hok
  obtain ⟨q0, as', n0, e0, hq0⟩ := mj_rc_e hrc
  have e1 : st = as'.reverse ++ .ref q0 :: st.drop (kn + 1) := by
    have e2 : st.take (kn + 1) = as.reverse := by rw [has, List.reverse_reverse]
    calc st = st.take (kn + 1) ++ st.drop (kn + 1) := (List.take_append_drop _ _).symm
      _ = as'.reverse ++ .ref q0 :: st.drop (kn + 1) := by rw [e2, e0]; simp
  have hlen : as'.length = kn := by
    have h1 : as.length = kn + 1 := by rw [has, List.length_reverse, List.length_take, Nat.min_eq_left hn]
    rw [e0] at h1
    simpa using h1
  subst e0
  obtain ⟨r', hF, hr'⟩ := mj_rt_e ad hrt
  have hk := k r' hF
  intro H locs ls hP hS hl
  obtain ⟨hx, hbc, hml, hown, hts, hK, hN, hinj, -⟩ := id X
  have he := mj_W_at (TY := TY) (T3 := T3) (ad := ad) (h := h) hq0
  have hpre : PreV s H y.1.cls (ad q0) (mj_Pc TB CL TY S Dg T3 ad (.ref q0 :: as') h H.size) (as'.map (mj_tr ad)) := ⟨mj_blind, va_recv hK hP hcl he, mj_pre (z := y) X hP⟩
  have hst : st.map (mj_tr ad) = (as'.map (mj_tr ad)).reverse ++ .ref (ad q0) :: (st.drop (kn + 1)).map (mj_tr ad) := by
    conv => lhs; rw [e1]
    rw [List.map_append, List.map_reverse]
    rfl
  have h9 : 2 * (F0 m pc ls (st.map (mj_tr ad))).monitorRoom + (((st.drop (kn + 1)).map (mj_tr ad)).map fun v => v.category).sum ≤ 8 := lv_room (by rw [mj_sz_eq]; exact h8)
  have hn' : (as'.map (mj_tr ad)).length = kn := by rw [List.length_map]; exact hlen
  have hY2 := hY
  obtain ⟨hco, hini, hmx, hpl, hnm1, hnm2⟩ := hY2
  rcases hlk with hlk | ⟨host, hlk⟩
  · have hT : GoodIn (TB.filter goodWord) (wsV own x y.1.cls y.1 (mj_ws TB y)) := by
      intro w hw
      rcases List.mem_append.mp hw with hw | hw
      · simp only [List.mem_cons, List.not_mem_nil, or_false] at hw
        rcases hw with rfl | rfl | rfl | rfl
        · exact ⟨mj_good_in hlk rfl, good_of_word rfl⟩
        · exact ⟨mj_good_in hin rfl, good_of_word rfl⟩
        · exact ⟨mj_good_in hsel rfl, good_of_word rfl⟩
        · exact ⟨mj_good_in hini rfl, good_of_word rfl⟩
      · exact mj_goodIn hY w hw
    refine mj_back (va_runV (As := as'.map (mj_tr ad)) (rest := (st.drop (kn + 1)).map (mj_tr ad)) ⟨hx, hbc, hml, hown, hts⟩ (hM H.size) (cwV kn hts hT rfl rfl rfl ⟨rfl, hnm1, hnm2, hpar⟩ (mj_room hmx)) hpre rfl hn' hl.1 hst h9 hdg ⟨by simp [mj_rm], by simp [mj_rm]⟩) hS (fun H1 locs1 hP1 hS1 => ?_)
    rw [hr']
    exact hk H1 locs1 ls hP1 hS1 hl
  · refine mj_back (va_runVN (As := as'.map (mj_tr ad)) (rest := (st.drop (kn + 1)).map (mj_tr ad)) ⟨hx, hbc, hml, hown, hts⟩ (hM H.size) ⟨va_cnB kn hts (mj_goodIn hY) rfl rfl rfl (hN _ hlk rfl) (hts _ (mj_good_in hini rfl)) ⟨hnm1, hnm2, hpar⟩ (mj_room hmx), hts _ (mj_good_in hin rfl), hts _ (mj_good_in hsel rfl)⟩ hpre rfl hn' hl.1 hst h9 hdg ⟨by simp [mj_rm], by simp [mj_rm]⟩) hS (fun H1 locs1 hP1 hS1 => ?_)
    rw [hr']
    exact hk H1 locs1 ls hP1 hS1 hl
theorem mj_s_stat (X : mj_Cx p s m args meth c TB CL S Dg T3 ad cc nL own rt) {x n pc c' : Nat} {y : mj_M} {L : mj_L} {st : List Value} {h : mj_H} {as : List Value} {q : mj_R} {F : List Value → Prop}
    (hok : mj_okS TB own x y n) (hn : n ≤ st.length) (h8 : mj_sz (st.drop n) ≤ 8) (has : as = (st.take n).reverse) (hM : mj_Met l TB CL TY S Dg T3 ad D y as h q) (hrt : mj_rt c' q.1 (st.drop n) F) (hdg : decode cc pc = .ok (.invokestatic x, 3))
    (k : ∀ r, F r → mj_Go p l e s m args below meth c CL TY S Dg T3 ad nL (D + 1) rr (pc + 3) L r q.2) : mj_Go p l e s m args below meth c CL TY S Dg T3 ad nL (D + 1) rr pc L st h := by
  obtain ⟨hlk, hsta, hpar, hY⟩ := hok
  have e1 : st = as.reverse ++ st.drop n := by rw [has, List.reverse_reverse, List.take_append_drop]
  have hlen : as.length = n := by rw [has, List.length_reverse, List.length_take, Nat.min_eq_left hn]
  obtain ⟨r', hF, hr'⟩ := mj_rt_e ad hrt
  have hk := k r' hF
  intro H locs ls hP hS hl
  obtain ⟨hx, hbc, hml, hown, hts, hK, hN, hinj, -⟩ := id X
  have hpre : PreS s H (mj_Pc TB CL TY S Dg T3 ad as h H.size) (as.map (mj_tr ad)) := ⟨mj_blind, mj_pre (z := y) X hP⟩
  have hst : st.map (mj_tr ad) = (as.map (mj_tr ad)).reverse ++ (st.drop n).map (mj_tr ad) := by
    conv => lhs; rw [e1]
    rw [List.map_append, List.map_reverse]
  have h9 : 2 * (F0 m pc ls (st.map (mj_tr ad))).monitorRoom + (((st.drop n).map (mj_tr ad)).map fun v => v.category).sum ≤ 8 := lv_room (by rw [mj_sz_eq]; exact h8)
  have hn' : (as.map (mj_tr ad)).length = n := by rw [List.length_map]; exact hlen
  have hY2 := hY
  obtain ⟨hco, hini, hmx, hpl, hnm1, hnm2⟩ := hY2
  rcases hlk with hlk | ⟨host, hlk⟩
  · have hT : GoodIn (TB.filter goodWord) (va_wsS own x y.1 (mj_ws TB y)) := by
      intro w hw
      rcases List.mem_append.mp hw with hw | hw
      · simp only [List.mem_cons, List.not_mem_nil, or_false] at hw
        rcases hw with rfl | rfl | rfl
        · exact ⟨mj_good_in hlk rfl, good_of_word rfl⟩
        · exact ⟨mj_good_in hsta rfl, good_of_word rfl⟩
        · exact ⟨mj_good_in hini rfl, good_of_word rfl⟩
      · exact mj_goodIn hY w hw
    refine mj_back (va_runS (As := as.map (mj_tr ad)) (rest := (st.drop n).map (mj_tr ad)) ⟨hx, hbc, hml, hown, hts⟩ (hM H.size) (va_cwS n hts hT rfl rfl rfl ⟨hnm1, hnm2, hpar⟩ (mj_room hmx)) hpre rfl hn' hl.1 hst h9 hdg ⟨by simp [mj_rm], by simp [mj_rm]⟩) hS (fun H1 locs1 hP1 hS1 => ?_)
    rw [hr']
    exact hk H1 locs1 ls hP1 hS1 hl
  · refine mj_back (va_runSN (As := as.map (mj_tr ad)) (rest := (st.drop n).map (mj_tr ad)) ⟨hx, hbc, hml, hown, hts⟩ (hM H.size) ⟨va_cnB n hts (mj_goodIn hY) rfl rfl rfl (hN _ hlk rfl) (hts _ (mj_good_in hini rfl)) ⟨hnm1, hnm2, hpar⟩ (mj_room hmx), hts _ (mj_good_in hsta rfl), trivial⟩ hpre rfl hn' hl.1 hst h9 hdg ⟨by simp [mj_rm], by simp [mj_rm]⟩) hS (fun H1 locs1 hP1 hS1 => ?_)
    rw [hr']
    exact hk H1 locs1 ls hP1 hS1 hl
end MJI
end
section
/-! the small machine is sound: every instruction, every block, every method -/
section MJJ
variable {p : Program} {l : Launch} {e : Env} {s : State} {m : MethodId} {args : Array Value} {below : List Frame} {meth : Method} {c : Code}
variable {TB : List Cond} {CL : List vw_C} {TY : Nat → Nat → FieldType} {MS : Nat → mj_M} {S : mj_S} {Dg : va_G} {T3 : Nat × Nat × Nat} {ad : Nat → Nat} {cc : ByteArray} {nL D : Nat} {own : String} {rr : mj_R} {rt : Option FieldType}
theorem mj_narI {ty : FieldType} {x : Int32} (h : mj_tc ty = 0) : narrow ty (.int x) = .int x ∧ fits ty (.int x) = true := by
  cases ty <;> simp [mj_tc] at h <;> exact ⟨rfl, rfl⟩
theorem mj_narL {ty : FieldType} {x : Int64} (h : mj_tc ty = 1) : narrow ty (.long x) = .long x ∧ fits ty (.long x) = true := by
  cases ty <;> simp [mj_tc] at h <;> exact ⟨rfl, rfl⟩
theorem mj_narR {ty : FieldType} {x : Nat} (h : mj_tc ty = 2) : narrow ty (.ref x) = .ref x ∧ fits ty (.ref x) = true := by
  cases ty <;> simp [mj_tc] at h <;> exact ⟨rfl, rfl⟩
theorem mj_narZ {ty : FieldType} {x : Int32} (h : mj_tc ty = 3) (hx : x = 0 ∨ x = 1) : narrow ty (.int x) = .int x ∧ fits ty (.int x) = true := by
  cases ty <;> simp [mj_tc] at h
  rcases hx with rfl | rfl <;> exact ⟨rfl, rfl⟩
theorem mj_fvI {h : mj_H} {q k j : Nat} (h1 : j ≠ 1) (h2 : j ≠ 2) : mj_fv ad h q k j = .int (h.1 q k) := by
  unfold mj_fv
  split
  · exact absurd rfl h1
  · exact absurd rfl h2
  · rfl
theorem mj_fv1 {h : mj_H} {q b k j : Nat} {x : Int32} (hj : k = b → j ≠ 1 ∧ j ≠ 2) : mj_fv ad (mj_up h.1 q b x, h.2.1, h.2.2) q k j = if k = b then .int x else mj_fv ad h q k j := by
  by_cases e : k = b
  · subst e
    obtain ⟨h1, h2⟩ := hj rfl
    rw [if_pos rfl]
    unfold mj_fv
    split
    · exact absurd rfl h1
    · exact absurd rfl h2
    · simp [mj_up]
  · rw [if_neg e]
    unfold mj_fv
    split
    · rfl
    · rfl
    · simp [mj_up, e]
theorem mj_fv2 {h : mj_H} {q b k j : Nat} {x : Int64} (hj : k = b → j = 1) : mj_fv ad (h.1, mj_up h.2.1 q b x, h.2.2) q k j = if k = b then .long x else mj_fv ad h q k j := by
  by_cases e : k = b
  · subst e
    rw [hj rfl, if_pos rfl]
    simp [mj_fv, mj_up]
  · rw [if_neg e]
    unfold mj_fv
    split
    · simp [mj_up, e]
    · rfl
    · rfl
theorem mj_fv3 {h : mj_H} {q b k j : Nat} {x : Nat} (hj : k = b → j = 2) : mj_fv ad (h.1, h.2.1, mj_up h.2.2 q b x) q k j = if k = b then .ref (ad x) else mj_fv ad h q k j := by
  by_cases e : k = b
  · subst e
    rw [hj rfl, if_pos rfl]
    simp [mj_fv, mj_up]
  · rw [if_neg e]
    unfold mj_fv
    split
    · rfl
    · simp [mj_up, e]
    · rfl
theorem mj_aset1 {h : mj_H} {q n t j : Nat} {x : Int32} (hq : S[q]? = some (t, n)) (e : ∀ h : mj_H, mj_ce TY T3 ad h q (t, n) = .inl (T3.1, n, .inl (h.1 q)) ∨ t = 2) (hz : mj_ce TY T3 ad (mj_up h.1 q j x, h.2.1, h.2.2) q (t, n) = mj_ce TY T3 ad (mj_up h.1 q j x, h.2.1, h.2.2) q (t, n)) :
    (mj_W S TY T3 ad h).set q (ad q, mj_ce TY T3 ad (mj_up h.1 q j x, h.2.1, h.2.2) q (t, n)) = mj_W S TY T3 ad (mj_up h.1 q j x, h.2.1, h.2.2) := mj_W_set hq fun k hk y => mj_ce_up1 hk y
theorem mj_upq {h : Nat → Nat → Int32} {q j : Nat} {x : Int32} : mj_up h q j x q = upd (h q) j x := by
  funext i
  simp [mj_up, upd]
theorem mj_upqL {h : Nat → Nat → Int64} {q j : Nat} {x : Int64} : mj_up h q j x q = vp_updL (h q) j x := by
  funext i
  simp [mj_up, vp_updL]
theorem mj_cpq {h : Nat → Nat → Int32} {a b sp dp n : Nat} : mj_cp h a sp b dp n b = va_cpy (h a) (h b) sp dp n := by
  funext i
  simp [mj_cp, va_cpy]
theorem mj_ce_cp {h : mj_H} {q k a sp dp n : Nat} (hk : k ≠ q) (y : Nat × Nat) : mj_ce TY T3 ad (mj_cp h.1 a sp q dp n, h.2.1, h.2.2) k y = mj_ce TY T3 ad h k y := by
  have e : (mj_cp h.1 a sp q dp n) k = h.1 k := by funext i; simp [mj_cp, hk]
  obtain ⟨t, z⟩ := y
  match t with
  | 0 => simp only [mj_ce, e]
  | 1 => rfl
  | 2 => simp only [mj_ce, e]
  | t + 3 =>
    simp only [mj_ce, Sum.inr.injEq, Prod.mk.injEq, true_and]
    refine List.map_congr_left fun i _ => ?_
    unfold mj_fv
    split
    · rfl
    · rfl
    · simp only [e]
set_option maxHeartbeats 8000000 in
theorem mj_s_ins (X : mj_Cx p s m args meth c TB CL S Dg T3 ad cc nL own rt) (Y : mj_Cs TB CL TY S) {cal : Nat → List Value → mj_H → mj_R → Prop} (hcal : ∀ z as h r, cal z as h r → mj_Met l TB CL TY S Dg T3 ad D (MS z) as h r)
    {jmp : Nat → mj_K} (hj : ∀ t L st h, jmp t L st h → mj_Go p l e s m args below meth c CL TY S Dg T3 ad nL (D + 1) rr t L st h)
    {i : Jvm.ClassFile.Instr} {len a b cx d : Nat} {v : Int32} {w : Int64} {sw : List (Int32 × Nat)} {pc : Nat} {k : mj_K} (hk : ∀ L st h, k L st h → mj_Go p l e s m args below meth c CL TY S Dg T3 ad nL (D + 1) rr (pc + len) L st h)
    (hdg : decode cc pc = .ok (i, len)) (hok : mj_okI TB CL TY MS own nL rt pc (i, len, (a, b, cx, d), v, w, sw)) {L : mj_L} {st : List Value} {h : mj_H}
    (hm : mj_ins S cal (fun r => r = rr) jmp i a b cx d v w sw L st h k) : mj_Go p l e s m args below meth c CL TY S Dg T3 ad nL (D + 1) rr pc L st h := by
  obtain ⟨hx, hbc, hml, hown, hts, hK, hN, hinj, hlocks, hrt⟩ := id X
  cases i with
  | iconst n =>
    obtain ⟨rfl, hv⟩ := hok
    exact fun H locs ls hP hS hl => lv_iconst hx hbc hdg hv (hk _ _ _ hm H locs ls hP hS hl)
  | bipush n =>
    obtain ⟨rfl, hv⟩ := hok
    exact fun H locs ls hP hS hl => lv_bipush hx hbc hdg hv (hk _ _ _ hm H locs ls hP hS hl)
  | sipush n =>
    obtain ⟨rfl, hv⟩ := hok
    exact fun H locs ls hP hS hl => lv_sipush hx hbc hdg hv (hk _ _ _ hm H locs ls hP hS hl)
  | ldc n =>
    obtain ⟨rfl, hv⟩ := hok
    exact fun H locs ls hP hS hl => lv_ldc hx hbc hown (hts _ (mj_good_in hv rfl)) hdg (hk _ _ _ hm H locs ls hP hS hl)
  | ldc_w n =>
    obtain ⟨rfl, hv⟩ := hok
    exact fun H locs ls hP hS hl => lv_ldcw hx hbc hown (hts _ (mj_good_in hv rfl)) hdg (hk _ _ _ hm H locs ls hP hS hl)
  | lconst n =>
    obtain ⟨rfl, hv⟩ := hok
    exact fun H locs ls hP hS hl => lv_lconst hx hbc hdg hv (hk _ _ _ hm H locs ls hP hS hl)
  | ldc2_w n =>
    obtain ⟨rfl, hv⟩ := hok
    exact fun H locs ls hP hS hl => lv_ldc2 hx hbc hown (hts _ (mj_good_in hv rfl)) hdg (hk _ _ _ hm H locs ls hP hS hl)
  | iload_n n =>
    have hok : len = 1 := hok
    subst hok
    obtain ⟨x, hx1, hm1⟩ := mj_lI_e hm
    exact fun H locs ls hP hS hl => lv_iload_n hx hbc hdg rfl (mj_at hl hx1) (hk _ _ _ hm1 H locs ls hP hS hl)
  | iload n =>
    have hok : len = 2 := hok
    subst hok
    obtain ⟨x, hx1, hm1⟩ := mj_lI_e hm
    exact fun H locs ls hP hS hl => lv_iload hx hbc hdg (mj_at hl hx1) (hk _ _ _ hm1 H locs ls hP hS hl)
  | lload_n n =>
    have hok : len = 1 := hok
    subst hok
    obtain ⟨x, hx1, hm1⟩ := mj_lL_e hm
    exact fun H locs ls hP hS hl => lv_lload_n hx hbc hdg rfl (mj_at hl hx1) (hk _ _ _ hm1 H locs ls hP hS hl)
  | lload n =>
    have hok : len = 2 := hok
    subst hok
    obtain ⟨x, hx1, hm1⟩ := mj_lL_e hm
    exact fun H locs ls hP hS hl => lv_lload hx hbc hdg (mj_at hl hx1) (hk _ _ _ hm1 H locs ls hP hS hl)
  | aload_n n =>
    have hok : len = 1 := hok
    subst hok
    obtain ⟨x, hx1, hm1⟩ := mj_lR_e hm
    exact fun H locs ls hP hS hl => lv_aload_n hx hbc hdg rfl (mj_at hl hx1) (hk _ _ _ hm1 H locs ls hP hS hl)
  | aload n =>
    have hok : len = 2 := hok
    subst hok
    obtain ⟨x, hx1, hm1⟩ := mj_lR_e hm
    exact fun H locs ls hP hS hl => lv_aload hx hbc hdg (mj_at hl hx1) (hk _ _ _ hm1 H locs ls hP hS hl)
  | istore_n n =>
    obtain ⟨rfl, hn⟩ := hok
    obtain ⟨x, r, rfl, hm1⟩ := mj_pI_e hm
    exact fun H locs ls hP hS hl => lv_istore_n hx hbc hdg rfl hl hn rfl (fun ls hl => hk _ _ _ hm1 H locs ls hP hS (mj_s1_has hl))
  | istore n =>
    obtain ⟨rfl, hn⟩ := hok
    obtain ⟨x, r, rfl, hm1⟩ := mj_pI_e hm
    exact fun H locs ls hP hS hl => lv_istore hx hbc hdg hl hn rfl (fun ls hl => hk _ _ _ hm1 H locs ls hP hS (mj_s1_has hl))
  | lstore_n n =>
    obtain ⟨rfl, hn⟩ := hok
    obtain ⟨x, r, rfl, hm1⟩ := mj_pL_e hm
    exact fun H locs ls hP hS hl => lv_lstore_n hx hbc hdg rfl hl hn rfl (fun ls hl => hk _ _ _ hm1 H locs ls hP hS (mj_s2_has hl))
  | lstore n =>
    obtain ⟨rfl, hn⟩ := hok
    obtain ⟨x, r, rfl, hm1⟩ := mj_pL_e hm
    exact fun H locs ls hP hS hl => lv_lstore hx hbc hdg hl hn rfl (fun ls hl => hk _ _ _ hm1 H locs ls hP hS (mj_s2_has hl))
  | astore_n n =>
    obtain ⟨rfl, hn⟩ := hok
    obtain ⟨x, r, rfl, hm1⟩ := mj_pR_e hm
    exact fun H locs ls hP hS hl => lv_astore_n hx hbc hdg rfl hl hn rfl (fun ls hl => hk _ _ _ hm1 H locs ls hP hS (mj_s1_has hl))
  | astore n =>
    obtain ⟨rfl, hn⟩ := hok
    obtain ⟨x, r, rfl, hm1⟩ := mj_pR_e hm
    exact fun H locs ls hP hS hl => lv_astore hx hbc hdg hl hn rfl (fun ls hl => hk _ _ _ hm1 H locs ls hP hS (mj_s1_has hl))
  | iinc n z =>
    obtain ⟨rfl, hn, hv⟩ := hok
    obtain ⟨x, hx1, hm1⟩ := mj_lI_e hm
    intro H locs ls hP hS hl
    obtain ⟨k9, hk9⟩ := List.getElem?_of_mem (mj_tl_mem (ad := ad) hx1)
    exact lv_iinc (v := x + v) hx hbc hdg hl hk9 (by rw [hv]) hn rfl (fun ls hl => hk _ _ _ hm1 H locs ls hP hS (mj_s1_has hl))
  | iadd =>
    have hok : len = 1 := hok
    subst hok
    obtain ⟨y, r, rfl, hm1⟩ := mj_pI_e hm
    obtain ⟨x, r, rfl, hm2⟩ := mj_pI_e hm1
    exact fun H locs ls hP hS hl => lv_iadd hx hbc hdg (hk _ _ _ hm2 H locs ls hP hS hl)
  | isub =>
    have hok : len = 1 := hok
    subst hok
    obtain ⟨y, r, rfl, hm1⟩ := mj_pI_e hm
    obtain ⟨x, r, rfl, hm2⟩ := mj_pI_e hm1
    exact fun H locs ls hP hS hl => lv_isub hx hbc hdg (hk _ _ _ hm2 H locs ls hP hS hl)
  | imul =>
    have hok : len = 1 := hok
    subst hok
    obtain ⟨y, r, rfl, hm1⟩ := mj_pI_e hm
    obtain ⟨x, r, rfl, hm2⟩ := mj_pI_e hm1
    exact fun H locs ls hP hS hl => lv_imul hx hbc hdg (hk _ _ _ hm2 H locs ls hP hS hl)
  | iand =>
    have hok : len = 1 := hok
    subst hok
    obtain ⟨y, r, rfl, hm1⟩ := mj_pI_e hm
    obtain ⟨x, r, rfl, hm2⟩ := mj_pI_e hm1
    exact fun H locs ls hP hS hl => lv_iand hx hbc hdg (hk _ _ _ hm2 H locs ls hP hS hl)
  | ior =>
    have hok : len = 1 := hok
    subst hok
    obtain ⟨y, r, rfl, hm1⟩ := mj_pI_e hm
    obtain ⟨x, r, rfl, hm2⟩ := mj_pI_e hm1
    exact fun H locs ls hP hS hl => lv_ior hx hbc hdg (hk _ _ _ hm2 H locs ls hP hS hl)
  | ixor =>
    have hok : len = 1 := hok
    subst hok
    obtain ⟨y, r, rfl, hm1⟩ := mj_pI_e hm
    obtain ⟨x, r, rfl, hm2⟩ := mj_pI_e hm1
    exact fun H locs ls hP hS hl => lv_ixor hx hbc hdg (hk _ _ _ hm2 H locs ls hP hS hl)
  | idiv =>
    have hok : len = 1 := hok
    subst hok
    obtain ⟨y, r, rfl, hm1⟩ := mj_pI_e hm
    obtain ⟨x, r, rfl, hy, hm2⟩ := mj_pI_e hm1
    exact fun H locs ls hP hS hl => lv_idiv hx hbc hdg hy (hk _ _ _ hm2 H locs ls hP hS hl)
  | irem =>
    have hok : len = 1 := hok
    subst hok
    obtain ⟨y, r, rfl, hm1⟩ := mj_pI_e hm
    obtain ⟨x, r, rfl, hy, hm2⟩ := mj_pI_e hm1
    exact fun H locs ls hP hS hl => lv_irem hx hbc hdg hy (hk _ _ _ hm2 H locs ls hP hS hl)
  | ineg =>
    have hok : len = 1 := hok
    subst hok
    obtain ⟨x, r, rfl, hm1⟩ := mj_pI_e hm
    exact fun H locs ls hP hS hl => lv_ineg hx hbc hdg (hk _ _ _ hm1 H locs ls hP hS hl)
  | ishl =>
    have hok : len = 1 := hok
    subst hok
    obtain ⟨y, r, rfl, hm1⟩ := mj_pI_e hm
    obtain ⟨x, r, rfl, hm2⟩ := mj_pI_e hm1
    exact fun H locs ls hP hS hl => lv_ishl hx hbc hdg (hk _ _ _ hm2 H locs ls hP hS hl)
  | ishr =>
    have hok : len = 1 := hok
    subst hok
    obtain ⟨y, r, rfl, hm1⟩ := mj_pI_e hm
    obtain ⟨x, r, rfl, hm2⟩ := mj_pI_e hm1
    exact fun H locs ls hP hS hl => lv_ishr hx hbc hdg (hk _ _ _ hm2 H locs ls hP hS hl)
  | iushr =>
    have hok : len = 1 := hok
    subst hok
    obtain ⟨y, r, rfl, hm1⟩ := mj_pI_e hm
    obtain ⟨x, r, rfl, hm2⟩ := mj_pI_e hm1
    exact fun H locs ls hP hS hl => lv_iushr hx hbc hdg rfl (hk _ _ _ hm2 H locs ls hP hS hl)
  | ladd =>
    have hok : len = 1 := hok
    subst hok
    obtain ⟨y, r, rfl, hm1⟩ := mj_pL_e hm
    obtain ⟨x, r, rfl, hm2⟩ := mj_pL_e hm1
    exact fun H locs ls hP hS hl => lv_ladd hx hbc hdg (hk _ _ _ hm2 H locs ls hP hS hl)
  | lsub =>
    have hok : len = 1 := hok
    subst hok
    obtain ⟨y, r, rfl, hm1⟩ := mj_pL_e hm
    obtain ⟨x, r, rfl, hm2⟩ := mj_pL_e hm1
    exact fun H locs ls hP hS hl => lv_lsub hx hbc hdg (hk _ _ _ hm2 H locs ls hP hS hl)
  | lmul =>
    have hok : len = 1 := hok
    subst hok
    obtain ⟨y, r, rfl, hm1⟩ := mj_pL_e hm
    obtain ⟨x, r, rfl, hm2⟩ := mj_pL_e hm1
    exact fun H locs ls hP hS hl => lv_lmul hx hbc hdg (hk _ _ _ hm2 H locs ls hP hS hl)
  | land =>
    have hok : len = 1 := hok
    subst hok
    obtain ⟨y, r, rfl, hm1⟩ := mj_pL_e hm
    obtain ⟨x, r, rfl, hm2⟩ := mj_pL_e hm1
    exact fun H locs ls hP hS hl => lv_land hx hbc hdg (hk _ _ _ hm2 H locs ls hP hS hl)
  | lor =>
    have hok : len = 1 := hok
    subst hok
    obtain ⟨y, r, rfl, hm1⟩ := mj_pL_e hm
    obtain ⟨x, r, rfl, hm2⟩ := mj_pL_e hm1
    exact fun H locs ls hP hS hl => lv_lor hx hbc hdg (hk _ _ _ hm2 H locs ls hP hS hl)
  | lxor =>
    have hok : len = 1 := hok
    subst hok
    obtain ⟨y, r, rfl, hm1⟩ := mj_pL_e hm
    obtain ⟨x, r, rfl, hm2⟩ := mj_pL_e hm1
    exact fun H locs ls hP hS hl => lv_lxor hx hbc hdg (hk _ _ _ hm2 H locs ls hP hS hl)
  | ldiv =>
    have hok : len = 1 := hok
    subst hok
    obtain ⟨y, r, rfl, hm1⟩ := mj_pL_e hm
    obtain ⟨x, r, rfl, hy, hm2⟩ := mj_pL_e hm1
    exact fun H locs ls hP hS hl => lv_ldiv hx hbc hdg hy (hk _ _ _ hm2 H locs ls hP hS hl)
  | lrem =>
    have hok : len = 1 := hok
    subst hok
    obtain ⟨y, r, rfl, hm1⟩ := mj_pL_e hm
    obtain ⟨x, r, rfl, hy, hm2⟩ := mj_pL_e hm1
    exact fun H locs ls hP hS hl => lv_lrem hx hbc hdg hy (hk _ _ _ hm2 H locs ls hP hS hl)
  | lneg =>
    have hok : len = 1 := hok
    subst hok
    obtain ⟨x, r, rfl, hm1⟩ := mj_pL_e hm
    exact fun H locs ls hP hS hl => lv_lneg hx hbc hdg (hk _ _ _ hm1 H locs ls hP hS hl)
  | lshl =>
    have hok : len = 1 := hok
    subst hok
    obtain ⟨y, r, rfl, hm1⟩ := mj_pI_e hm
    obtain ⟨x, r, rfl, hm2⟩ := mj_pL_e hm1
    exact fun H locs ls hP hS hl => lv_lshl hx hbc hdg rfl (hk _ _ _ hm2 H locs ls hP hS hl)
  | lshr =>
    have hok : len = 1 := hok
    subst hok
    obtain ⟨y, r, rfl, hm1⟩ := mj_pI_e hm
    obtain ⟨x, r, rfl, hm2⟩ := mj_pL_e hm1
    exact fun H locs ls hP hS hl => lv_lshr hx hbc hdg rfl (hk _ _ _ hm2 H locs ls hP hS hl)
  | lushr =>
    have hok : len = 1 := hok
    subst hok
    obtain ⟨y, r, rfl, hm1⟩ := mj_pI_e hm
    obtain ⟨x, r, rfl, hm2⟩ := mj_pL_e hm1
    exact fun H locs ls hP hS hl => lv_lushr hx hbc hdg rfl (hk _ _ _ hm2 H locs ls hP hS hl)
  | lcmp =>
    have hok : len = 1 := hok
    subst hok
    obtain ⟨y, r, rfl, hm1⟩ := mj_pL_e hm
    obtain ⟨x, r, rfl, hm2⟩ := mj_pL_e hm1
    exact fun H locs ls hP hS hl => W.lcmp hx hbc hdg (hk _ _ _ hm2 H locs ls hP hS hl)
  | i2l =>
    have hok : len = 1 := hok
    subst hok
    obtain ⟨x, r, rfl, hm1⟩ := mj_pI_e hm
    exact fun H locs ls hP hS hl => lv_i2l hx hbc hdg rfl (hk _ _ _ hm1 H locs ls hP hS hl)
  | l2i =>
    have hok : len = 1 := hok
    subst hok
    obtain ⟨x, r, rfl, hm1⟩ := mj_pL_e hm
    exact fun H locs ls hP hS hl => lv_l2i hx hbc hdg rfl (hk _ _ _ hm1 H locs ls hP hS hl)
  | dup =>
    have hok : len = 1 := hok
    subst hok
    simp only [mj_ins] at hm
    split at hm
    · exact fun H locs ls hP hS hl => lv_dup hx hbc hdg rfl (hk _ _ _ hm H locs ls hP hS hl)
    · exact fun H locs ls hP hS hl => lv_dup hx hbc hdg rfl (hk _ _ _ hm H locs ls hP hS hl)
    · exact hm.elim
  | dup2 =>
    have hok : len = 1 := hok
    subst hok
    obtain ⟨x, r, rfl, hm1⟩ := mj_pI_e hm
    obtain ⟨y, r, rfl, hm2⟩ := mj_pR_e hm1
    exact fun H locs ls hP hS hl => lv_dup2_11 hx hbc hdg rfl rfl (hk _ _ _ hm2 H locs ls hP hS hl)
  | getfield x =>
    have hok : len = 3 ∧ mj_okF TB CL own x a b ∧ mj_tc (TY a b) = cx := hok
    obtain ⟨rfl, hF, hc⟩ := hok
    obtain ⟨q, r, rfl, hm1⟩ := mj_pR_e hm
    obtain ⟨n, hq, hm2⟩ := mj_sh_e hm1
    obtain ⟨hb, hm3⟩ := mj_if_e hm2
    have hb : b < n := by simpa using hb
    split at hm3
    · exact mj_getf X Y hF hq hb hdg (by rw [hc]; rfl) (hk _ _ _ hm3)
    · exact mj_getf X Y hF hq hb hdg (by rw [hc]; rfl) (hk _ _ _ hm3)
    · rename_i n1 n2
      refine mj_getf X Y hF hq hb hdg ?_ (hk _ _ _ hm3)
      rw [hc, mj_fvI n1 n2]
      rfl
  | putfield x =>
    have hok : len = 3 ∧ mj_okF TB CL own x a b ∧ mj_tc (TY a b) = cx ∧ cx < 4 ∧ (∃ q, CL[a]? = some q ∧ (q.2.1 b).2.2.2 = false) := hok
    obtain ⟨rfl, hF, hc, hc4, hfin⟩ := hok
    simp only [mj_ins] at hm
    split at hm
    · obtain ⟨u, r, rfl, hm1⟩ := mj_pL_e hm
      obtain ⟨q, r, rfl, hm2⟩ := mj_pR_e hm1
      obtain ⟨n, hq, hm3⟩ := mj_sh_e hm2
      obtain ⟨hb, hm4⟩ := mj_if_e hm3
      have hb : b < n := by simpa using hb
      exact mj_putf (h' := (h.1, mj_up h.2.1 q b u, h.2.2)) X Y hF hfin hq hb hdg (mj_narL hc).1 (mj_narL hc).2 (fun k => mj_fv2 (fun e => by rw [e]; exact hc)) (fun k hk y => mj_ce_up2 hk y) (hk _ _ _ hm4)
    · obtain ⟨u, r, rfl, hm5⟩ := mj_pR_e hm
      obtain ⟨q, r, rfl, hm6⟩ := mj_pR_e hm5
      obtain ⟨n, hq, hm7⟩ := mj_sh_e hm6
      obtain ⟨hb, hm8⟩ := mj_if_e hm7
      have hb : b < n := by simpa using hb
      exact mj_putf (h' := (h.1, h.2.1, mj_up h.2.2 q b u)) X Y hF hfin hq hb hdg (mj_narR hc).1 (mj_narR hc).2 (fun k => mj_fv3 (fun e => by rw [e]; exact hc)) (fun k hk y => mj_ce_up3 hk y) (hk _ _ _ hm8)
    · obtain ⟨u, r, rfl, hm9⟩ := mj_pI_e hm
      obtain ⟨q, r, rfl, hm10⟩ := mj_pR_e hm9
      obtain ⟨n, hq, hm11⟩ := mj_sh_e hm10
      obtain ⟨hb, hu, hm12⟩ := mj_if_e hm11
      have hb : b < n := by simpa using hb
      exact mj_putf (h' := (mj_up h.1 q b u, h.2.1, h.2.2)) X Y hF hfin hq hb hdg (mj_narZ hc hu).1 (mj_narZ hc hu).2 (fun k => mj_fv1 (fun e => by rw [e, hc]; decide)) (fun k hk y => mj_ce_up1 hk y) (hk _ _ _ hm12)
    · rename_i n1 n2 n3
      have hc0 : cx = 0 := by
        have a1 : cx ≠ 1 := fun z => n1 z
        have a2 : cx ≠ 2 := fun z => n2 z
        have a3 : cx ≠ 3 := fun z => n3 z
        omega
      subst hc0
      obtain ⟨u, r, rfl, hm13⟩ := mj_pI_e hm
      obtain ⟨q, r, rfl, hm14⟩ := mj_pR_e hm13
      obtain ⟨n, hq, hm15⟩ := mj_sh_e hm14
      obtain ⟨hb, hm16⟩ := mj_if_e hm15
      have hb : b < n := by simpa using hb
      exact mj_putf (h' := (mj_up h.1 q b u, h.2.1, h.2.2)) X Y hF hfin hq hb hdg (mj_narI hc).1 (mj_narI hc).2 (fun k => mj_fv1 (fun e => by rw [e, hc]; decide)) (fun k hk y => mj_ce_up1 hk y) (hk _ _ _ hm16)
  | iaload =>
    have hok : len = 1 := hok
    subst hok
    obtain ⟨y, r, rfl, hm1⟩ := mj_pI_e hm
    obtain ⟨q, r, rfl, hm2⟩ := mj_pR_e hm1
    obtain ⟨n, hq, hin, hm3⟩ := mj_sh_e hm2
    exact fun H locs ls hP hS hl => va_iald hx hbc hK hP q 0 (mj_W_at hq) rfl hin hdg (hk _ _ _ hm3 H locs ls hP hS hl)
  | laload =>
    have hok : len = 1 := hok
    subst hok
    obtain ⟨y, r, rfl, hm1⟩ := mj_pI_e hm
    obtain ⟨q, r, rfl, hm2⟩ := mj_pR_e hm1
    obtain ⟨n, hq, hin, hm3⟩ := mj_sh_e hm2
    exact fun H locs ls hP hS hl => va_lald hx hbc hK hP q 1 (mj_W_at hq) rfl hin hdg (hk _ _ _ hm3 H locs ls hP hS hl)
  | baload =>
    have hok : len = 1 := hok
    subst hok
    obtain ⟨y, r, rfl, hm1⟩ := mj_pI_e hm
    obtain ⟨q, r, rfl, hm2⟩ := mj_pR_e hm1
    obtain ⟨n, hq, hin, hm3⟩ := mj_sh_e hm2
    exact fun H locs ls hP hS hl => va_zald hx hbc hK hP q 2 (mj_W_at hq) rfl hin hdg (hk _ _ _ hm3 H locs ls hP hS hl)
  | iastore =>
    have hok : len = 1 := hok
    subst hok
    obtain ⟨u, r, rfl, hm1⟩ := mj_pI_e hm
    obtain ⟨y, r, rfl, hm2⟩ := mj_pI_e hm1
    obtain ⟨q, r, rfl, hm3⟩ := mj_pR_e hm2
    obtain ⟨n, hq, hin, hm4⟩ := mj_sh_e hm3
    refine fun H locs ls hP hS hl => va_iast hx hbc hK hP (mj_W_D hinj) hS q 0 (mj_W_at hq) rfl hin hdg (fun H1 locs1 g1 g2 g3 => ?_)
    rw [← mj_upq, show ((Sum.inl (T3.1, n, Sum.inl (mj_up h.1 q y.toNatClampNeg u q)) : va_E)) = mj_ce TY T3 ad (mj_up h.1 q y.toNatClampNeg u, h.2.1, h.2.2) q (0, n) from rfl, mj_W_set hq (fun k hk y => mj_ce_up1 hk y)] at g1
    exact hk _ _ _ hm4 H1 locs1 ls g1 g3 hl
  | lastore =>
    have hok : len = 1 := hok
    subst hok
    obtain ⟨u, r, rfl, hm1⟩ := mj_pL_e hm
    obtain ⟨y, r, rfl, hm2⟩ := mj_pI_e hm1
    obtain ⟨q, r, rfl, hm3⟩ := mj_pR_e hm2
    obtain ⟨n, hq, hin, hm4⟩ := mj_sh_e hm3
    refine fun H locs ls hP hS hl => va_last hx hbc hK hP (mj_W_D hinj) hS q 1 (mj_W_at hq) rfl hin hdg (fun H1 locs1 g1 g2 g3 => ?_)
    rw [← mj_upqL, show ((Sum.inl (T3.2.1, n, Sum.inr (Sum.inl (mj_up h.2.1 q y.toNatClampNeg u q))) : va_E)) = mj_ce TY T3 ad (h.1, mj_up h.2.1 q y.toNatClampNeg u, h.2.2) q (1, n) from rfl, mj_W_set hq (fun k hk y => mj_ce_up2 hk y)] at g1
    exact hk _ _ _ hm4 H1 locs1 ls g1 g3 hl
  | bastore =>
    have hok : len = 1 := hok
    subst hok
    obtain ⟨u, r, rfl, hm1⟩ := mj_pI_e hm
    obtain ⟨y, r, rfl, hm2⟩ := mj_pI_e hm1
    obtain ⟨q, r, rfl, hm3⟩ := mj_pR_e hm2
    obtain ⟨n, hq, hin, hm4⟩ := mj_sh_e hm3
    refine fun H locs ls hP hS hl => va_zast hx hbc hK hP (mj_W_D hinj) hS q 2 (mj_W_at hq) rfl hin hdg (fun H1 locs1 g1 g2 g3 => ?_)
    rw [← mj_upq, show ((Sum.inl (T3.2.2, n, Sum.inl (mj_up h.1 q y.toNatClampNeg (vp_nar .boolean u) q)) : va_E)) = mj_ce TY T3 ad (mj_up h.1 q y.toNatClampNeg (vp_nar .boolean u), h.2.1, h.2.2) q (2, n) from rfl, mj_W_set hq (fun k hk y => mj_ce_up1 hk y)] at g1
    exact hk _ _ _ hm4 H1 locs1 ls g1 g3 hl
  | goto off =>
    obtain ⟨rfl, ht⟩ := hok
    exact fun H locs ls hP hS hl => lv_goto hx hbc hdg ht (hj _ _ _ _ hm H locs ls hP hS hl)
  | ifCond o off =>
    obtain ⟨rfl, ht⟩ := hok
    obtain ⟨x, r, rfl, hm1⟩ := mj_pI_e hm
    intro H locs ls hP hS hl
    cases o with
    | eq =>
      dsimp only at hm1
      refine lv_if_eq hx hbc hdg ht (fun q => ?_) (fun q => ?_)
      · rw [if_pos q] at hm1; exact hj _ _ _ _ hm1 H locs ls hP hS hl
      · rw [if_neg q] at hm1; exact hk _ _ _ hm1 H locs ls hP hS hl
    | ne =>
      dsimp only at hm1
      refine lv_if_ne hx hbc hdg ht (fun q => ?_) (fun q => ?_)
      · rw [if_neg q] at hm1; exact hj _ _ _ _ hm1 H locs ls hP hS hl
      · rw [if_pos (by simpa using q)] at hm1; exact hk _ _ _ hm1 H locs ls hP hS hl
    | lt =>
      dsimp only at hm1
      refine lv_if_lt hx hbc hdg ht (fun q => ?_) (fun q => ?_)
      · rw [if_pos q] at hm1; exact hj _ _ _ _ hm1 H locs ls hP hS hl
      · rw [if_neg q] at hm1; exact hk _ _ _ hm1 H locs ls hP hS hl
    | ge =>
      dsimp only at hm1
      refine lv_if_ge hx hbc hdg ht (fun q => ?_) (fun q => ?_)
      · rw [if_neg (by simpa using q)] at hm1; exact hj _ _ _ _ hm1 H locs ls hP hS hl
      · rw [if_pos (by simpa using q)] at hm1; exact hk _ _ _ hm1 H locs ls hP hS hl
    | gt =>
      dsimp only at hm1
      refine lv_if_gt hx hbc hdg ht (fun q => ?_) (fun q => ?_)
      · rw [if_neg (by simpa using q)] at hm1; exact hj _ _ _ _ hm1 H locs ls hP hS hl
      · rw [if_pos (by simpa using q)] at hm1; exact hk _ _ _ hm1 H locs ls hP hS hl
    | le =>
      dsimp only at hm1
      refine lv_if_le hx hbc hdg ht (fun q => ?_) (fun q => ?_)
      · rw [if_pos q] at hm1; exact hj _ _ _ _ hm1 H locs ls hP hS hl
      · rw [if_neg q] at hm1; exact hk _ _ _ hm1 H locs ls hP hS hl
  | if_icmp o off =>
    obtain ⟨rfl, ht⟩ := hok
    obtain ⟨y, r, rfl, hm1⟩ := mj_pI_e hm
    obtain ⟨x, r, rfl, hm2⟩ := mj_pI_e hm1
    intro H locs ls hP hS hl
    cases o with
    | eq =>
      dsimp only at hm2
      refine lv_icmp_eq hx hbc hdg ht (fun q => ?_) (fun q => ?_)
      · rw [if_pos q] at hm2; exact hj _ _ _ _ hm2 H locs ls hP hS hl
      · rw [if_neg q] at hm2; exact hk _ _ _ hm2 H locs ls hP hS hl
    | ne =>
      dsimp only at hm2
      refine lv_icmp_ne hx hbc hdg ht (fun q => ?_) (fun q => ?_)
      · rw [if_neg q] at hm2; exact hj _ _ _ _ hm2 H locs ls hP hS hl
      · rw [if_pos (by simpa using q)] at hm2; exact hk _ _ _ hm2 H locs ls hP hS hl
    | lt =>
      dsimp only at hm2
      refine lv_icmp_lt hx hbc hdg ht (fun q => ?_) (fun q => ?_)
      · rw [if_pos q] at hm2; exact hj _ _ _ _ hm2 H locs ls hP hS hl
      · rw [if_neg q] at hm2; exact hk _ _ _ hm2 H locs ls hP hS hl
    | ge =>
      dsimp only at hm2
      refine lv_icmp_ge hx hbc hdg ht (fun q => ?_) (fun q => ?_)
      · rw [if_pos q] at hm2; exact hj _ _ _ _ hm2 H locs ls hP hS hl
      · rw [if_neg q] at hm2; exact hk _ _ _ hm2 H locs ls hP hS hl
    | gt =>
      dsimp only at hm2
      refine lv_icmp_gt hx hbc hdg ht (fun q => ?_) (fun q => ?_)
      · rw [if_pos q] at hm2; exact hj _ _ _ _ hm2 H locs ls hP hS hl
      · rw [if_neg q] at hm2; exact hk _ _ _ hm2 H locs ls hP hS hl
    | le =>
      dsimp only at hm2
      refine lv_icmp_le hx hbc hdg ht (fun q => ?_) (fun q => ?_)
      · rw [if_pos q] at hm2; exact hj _ _ _ _ hm2 H locs ls hP hS hl
      · rw [if_neg q] at hm2; exact hk _ _ _ hm2 H locs ls hP hS hl
  | tableswitch df lo hi offs =>
    have hok : (pc : Int) + df = (a : Int) ∧ lo + sw.length = hi + 1 ∧ ∀ k, k < sw.length → (sw.getD k (0, 0)).1.toInt = lo + k ∧ offs[k]? = some (((sw.getD k (0, 0)).2 : Int) - pc) := hok
    obtain ⟨hd, hhi, hall⟩ := hok
    obtain ⟨x, r, rfl, hm1⟩ := mj_pI_e hm
    intro H locs ls hP hS hl
    rcases mj_sw_e hm1 with ⟨h1, h2⟩ | ⟨k9, h1, h2, h3⟩
    · refine lv_tableOut hx hbc hdg ?_ hd (hj _ _ _ _ h2 H locs ls hP hS hl)
      rcases Int.lt_or_le x.toInt lo with q1 | q1
      · exact Or.inl q1
      · rcases Int.lt_or_le hi x.toInt with q2 | q2
        · exact Or.inr q2
        · exfalso
          have q3 : (x.toInt - lo).toNat < sw.length := by omega
          refine h1 _ q3 ?_
          have q4 := (hall _ q3).1
          exact Int32.toInt_inj.mp (by rw [q4]; omega)
    · have q4 := hall _ h1
      have q5 : x.toInt = lo + k9 := by rw [h2]; exact q4.1
      refine lv_tableIn hx hbc hdg (by omega) (by omega) (off := ((sw.getD k9 (0, 0)).2 : Int) - pc) ?_ (by omega) (hj _ _ _ _ h3 H locs ls hP hS hl)
      rw [show (x.toInt - lo).toNat = k9 by omega]
      exact q4.2
  | lookupswitch df ps =>
    have hok : (pc : Int) + df = (a : Int) ∧ (ps.toList.zip (ps.toList.drop 1)).all (fun (a, next) => a.1 < next.1) = true ∧ ps.toList = sw.map (fun q => (q.1.toInt, (q.2 : Int) - pc)) := hok
    obtain ⟨hd, hpp, hps⟩ := hok
    obtain ⟨x, r, rfl, hm1⟩ := mj_pI_e hm
    intro H locs ls hP hS hl
    obtain ⟨t, h1, h2⟩ := mj_sw_l (pc := pc) hm1
    refine lv_lookup hx hbc hdg hpp (off := (t : Int) - pc) ?_ (by omega) (hj _ _ _ _ h1 H locs ls hP hS hl)
    rw [hps, show df = (a : Int) - pc by omega]
    exact h2
  | invokevirtual x =>
    obtain ⟨rfl, hV⟩ := hok
    obtain ⟨hb, hrc, q, hq, hrt2⟩ := mj_if_e hm
    rw [Bool.and_eq_true] at hb
    exact mj_s_virt X hV (Nat.le_of_ble_eq_true hb.1) (Nat.le_of_ble_eq_true hb.2) rfl hrc (hcal _ _ _ _ hq) hrt2 hdg (fun r hr => hk _ _ _ hr)
  | invokestatic x =>
    obtain ⟨rfl, hok⟩ := hok
    simp only [mj_ins] at hm
    split at hm
    · rename_i e9
      have e9 : a = 999 := Nat.eq_of_beq_eq_true e9
      rcases hok with ⟨-, hC⟩ | ⟨hne, -⟩
      · obtain ⟨n, r, rfl, hm1⟩ := mj_pI_e hm
        obtain ⟨dp, r, rfl, hm2⟩ := mj_pI_e hm1
        obtain ⟨y, r, rfl, hm3⟩ := mj_pR_e hm2
        obtain ⟨sp, r, rfl, hm4⟩ := mj_pI_e hm3
        obtain ⟨q, r, rfl, hm5⟩ := mj_pR_e hm4
        obtain ⟨n0, hq, hm6⟩ := mj_sh_e hm5
        obtain ⟨n1, hy, ⟨c1, c2, c3, c4, c5⟩, hm7⟩ := mj_sh_e hm6
        obtain ⟨h8, hm8⟩ := mj_if_e hm7
        obtain ⟨w1, w2, w3, w4⟩ := hC
        intro H locs ls hP hS hl
        have hfw : nativeFrameWords "java/lang/System" "arraycopy" 5 + 11 ≤ 50 := by decide +kernel
        refine va_copyi hx hbc (by rw [hml]; exact hl.1.symm) hown (hts _ (mj_good_in w1 rfl)) (hts _ (mj_good_in w2 rfl)) (hts _ (mj_good_in w3 rfl)) (hts _ (mj_good_in w4 rfl)) hK hP (mj_W_D hinj) hS q y 0 0 (mj_W_at hq) (mj_W_at hy) rfl rfl rfl c1 c2 c3 c4 c5 (fun _ _ => rfl) (by simp only [mj_rm]; omega) ?_ hdg (fun H1 locs1 g1 g2 g3 => ?_)
        · rw [mj_sz_eq]
          have := Nat.le_of_ble_eq_true h8
          simp only [mj_rm]
          omega
        · rw [← mj_cpq, show ((Sum.inl (T3.1, n1, Sum.inl (mj_cp h.1 q sp.toNatClampNeg y dp.toNatClampNeg n.toNatClampNeg y)) : va_E)) = mj_ce TY T3 ad (mj_cp h.1 q sp.toNatClampNeg y dp.toNatClampNeg n.toNatClampNeg, h.2.1, h.2.2) y (0, n1) from rfl, mj_W_set hy (fun k hk y => mj_ce_cp hk y)] at g1
          exact hk _ _ _ hm8 H1 locs1 ls g1 g3 hl
      · exact absurd e9 hne
    · rename_i e9
      rcases hok with ⟨e8, -⟩ | ⟨-, hV⟩
      · subst e8
        exact absurd e9 (by decide)
      · obtain ⟨hb, hrc, q, hq, hrt2⟩ := mj_if_e hm
        rw [Bool.and_eq_true] at hb
        exact mj_s_stat X hV (Nat.le_of_ble_eq_true hb.1) (Nat.le_of_ble_eq_true hb.2) rfl (hcal _ _ _ _ hq) hrt2 hdg (fun r hr => hk _ _ _ hr)
  | return_ =>
    obtain ⟨rfl, hr⟩ := hok
    simp only [mj_ins] at hm
    split at hm
    · subst hm
      exact fun H locs ls hP hS hl => W.vret hx hbc (hrt.trans hr) (fun t ht hW => ⟨rfl, by rw [ht]; exact hP, hS.F ht⟩) hS.2.2 hdg hlocks
    · exact hm.elim
  | ireturn =>
    obtain ⟨rfl, hr⟩ := hok
    simp only [mj_ins] at hm
    split at hm
    · split at hm
      · subst hm
        exact fun H locs ls hP hS hl => W.iret hx hbc (hrt.trans hr) (fun t ht hW => ⟨rfl, by rw [ht]; exact hP, hS.F ht⟩) hS.2.2 hdg hlocks
      · rename_i n1
        obtain ⟨h01, hm1⟩ := hm
        subst hm1
        refine fun H locs ls hP hS hl => W.zret (ty := .boolean) hx hbc (hrt.trans (hr.trans ?_)) (by rcases h01 with rfl | rfl <;> rfl) (fun t ht hW => ⟨rfl, by rw [ht]; exact hP, hS.F ht⟩) hS.2.2 hdg hlocks
        show some (match a with | 0 => FieldType.int | _ => .boolean) = some .boolean
        cases a with
        | zero => exact absurd rfl n1
        | succ _ => rfl
    · exact hm.elim
  | lreturn =>
    obtain ⟨rfl, hr⟩ := hok
    simp only [mj_ins] at hm
    split at hm
    · subst hm
      exact fun H locs ls hP hS hl => W.lret hx hbc (hrt.trans hr) (fun t ht hW => ⟨rfl, by rw [ht]; exact hP, hS.F ht⟩) hS.2.2 hdg hlocks
    · exact hm.elim
  | areturn =>
    obtain ⟨rfl, n9, hr⟩ := hok
    simp only [mj_ins] at hm
    split at hm
    · subst hm
      exact fun H locs ls hP hS hl => W.aret hx hbc (hrt.trans hr) (Or.inl ⟨n9, rfl⟩) (Or.inr ⟨_, rfl⟩) (fun t ht hW => ⟨rfl, by rw [ht]; exact hP, hS.F ht⟩) hS.2.2 hdg hlocks
    · exact hm.elim
  | _ => exact hm.elim
end MJJ
end
section
/-! the small machine is sound: blocks, walks, methods -/
theorem mj_sl_len (ad : Nat → Nat) : ∀ as : List Value, (lg_sl (as.map (mj_tr ad))).length = mj_sz as
  | [] => rfl
  | v :: r => by
    have ih := mj_sl_len ad r
    unfold lg_sl at ih ⊢
    rw [List.map_cons, List.flatMap_cons, List.length_append, ih]
    show _ = v.category + mj_sz r
    rw [mj_cat]
    rcases lv_cat v with h | h <;> simp [h]
section MJB
variable {p : Program} {l : Launch} {e : Env} {s : State} {m : MethodId} {args : Array Value} {below : List Frame} {meth : Method} {c : Code}
variable {TB : List Cond} {CL : List vw_C} {TY : Nat → Nat → FieldType} {MS : Nat → mj_M} {S : mj_S} {Dg : va_G} {T3 : Nat × Nat × Nat} {ad : Nat → Nat} {cc : ByteArray} {nL D : Nat} {own : String} {rr : mj_R} {rt : Option FieldType}
theorem mj_s_bk (X : mj_Cx p s m args meth c TB CL S Dg T3 ad cc nL own rt) (Y : mj_Cs TB CL TY S) {cal : Nat → List Value → mj_H → mj_R → Prop} (hcal : ∀ z as h r, cal z as h r → mj_Met l TB CL TY S Dg T3 ad D (MS z) as h r)
    {jmp : Nat → mj_K} (hj : ∀ t L st h, jmp t L st h → mj_Go p l e s m args below meth c CL TY S Dg T3 ad nL (D + 1) rr t L st h) : ∀ (b : List mj_E) (pc : Nat), mj_okB TB CL TY MS own cc nL rt b pc → ∀ (L : mj_L) (st : List Value) (h : mj_H), mj_bk S cal (fun r => r = rr) jmp b pc L st h → mj_Go p l e s m args below meth c CL TY S Dg T3 ad nL (D + 1) rr pc L st h
  | [], _, _, _, _, _, hm => hj _ _ _ _ hm
  | e1 :: r, pc, ⟨⟨hdg, hok⟩, hrest⟩, L, st, h, hm => mj_s_ins (i := e1.1) (len := e1.2.1) X Y hcal hj (fun L st h q => mj_s_bk X Y hcal hj r (pc + e1.2.1) hrest L st h q) hdg hok hm
theorem mj_s_sg (X : mj_Cx p s m args meth c TB CL S Dg T3 ad cc nL own rt) (Y : mj_Cs TB CL TY S) {cal : Nat → List Value → mj_H → mj_R → Prop} (hcal : ∀ z as h r, cal z as h r → mj_Met l TB CL TY S Dg T3 ad D (MS z) as h r)
    {C : mj_C} (hC : ∀ b ∈ C.1, mj_okB TB CL TY MS own cc nL rt b.2 b.1) {K : Nat → mj_K} (hK : ∀ t L st h, K t L st h → mj_Go p l e s m args below meth c CL TY S Dg T3 ad nL (D + 1) rr t L st h) : ∀ (n pc : Nat) (L : mj_L) (st : List Value) (h : mj_H), mj_sg S C cal (fun r => r = rr) K n pc L st h → mj_Go p l e s m args below meth c CL TY S Dg T3 ad nL (D + 1) rr pc L st h
  | 0, _, _, _, _, hm => hm.elim
  | n + 1, pc, L, st, h, hm => by
    unfold mj_sg at hm
    split at hm
    · exact fun H locs ls hP hS hl => hK _ _ _ _ hm H locs ls hP hS (mj_tm_has hl)
    · split at hm
      · rename_i b hb
        exact mj_s_bk X Y hcal (fun t L st h q => mj_s_sg X Y hcal hC hK n t L st h q) b pc (hC _ (mj_fd_mem hb)) L st h hm
      · exact hm.elim
theorem mj_s_rn (X : mj_Cx p s m args meth c TB CL S Dg T3 ad cc nL own rt) (Y : mj_Cs TB CL TY S) {cal : Nat → List Value → mj_H → mj_R → Prop} (hcal : ∀ z as h r, cal z as h r → mj_Met l TB CL TY S Dg T3 ad D (MS z) as h r)
    {C : mj_C} (hC : ∀ b ∈ C.1, mj_okB TB CL TY MS own cc nL rt b.2 b.1) : ∀ (n pc : Nat) (L : mj_L) (st : List Value) (h : mj_H), mj_rn S C cal (fun r => r = rr) n pc L st h → mj_Go p l e s m args below meth c CL TY S Dg T3 ad nL (D + 1) rr pc L st h
  | 0, _, _, _, _, hm => hm.elim
  | n + 1, pc, L, st, h, hm => by
    have h2 : mj_go S C cal (fun r => r = rr) (mj_rn S C cal (fun r => r = rr) n) pc L st h := hm
    unfold mj_go at h2
    split at h2
    · rename_i b hb
      exact mj_s_bk X Y hcal (fun t L st h q => mj_s_sg X Y hcal hC (fun t L st h q => mj_s_rn X Y hcal hC n t L st h q) 100 t L st h q) b pc (hC _ (mj_fd_mem hb)) L st h h2
    · exact h2.elim
end MJB
/-- THE SMALL MACHINE IS SOUND -/
theorem mj_sound {l : Launch} {TB : List Cond} {CL : List vw_C} {TY : Nat → Nat → FieldType} {MS : Nat → mj_M} {S : mj_S} {CD : Nat → mj_C} {Dg : va_G} {T3 : Nat × Nat × Nat} {ad : Nat → Nat} (hinj : ∀ i j, i < S.length → j < S.length → ad i = ad j → i = j)
    (Y : mj_Cs TB CL TY S) (hM : ∀ z, mj_okM TB CL TY MS (MS z) (CD z) ∨ CD z = ([], [], 0)) : ∀ (D z : Nat) (as : List Value) (h : mj_H) (r : mj_R), mj_Cl S CD D z as h r → mj_Met l TB CL TY S Dg T3 ad D (MS z) as h r
  | 0, _, _, _, _, hm => hm.elim
  | D + 1, z, as, h, r, hm => by
    have ih := mj_sound (l := l) (T3 := T3) (Dg := Dg) hinj Y hM D
    obtain ⟨hz, hm⟩ := mj_if_e hm
    rcases hM z with ⟨hY, hn, hC⟩ | hC
    · intro sz
      have hz : mj_sz as ≤ (MS z).2.2.1 := by rw [← hn]; exact Nat.le_of_ble_eq_true hz
      refine mj_ofW (cc := (MS z).2.1) (maxL := (MS z).2.2.1) (ret := (MS z).2.2.2) hY.2.2.2.1 rfl ?_
      intro p e s m args below meth c s₁ B hml hv
      obtain ⟨rfl, hsz, hP, hK, hN⟩ := hv
      have hx := B.exec
      have hb := B.bytes
      have hr := B.returns
      have hts := atoms_spec (ws := mj_ws TB (MS z)) B.pre
      have hown : s.vm.findClass (MS z).1.cls = some m.cls := findClass_of_methodNamed B.named
      have hlocks := B.notSynchronized
      subst hsz
      rw [lg_entry_eq]
      have hl := lv_entry (as.map (mj_tr ad)) (n := (MS z).2.2.1) (by rw [mj_sl_len]; exact hz)
      rw [mj_a0_eq] at hl
      have X : mj_Cx p s m (as.map (mj_tr ad)).toArray meth c TB CL S Dg T3 ad (MS z).2.1 (MS z).2.2.1 (MS z).1.cls (MS z).2.2.2 := ⟨hx, hb, hml, hown, fun w hw => hts w (List.mem_cons_of_mem _ hw), hK, hN, hinj, hlocks, hr⟩
      have hg := mj_s_sg (e := e) (below := below) X Y ih hC (fun t L st h q => by
        obtain ⟨n, q⟩ := q
        exact mj_s_rn X Y ih hC n t L st h q) 100 0 (mj_a0 0 as) [] h hm
      exact hg s.heap [] _ hP va_S.rf hl
    · exfalso
      rw [hC] at hm
      exact hm
end
section
/-! a code table is checked by a program -/
/-- what a class' pool holds: fields (place, class, slot, final), virtual calls (place, method, arguments, receiver's class + 1), static calls (place, method, arguments), ints, longs, copies of arrays -/
abbrev mj_Q : Type := List (Nat × Nat × Nat × Bool) × List (Nat × Nat × Nat × Nat) × List (Nat × Nat × Nat) × List (Nat × Int32) × List (Nat × Int64) × List Nat
def mj_okQ (TB : List Cond) (CL : List vw_C) (MS : Nat → mj_M) (own : String) (P : mj_Q) : Prop :=
  (∀ r ∈ P.1, mj_okF TB CL own r.1 r.2.1 r.2.2.1 ∧ (r.2.2.2 = false → ∃ q, CL[r.2.1]? = some q ∧ (q.2.1 r.2.2.1).2.2.2 = false)) ∧
  (∀ r ∈ P.2.1, mj_okV TB CL own r.1 (MS r.2.1) r.2.2.1 r.2.2.2) ∧ (∀ r ∈ P.2.2.1, mj_okS TB own r.1 (MS r.2.1) r.2.2) ∧ (∀ r ∈ P.2.2.2.1, Cond.constant own r.1 r.2 ∈ TB) ∧ (∀ r ∈ P.2.2.2.2.1, Cond.constantLong own r.1 r.2 ∈ TB) ∧ (∀ x ∈ P.2.2.2.2.2, mj_okC TB own x)
def mj_ckT (pc : Nat) (lo hi : Int) (offs : Array Int) (sw : List (Int32 × Nat)) : Bool :=
  decide (lo + sw.length = hi + 1) && (List.range sw.length).all (fun k => decide ((sw.getD k (0, 0)).1.toInt = lo + k) && decide (offs[k]? = some (((sw.getD k (0, 0)).2 : Int) - pc)))
def mj_ckI (TY : Nat → Nat → FieldType) (P : mj_Q) (nL : Nat) (rt : Option FieldType) (pc : Nat) (e : mj_E) : Bool :=
  match e.1 with
  | .iconst n => decide (e.2.1 = 1 ∧ Int32.ofInt n = e.2.2.2.1)
  | .bipush n => decide (e.2.1 = 2 ∧ (Int8.ofInt n).toInt32 = e.2.2.2.1)
  | .sipush n => decide (e.2.1 = 3 ∧ (Int16.ofInt n).toInt32 = e.2.2.2.1)
  | .ldc x => decide (e.2.1 = 2) && P.2.2.2.1.any (fun r => decide (r = (x, e.2.2.2.1)))
  | .ldc_w x => decide (e.2.1 = 3) && P.2.2.2.1.any (fun r => decide (r = (x, e.2.2.2.1)))
  | .lconst n => decide (e.2.1 = 1 ∧ Int64.ofNat n.val = e.2.2.2.2.1)
  | .ldc2_w x => decide (e.2.1 = 3) && P.2.2.2.2.1.any (fun r => decide (r = (x, e.2.2.2.2.1)))
  | .iload _ => decide (e.2.1 = 2)
  | .lload _ => decide (e.2.1 = 2)
  | .aload _ => decide (e.2.1 = 2)
  | .istore_n n => decide (e.2.1 = 1 ∧ n.val < nL)
  | .astore_n n => decide (e.2.1 = 1 ∧ n.val < nL)
  | .lstore_n n => decide (e.2.1 = 1 ∧ n.val + 1 < nL)
  | .istore n => decide (e.2.1 = 2 ∧ n < nL)
  | .astore n => decide (e.2.1 = 2 ∧ n < nL)
  | .lstore n => decide (e.2.1 = 2 ∧ n + 1 < nL)
  | .iinc n x => decide (e.2.1 = 3 ∧ n < nL ∧ Int32.ofInt x = e.2.2.2.1)
  | .getfield x => decide (e.2.1 = 3 ∧ mj_tc (TY e.2.2.1.1 e.2.2.1.2.1) = e.2.2.1.2.2.1) && P.1.any (fun r => decide (r.1 = x ∧ r.2.1 = e.2.2.1.1 ∧ r.2.2.1 = e.2.2.1.2.1))
  | .putfield x => decide (e.2.1 = 3 ∧ mj_tc (TY e.2.2.1.1 e.2.2.1.2.1) = e.2.2.1.2.2.1 ∧ e.2.2.1.2.2.1 < 4) && P.1.any (fun r => decide (r.1 = x ∧ r.2.1 = e.2.2.1.1 ∧ r.2.2.1 = e.2.2.1.2.1 ∧ r.2.2.2 = false))
  | .goto off => decide (e.2.1 = 3 ∧ (pc : Int) + off = (e.2.2.1.1 : Int))
  | .ifCond _ off => decide (e.2.1 = 3 ∧ (pc : Int) + off = (e.2.2.1.1 : Int))
  | .if_icmp _ off => decide (e.2.1 = 3 ∧ (pc : Int) + off = (e.2.2.1.1 : Int))
  | .tableswitch df lo hi offs => decide ((pc : Int) + df = (e.2.2.1.1 : Int)) && mj_ckT pc lo hi offs e.2.2.2.2.2
  | .lookupswitch df ps => decide ((pc : Int) + df = (e.2.2.1.1 : Int)) && ((ps.toList.zip (ps.toList.drop 1)).all (fun (a, next) => a.1 < next.1) && decide (ps.toList = e.2.2.2.2.2.map (fun q => (q.1.toInt, (q.2 : Int) - pc))))
  | .invokevirtual x => decide (e.2.1 = 3) && P.2.1.any (fun r => decide (r = (x, e.2.2.1.1, e.2.2.1.2.1, e.2.2.1.2.2.2)))
  | .invokestatic x => decide (e.2.1 = 3) && ((decide (e.2.2.1.1 = 999) && P.2.2.2.2.2.any (fun r => decide (r = x))) || (decide (e.2.2.1.1 ≠ 999) && P.2.2.1.any (fun r => decide (r = (x, e.2.2.1.1, e.2.2.1.2.1)))))
  | .ireturn => decide (e.2.1 = 1 ∧ rt = some (match e.2.2.1.1 with | 0 => .int | _ => .boolean))
  | .lreturn => decide (e.2.1 = 1 ∧ rt = some .long)
  | .areturn => decide (e.2.1 = 1) && (match rt with | some (.object _) => true | _ => false)
  | .return_ => decide (e.2.1 = 1 ∧ rt = none)
  | _ => decide (e.2.1 = 1)
def mj_ckB (TY : Nat → Nat → FieldType) (P : mj_Q) (cc : ByteArray) (nL : Nat) (rt : Option FieldType) : List mj_E → Nat → Bool
  | [], _ => true
  | e :: r, pc => (decide (decode cc pc = .ok (e.1, e.2.1)) && mj_ckI TY P nL rt pc e) && mj_ckB TY P cc nL rt r (pc + e.2.1)
def mj_ckM (TY : Nat → Nat → FieldType) (P : mj_Q) (cc : ByteArray) (nL : Nat) (rt : Option FieldType) (C : mj_C) : Bool :=
  decide (C.2.2 = nL) && C.1.all (fun b => mj_ckB TY P cc nL rt b.2 b.1)
theorem mj_any {α : Type} {L : List α} {f : α → Bool} (h : L.any f = true) : ∃ r ∈ L, f r = true := by
  simpa using h
set_option maxHeartbeats 4000000 in
theorem mj_ckI_ok {TB : List Cond} {CL : List vw_C} {TY : Nat → Nat → FieldType} {MS : Nat → mj_M} {P : mj_Q} {own : String} {nL : Nat} {rt : Option FieldType} {pc : Nat} {e : mj_E} (hP : mj_okQ TB CL MS own P) (h : mj_ckI TY P nL rt pc e = true) : mj_okI TB CL TY MS own nL rt pc e := by
  obtain ⟨i, len, ⟨a, b, c, d⟩, v, w, sw⟩ := e
  obtain ⟨hF, hV, hSt, hC, hL, hA⟩ := hP
  cases i with
  | ldc x =>
    simp only [mj_ckI, Bool.and_eq_true, decide_eq_true_eq] at h
    obtain ⟨h1, h2⟩ := h
    obtain ⟨r, hr, h3⟩ := mj_any h2
    have h4 := hC r hr
    rw [of_decide_eq_true h3] at h4
    exact ⟨h1, h4⟩
  | ldc_w x =>
    simp only [mj_ckI, Bool.and_eq_true, decide_eq_true_eq] at h
    obtain ⟨h1, h2⟩ := h
    obtain ⟨r, hr, h3⟩ := mj_any h2
    have h4 := hC r hr
    rw [of_decide_eq_true h3] at h4
    exact ⟨h1, h4⟩
  | ldc2_w x =>
    simp only [mj_ckI, Bool.and_eq_true, decide_eq_true_eq] at h
    obtain ⟨h1, h2⟩ := h
    obtain ⟨r, hr, h3⟩ := mj_any h2
    have h4 := hL r hr
    rw [of_decide_eq_true h3] at h4
    exact ⟨h1, h4⟩
  | getfield x =>
    simp only [mj_ckI, Bool.and_eq_true, decide_eq_true_eq] at h
    obtain ⟨⟨h1, h2⟩, h3⟩ := h
    obtain ⟨r, hr, h4⟩ := mj_any h3
    obtain ⟨e1, e2, e3⟩ := of_decide_eq_true h4
    have h5 := (hF r hr).1
    rw [e1, e2, e3] at h5
    exact ⟨h1, h5, h2⟩
  | putfield x =>
    simp only [mj_ckI, Bool.and_eq_true, decide_eq_true_eq] at h
    obtain ⟨⟨h1, h2, h6⟩, h3⟩ := h
    obtain ⟨r, hr, h4⟩ := mj_any h3
    obtain ⟨e1, e2, e3, e4⟩ := of_decide_eq_true h4
    have h5 := hF r hr
    rw [e1, e2, e3] at h5
    exact ⟨h1, h5.1, h2, h6, h5.2 e4⟩
  | tableswitch df lo hi offs =>
    simp only [mj_ckI, mj_ckT, Bool.and_eq_true, decide_eq_true_eq, List.all_eq_true] at h
    exact ⟨h.1, h.2.1, fun k hk => h.2.2 k (List.mem_range.mpr hk)⟩
  | lookupswitch df ps =>
    simp only [mj_ckI, Bool.and_eq_true, decide_eq_true_eq] at h
    exact ⟨h.1, h.2.1, h.2.2⟩
  | invokevirtual x =>
    simp only [mj_ckI, Bool.and_eq_true, decide_eq_true_eq] at h
    obtain ⟨h1, h2⟩ := h
    obtain ⟨r, hr, h3⟩ := mj_any h2
    have h4 := hV r hr
    rw [of_decide_eq_true h3] at h4
    exact ⟨h1, h4⟩
  | invokestatic x =>
    simp only [mj_ckI, Bool.and_eq_true, Bool.or_eq_true, decide_eq_true_eq] at h
    obtain ⟨h1, ⟨h2, h3⟩ | ⟨h2, h3⟩⟩ := h
    · obtain ⟨r, hr, h4⟩ := mj_any h3
      have h5 := hA r hr
      rw [of_decide_eq_true h4] at h5
      exact ⟨h1, Or.inl ⟨h2, h5⟩⟩
    · obtain ⟨r, hr, h4⟩ := mj_any h3
      have h5 := hSt r hr
      rw [of_decide_eq_true h4] at h5
      exact ⟨h1, Or.inr ⟨h2, h5⟩⟩
  | areturn =>
    simp only [mj_ckI, Bool.and_eq_true, decide_eq_true_eq] at h
    obtain ⟨h1, h2⟩ := h
    refine ⟨h1, ?_⟩
    split at h2
    · exact ⟨_, rfl⟩
    · cases h2
  | _ =>
    simp only [mj_ckI, decide_eq_true_eq] at h
    exact h
theorem mj_ckB_ok {TB : List Cond} {CL : List vw_C} {TY : Nat → Nat → FieldType} {MS : Nat → mj_M} {P : mj_Q} {own : String} {cc : ByteArray} {nL : Nat} {rt : Option FieldType} (hP : mj_okQ TB CL MS own P) : ∀ (b : List mj_E) (pc : Nat), mj_ckB TY P cc nL rt b pc = true → mj_okB TB CL TY MS own cc nL rt b pc
  | [], _, _ => trivial
  | e :: r, pc, h => by
    simp only [mj_ckB, Bool.and_eq_true, decide_eq_true_eq] at h
    exact ⟨⟨h.1.1, mj_ckI_ok hP h.1.2⟩, mj_ckB_ok hP r _ h.2⟩
theorem mj_ckM_ok {TB : List Cond} {CL : List vw_C} {TY : Nat → Nat → FieldType} {MS : Nat → mj_M} {P : mj_Q} {y : mj_M} {C : mj_C} (hP : mj_okQ TB CL MS y.1.cls P) (hY : mj_okY TB y) (h : mj_ckM TY P y.2.1 y.2.2.1 y.2.2.2 C = true) : mj_okM TB CL TY MS y C := by
  simp only [mj_ckM, Bool.and_eq_true, decide_eq_true_eq, List.all_eq_true] at h
  exact ⟨hY, h.1, fun b hb => mj_ckB_ok hP _ _ (h.2 b hb)⟩
-- short forms for the tables
def o0 (i : Jvm.ClassFile.Instr) (len : Nat) : mj_E := (i, len, (0, 0, 0, 0), 0, 0, [])
def oV (i : Jvm.ClassFile.Instr) (len : Nat) (v : Int32) : mj_E := (i, len, (0, 0, 0, 0), v, 0, [])
def oW (i : Jvm.ClassFile.Instr) (len : Nat) (w : Int64) : mj_E := (i, len, (0, 0, 0, 0), 0, w, [])
def oA (i : Jvm.ClassFile.Instr) (len a : Nat) : mj_E := (i, len, (a, 0, 0, 0), 0, 0, [])
def oF (i : Jvm.ClassFile.Instr) (len a b c : Nat) : mj_E := (i, len, (a, b, c, 0), 0, 0, [])
def oM (i : Jvm.ClassFile.Instr) (len a b c d : Nat) : mj_E := (i, len, (a, b, c, d), 0, 0, [])
def oT (i : Jvm.ClassFile.Instr) (len a : Nat) (sw : List (Int32 × Nat)) : mj_E := (i, len, (a, 0, 0, 0), 0, 0, sw)
end
