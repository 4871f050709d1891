section
-- ===== PART A: goes FIRST, ahead of the names: the tables' words, and 'selects' of the private methods out of them =====
/-- a private method of a class that the tables say can be made, by its rows of tables_1 -/
def lw_okq (q : MethodName × Nat) : Prop := (q.1.cls ≠ "java/lang/invoke/MethodHandle" ∧ q.1.cls ≠ "java/lang/invoke/VarHandle") ∧ Cond.instantiable q.1.cls q.2 ∈ tables_1 ∧ Cond.privateMethod q.1 ∈ tables_1 ∧ Cond.instanceMethod q.1 ∈ tables_1
theorem lw_p0 : lw_okq (⟨"UnbeatenHouse", "putBytes", "(I)V"⟩, 16) := ⟨⟨by decide +kernel, by decide +kernel⟩, (lw_it_0 (List.mem_of_getElem? (i := 23) rfl)), (lw_it_1 (List.mem_of_getElem? (i := 230) rfl)), (lw_it_1 (List.mem_of_getElem? (i := 231) rfl))⟩
theorem lw_p1 : lw_okq (⟨"UnbeatenHouse$Reader", "advance", "()V"⟩, 12) := ⟨⟨by decide +kernel, by decide +kernel⟩, (lw_it_0 (List.mem_of_getElem? (i := 95) rfl)), (lw_it_2 (List.mem_of_getElem? (i := 10) rfl)), (lw_it_2 (List.mem_of_getElem? (i := 11) rfl))⟩
theorem lw_p2 : lw_okq (⟨"UnbeatenHouse$Reader", "skipBlanks", "()V"⟩, 12) := ⟨⟨by decide +kernel, by decide +kernel⟩, (lw_it_0 (List.mem_of_getElem? (i := 95) rfl)), (lw_it_2 (List.mem_of_getElem? (i := 14) rfl)), (lw_it_2 (List.mem_of_getElem? (i := 15) rfl))⟩
theorem lw_p3 : lw_okq (⟨"UnbeatenHouse$Reader", "ownNumber", "(I)I"⟩, 12) := ⟨⟨by decide +kernel, by decide +kernel⟩, (lw_it_0 (List.mem_of_getElem? (i := 95) rfl)), (lw_it_2 (List.mem_of_getElem? (i := 24) rfl)), (lw_it_2 (List.mem_of_getElem? (i := 25) rfl))⟩
theorem lw_p4 : lw_okq (⟨"UnbeatenHouse$Reader", "readStatement", "()V"⟩, 12) := ⟨⟨by decide +kernel, by decide +kernel⟩, (lw_it_0 (List.mem_of_getElem? (i := 95) rfl)), (lw_it_2 (List.mem_of_getElem? (i := 28) rfl)), (lw_it_2 (List.mem_of_getElem? (i := 29) rfl))⟩
theorem lw_p5 : lw_okq (⟨"UnbeatenHouse$Reader", "blame", "(I)V"⟩, 12) := ⟨⟨by decide +kernel, by decide +kernel⟩, (lw_it_0 (List.mem_of_getElem? (i := 95) rfl)), (lw_it_2 (List.mem_of_getElem? (i := 32) rfl)), (lw_it_2 (List.mem_of_getElem? (i := 33) rfl))⟩
theorem lw_p6 : lw_okq (⟨"UnbeatenHouse$Reader", "isOutOfTurn", "(I)Z"⟩, 12) := ⟨⟨by decide +kernel, by decide +kernel⟩, (lw_it_0 (List.mem_of_getElem? (i := 95) rfl)), (lw_it_2 (List.mem_of_getElem? (i := 38) rfl)), (lw_it_2 (List.mem_of_getElem? (i := 39) rfl))⟩
theorem lw_p7 : lw_okq (⟨"UnbeatenHouse$Reader", "readWish", "()V"⟩, 12) := ⟨⟨by decide +kernel, by decide +kernel⟩, (lw_it_0 (List.mem_of_getElem? (i := 95) rfl)), (lw_it_2 (List.mem_of_getElem? (i := 42) rfl)), (lw_it_2 (List.mem_of_getElem? (i := 43) rfl))⟩
theorem lw_p8 : lw_okq (⟨"UnbeatenHouse$Reader", "giveName", "(I)V"⟩, 12) := ⟨⟨by decide +kernel, by decide +kernel⟩, (lw_it_0 (List.mem_of_getElem? (i := 95) rfl)), (lw_it_2 (List.mem_of_getElem? (i := 46) rfl)), (lw_it_2 (List.mem_of_getElem? (i := 47) rfl))⟩
theorem lw_p9 : lw_okq (⟨"UnbeatenHouse$Reader", "isName", "()Z"⟩, 12) := ⟨⟨by decide +kernel, by decide +kernel⟩, (lw_it_0 (List.mem_of_getElem? (i := 95) rfl)), (lw_it_2 (List.mem_of_getElem? (i := 50) rfl)), (lw_it_2 (List.mem_of_getElem? (i := 51) rfl))⟩
theorem lw_p10 : lw_okq (⟨"UnbeatenHouse$Reader", "readTie", "()V"⟩, 12) := ⟨⟨by decide +kernel, by decide +kernel⟩, (lw_it_0 (List.mem_of_getElem? (i := 95) rfl)), (lw_it_2 (List.mem_of_getElem? (i := 66) rfl)), (lw_it_2 (List.mem_of_getElem? (i := 67) rfl))⟩
theorem lw_p11 : lw_okq (⟨"UnbeatenHouse$Reader", "askName", "(II)I"⟩, 12) := ⟨⟨by decide +kernel, by decide +kernel⟩, (lw_it_0 (List.mem_of_getElem? (i := 95) rfl)), (lw_it_2 (List.mem_of_getElem? (i := 70) rfl)), (lw_it_2 (List.mem_of_getElem? (i := 71) rfl))⟩
theorem lw_p12 : lw_okq (⟨"UnbeatenHouse$Reader", "readAmounts", "(II)V"⟩, 12) := ⟨⟨by decide +kernel, by decide +kernel⟩, (lw_it_0 (List.mem_of_getElem? (i := 95) rfl)), (lw_it_2 (List.mem_of_getElem? (i := 75) rfl)), (lw_it_2 (List.mem_of_getElem? (i := 76) rfl))⟩
theorem lw_p13 : lw_okq (⟨"UnbeatenHouse$Reader", "takeNumber", "()I"⟩, 12) := ⟨⟨by decide +kernel, by decide +kernel⟩, (lw_it_0 (List.mem_of_getElem? (i := 95) rfl)), (lw_it_2 (List.mem_of_getElem? (i := 82) rfl)), (lw_it_2 (List.mem_of_getElem? (i := 83) rfl))⟩
theorem lw_p14 : lw_okq (⟨"UnbeatenHouse$Reader", "readTest", "()V"⟩, 12) := ⟨⟨by decide +kernel, by decide +kernel⟩, (lw_it_0 (List.mem_of_getElem? (i := 95) rfl)), (lw_it_2 (List.mem_of_getElem? (i := 86) rfl)), (lw_it_2 (List.mem_of_getElem? (i := 87) rfl))⟩
theorem lw_p15 : lw_okq (⟨"UnbeatenHouse$Reader", "readBoth", "()V"⟩, 12) := ⟨⟨by decide +kernel, by decide +kernel⟩, (lw_it_0 (List.mem_of_getElem? (i := 95) rfl)), (lw_it_2 (List.mem_of_getElem? (i := 90) rfl)), (lw_it_2 (List.mem_of_getElem? (i := 91) rfl))⟩
def lw_privs_1 : List (MethodName × Nat) := [(⟨"UnbeatenHouse", "putBytes", "(I)V"⟩, 16), (⟨"UnbeatenHouse$Reader", "advance", "()V"⟩, 12), (⟨"UnbeatenHouse$Reader", "skipBlanks", "()V"⟩, 12), (⟨"UnbeatenHouse$Reader", "ownNumber", "(I)I"⟩, 12), (⟨"UnbeatenHouse$Reader", "readStatement", "()V"⟩, 12), (⟨"UnbeatenHouse$Reader", "blame", "(I)V"⟩, 12), (⟨"UnbeatenHouse$Reader", "isOutOfTurn", "(I)Z"⟩, 12), (⟨"UnbeatenHouse$Reader", "readWish", "()V"⟩, 12), (⟨"UnbeatenHouse$Reader", "giveName", "(I)V"⟩, 12), (⟨"UnbeatenHouse$Reader", "isName", "()Z"⟩, 12), (⟨"UnbeatenHouse$Reader", "readTie", "()V"⟩, 12), (⟨"UnbeatenHouse$Reader", "askName", "(II)I"⟩, 12), (⟨"UnbeatenHouse$Reader", "readAmounts", "(II)V"⟩, 12), (⟨"UnbeatenHouse$Reader", "takeNumber", "()I"⟩, 12), (⟨"UnbeatenHouse$Reader", "readTest", "()V"⟩, 12), (⟨"UnbeatenHouse$Reader", "readBoth", "()V"⟩, 12)]
theorem lw_r1 : ∀ q ∈ lw_privs_1, lw_okq q := List.forall_mem_cons.mpr ⟨lw_p0, List.forall_mem_cons.mpr ⟨lw_p1, List.forall_mem_cons.mpr ⟨lw_p2, List.forall_mem_cons.mpr ⟨lw_p3, List.forall_mem_cons.mpr ⟨lw_p4, List.forall_mem_cons.mpr ⟨lw_p5, List.forall_mem_cons.mpr ⟨lw_p6, List.forall_mem_cons.mpr ⟨lw_p7, List.forall_mem_cons.mpr ⟨lw_p8, List.forall_mem_cons.mpr ⟨lw_p9, List.forall_mem_cons.mpr ⟨lw_p10, List.forall_mem_cons.mpr ⟨lw_p11, List.forall_mem_cons.mpr ⟨lw_p12, List.forall_mem_cons.mpr ⟨lw_p13, List.forall_mem_cons.mpr ⟨lw_p14, List.forall_mem_cons.mpr ⟨lw_p15, fun _ h => absurd h List.not_mem_nil⟩⟩⟩⟩⟩⟩⟩⟩⟩⟩⟩⟩⟩⟩⟩⟩
theorem lw_p16 : lw_okq (⟨"UnbeatenHouse$Reader", "readFact", "()V"⟩, 12) := ⟨⟨by decide +kernel, by decide +kernel⟩, (lw_it_0 (List.mem_of_getElem? (i := 95) rfl)), (lw_it_2 (List.mem_of_getElem? (i := 94) rfl)), (lw_it_2 (List.mem_of_getElem? (i := 95) rfl))⟩
theorem lw_p17 : lw_okq (⟨"UnbeatenHouse$Reader", "isSign", "(I)Z"⟩, 12) := ⟨⟨by decide +kernel, by decide +kernel⟩, (lw_it_0 (List.mem_of_getElem? (i := 95) rfl)), (lw_it_2 (List.mem_of_getElem? (i := 98) rfl)), (lw_it_2 (List.mem_of_getElem? (i := 99) rfl))⟩
theorem lw_p18 : lw_okq (⟨"UnbeatenHouse$Reader", "opensOne", "(I)Z"⟩, 12) := ⟨⟨by decide +kernel, by decide +kernel⟩, (lw_it_0 (List.mem_of_getElem? (i := 95) rfl)), (lw_it_2 (List.mem_of_getElem? (i := 102) rfl)), (lw_it_2 (List.mem_of_getElem? (i := 103) rfl))⟩
theorem lw_p19 : lw_okq (⟨"UnbeatenHouse$Reader", "take", "(I)V"⟩, 12) := ⟨⟨by decide +kernel, by decide +kernel⟩, (lw_it_0 (List.mem_of_getElem? (i := 95) rfl)), (lw_it_2 (List.mem_of_getElem? (i := 106) rfl)), (lw_it_2 (List.mem_of_getElem? (i := 107) rfl))⟩
theorem lw_p20 : lw_okq (⟨"UnbeatenHouse$Reader", "readSum", "()V"⟩, 12) := ⟨⟨by decide +kernel, by decide +kernel⟩, (lw_it_0 (List.mem_of_getElem? (i := 95) rfl)), (lw_it_2 (List.mem_of_getElem? (i := 117) rfl)), (lw_it_2 (List.mem_of_getElem? (i := 118) rfl))⟩
theorem lw_p21 : lw_okq (⟨"UnbeatenHouse$Reader", "readProduct", "()V"⟩, 12) := ⟨⟨by decide +kernel, by decide +kernel⟩, (lw_it_0 (List.mem_of_getElem? (i := 95) rfl)), (lw_it_2 (List.mem_of_getElem? (i := 121) rfl)), (lw_it_2 (List.mem_of_getElem? (i := 122) rfl))⟩
theorem lw_p22 : lw_okq (⟨"UnbeatenHouse$Reader", "readPart", "()V"⟩, 12) := ⟨⟨by decide +kernel, by decide +kernel⟩, (lw_it_0 (List.mem_of_getElem? (i := 95) rfl)), (lw_it_2 (List.mem_of_getElem? (i := 125) rfl)), (lw_it_2 (List.mem_of_getElem? (i := 126) rfl))⟩
theorem lw_p23 : lw_okq (⟨"UnbeatenHouse$Reader", "readPair", "(I)V"⟩, 12) := ⟨⟨by decide +kernel, by decide +kernel⟩, (lw_it_0 (List.mem_of_getElem? (i := 95) rfl)), (lw_it_2 (List.mem_of_getElem? (i := 129) rfl)), (lw_it_2 (List.mem_of_getElem? (i := 130) rfl))⟩
theorem lw_p24 : lw_okq (⟨"UnbeatenHouse$Reader", "takeComparison", "()I"⟩, 12) := ⟨⟨by decide +kernel, by decide +kernel⟩, (lw_it_0 (List.mem_of_getElem? (i := 95) rfl)), (lw_it_2 (List.mem_of_getElem? (i := 133) rfl)), (lw_it_2 (List.mem_of_getElem? (i := 134) rfl))⟩
theorem lw_p25 : lw_okq (⟨"UnbeatenHouse$Reader", "readRow", "()V"⟩, 12) := ⟨⟨by decide +kernel, by decide +kernel⟩, (lw_it_0 (List.mem_of_getElem? (i := 95) rfl)), (lw_it_2 (List.mem_of_getElem? (i := 141) rfl)), (lw_it_2 (List.mem_of_getElem? (i := 142) rfl))⟩
theorem lw_p26 : lw_okq (⟨"UnbeatenHouse$Reader", "readThing", "()V"⟩, 12) := ⟨⟨by decide +kernel, by decide +kernel⟩, (lw_it_0 (List.mem_of_getElem? (i := 95) rfl)), (lw_it_2 (List.mem_of_getElem? (i := 145) rfl)), (lw_it_2 (List.mem_of_getElem? (i := 146) rfl))⟩
theorem lw_p27 : lw_okq (⟨"UnbeatenHouse$Rows", "takeLoss", "(LUnbeatenHouse$Tale;II)V"⟩, 8) := ⟨⟨by decide +kernel, by decide +kernel⟩, (lw_it_0 (List.mem_of_getElem? (i := 185) rfl)), (lw_it_2 (List.mem_of_getElem? (i := 157) rfl)), (lw_it_2 (List.mem_of_getElem? (i := 158) rfl))⟩
theorem lw_p28 : lw_okq (⟨"UnbeatenHouse$Weighings", "add", "(IIII)V"⟩, 4) := ⟨⟨by decide +kernel, by decide +kernel⟩, (lw_it_1 (List.mem_of_getElem? (i := 90) rfl)), (lw_it_2 (List.mem_of_getElem? (i := 208) rfl)), (lw_it_2 (List.mem_of_getElem? (i := 209) rfl))⟩
theorem lw_p29 : lw_okq (⟨"UnbeatenHouse$Weighings", "put", "(II)V"⟩, 4) := ⟨⟨by decide +kernel, by decide +kernel⟩, (lw_it_1 (List.mem_of_getElem? (i := 90) rfl)), (lw_it_2 (List.mem_of_getElem? (i := 212) rfl)), (lw_it_2 (List.mem_of_getElem? (i := 213) rfl))⟩
theorem lw_p30 : lw_okq (⟨"UnbeatenHouse", "takeWays", "(II)I"⟩, 16) := ⟨⟨by decide +kernel, by decide +kernel⟩, (lw_it_0 (List.mem_of_getElem? (i := 23) rfl)), (lw_it_3 (List.mem_of_getElem? (i := 59) rfl)), (lw_it_3 (List.mem_of_getElem? (i := 60) rfl))⟩
theorem lw_p31 : lw_okq (⟨"UnbeatenHouse$Gatherer", "walk", "(LUnbeatenHouse$Tale;LUnbeatenHouse$Pool;IIIIJ)V"⟩, 3) := ⟨⟨by decide +kernel, by decide +kernel⟩, (lw_it_1 (List.mem_of_getElem? (i := 10) rfl)), (lw_it_3 (List.mem_of_getElem? (i := 71) rfl)), (lw_it_3 (List.mem_of_getElem? (i := 72) rfl))⟩
def lw_privs_2 : List (MethodName × Nat) := [(⟨"UnbeatenHouse$Reader", "readFact", "()V"⟩, 12), (⟨"UnbeatenHouse$Reader", "isSign", "(I)Z"⟩, 12), (⟨"UnbeatenHouse$Reader", "opensOne", "(I)Z"⟩, 12), (⟨"UnbeatenHouse$Reader", "take", "(I)V"⟩, 12), (⟨"UnbeatenHouse$Reader", "readSum", "()V"⟩, 12), (⟨"UnbeatenHouse$Reader", "readProduct", "()V"⟩, 12), (⟨"UnbeatenHouse$Reader", "readPart", "()V"⟩, 12), (⟨"UnbeatenHouse$Reader", "readPair", "(I)V"⟩, 12), (⟨"UnbeatenHouse$Reader", "takeComparison", "()I"⟩, 12), (⟨"UnbeatenHouse$Reader", "readRow", "()V"⟩, 12), (⟨"UnbeatenHouse$Reader", "readThing", "()V"⟩, 12), (⟨"UnbeatenHouse$Rows", "takeLoss", "(LUnbeatenHouse$Tale;II)V"⟩, 8), (⟨"UnbeatenHouse$Weighings", "add", "(IIII)V"⟩, 4), (⟨"UnbeatenHouse$Weighings", "put", "(II)V"⟩, 4), (⟨"UnbeatenHouse", "takeWays", "(II)I"⟩, 16), (⟨"UnbeatenHouse$Gatherer", "walk", "(LUnbeatenHouse$Tale;LUnbeatenHouse$Pool;IIIIJ)V"⟩, 3)]
theorem lw_r2 : ∀ q ∈ lw_privs_2, lw_okq q := List.forall_mem_cons.mpr ⟨lw_p16, List.forall_mem_cons.mpr ⟨lw_p17, List.forall_mem_cons.mpr ⟨lw_p18, List.forall_mem_cons.mpr ⟨lw_p19, List.forall_mem_cons.mpr ⟨lw_p20, List.forall_mem_cons.mpr ⟨lw_p21, List.forall_mem_cons.mpr ⟨lw_p22, List.forall_mem_cons.mpr ⟨lw_p23, List.forall_mem_cons.mpr ⟨lw_p24, List.forall_mem_cons.mpr ⟨lw_p25, List.forall_mem_cons.mpr ⟨lw_p26, List.forall_mem_cons.mpr ⟨lw_p27, List.forall_mem_cons.mpr ⟨lw_p28, List.forall_mem_cons.mpr ⟨lw_p29, List.forall_mem_cons.mpr ⟨lw_p30, List.forall_mem_cons.mpr ⟨lw_p31, fun _ h => absurd h List.not_mem_nil⟩⟩⟩⟩⟩⟩⟩⟩⟩⟩⟩⟩⟩⟩⟩⟩
theorem lw_p32 : lw_okq (⟨"UnbeatenHouse$Gatherer", "putLosses", "(LUnbeatenHouse$Tale;I)V"⟩, 3) := ⟨⟨by decide +kernel, by decide +kernel⟩, (lw_it_1 (List.mem_of_getElem? (i := 10) rfl)), (lw_it_3 (List.mem_of_getElem? (i := 75) rfl)), (lw_it_3 (List.mem_of_getElem? (i := 76) rfl))⟩
theorem lw_p33 : lw_okq (⟨"UnbeatenHouse$Gatherer", "goAlong", "(LUnbeatenHouse$Tale;II)V"⟩, 3) := ⟨⟨by decide +kernel, by decide +kernel⟩, (lw_it_1 (List.mem_of_getElem? (i := 10) rfl)), (lw_it_3 (List.mem_of_getElem? (i := 85) rfl)), (lw_it_3 (List.mem_of_getElem? (i := 86) rfl))⟩
theorem lw_p34 : lw_okq (⟨"UnbeatenHouse$Pool", "sort", "()V"⟩, 5) := ⟨⟨by decide +kernel, by decide +kernel⟩, (lw_it_0 (List.mem_of_getElem? (i := 227) rfl)), (lw_it_3 (List.mem_of_getElem? (i := 94) rfl)), (lw_it_3 (List.mem_of_getElem? (i := 95) rfl))⟩
theorem lw_p35 : lw_okq (⟨"UnbeatenHouse$Pool", "sink", "(II)V"⟩, 5) := ⟨⟨by decide +kernel, by decide +kernel⟩, (lw_it_0 (List.mem_of_getElem? (i := 227) rfl)), (lw_it_3 (List.mem_of_getElem? (i := 98) rfl)), (lw_it_3 (List.mem_of_getElem? (i := 99) rfl))⟩
theorem lw_p36 : lw_okq (⟨"UnbeatenHouse$Pool", "isAhead", "(II)Z"⟩, 5) := ⟨⟨by decide +kernel, by decide +kernel⟩, (lw_it_0 (List.mem_of_getElem? (i := 227) rfl)), (lw_it_3 (List.mem_of_getElem? (i := 102) rfl)), (lw_it_3 (List.mem_of_getElem? (i := 103) rfl))⟩
theorem lw_p37 : lw_okq (⟨"UnbeatenHouse$Pool", "swap", "(II)V"⟩, 5) := ⟨⟨by decide +kernel, by decide +kernel⟩, (lw_it_0 (List.mem_of_getElem? (i := 227) rfl)), (lw_it_3 (List.mem_of_getElem? (i := 106) rfl)), (lw_it_3 (List.mem_of_getElem? (i := 107) rfl))⟩
theorem lw_p38 : lw_okq (⟨"UnbeatenHouse", "takeSets", "()I"⟩, 16) := ⟨⟨by decide +kernel, by decide +kernel⟩, (lw_it_0 (List.mem_of_getElem? (i := 23) rfl)), (lw_it_3 (List.mem_of_getElem? (i := 122) rfl)), (lw_it_3 (List.mem_of_getElem? (i := 123) rfl))⟩
theorem lw_p39 : lw_okq (⟨"UnbeatenHouse$Gatherer", "addUp", "(LUnbeatenHouse$Tale;I)V"⟩, 3) := ⟨⟨by decide +kernel, by decide +kernel⟩, (lw_it_1 (List.mem_of_getElem? (i := 10) rfl)), (lw_it_3 (List.mem_of_getElem? (i := 130) rfl)), (lw_it_3 (List.mem_of_getElem? (i := 131) rfl))⟩
theorem lw_p40 : lw_okq (⟨"UnbeatenHouse$Judge", "work", "(III[I)V"⟩, 2) := ⟨⟨by decide +kernel, by decide +kernel⟩, (lw_it_1 (List.mem_of_getElem? (i := 16) rfl)), (lw_it_3 (List.mem_of_getElem? (i := 138) rfl)), (lw_it_3 (List.mem_of_getElem? (i := 139) rfl))⟩
theorem lw_p41 : lw_okq (⟨"UnbeatenHouse$Judge", "push", "(I)V"⟩, 2) := ⟨⟨by decide +kernel, by decide +kernel⟩, (lw_it_1 (List.mem_of_getElem? (i := 16) rfl)), (lw_it_3 (List.mem_of_getElem? (i := 142) rfl)), (lw_it_3 (List.mem_of_getElem? (i := 143) rfl))⟩
theorem lw_p42 : lw_okq (⟨"UnbeatenHouse$Judge", "pop", "()I"⟩, 2) := ⟨⟨by decide +kernel, by decide +kernel⟩, (lw_it_1 (List.mem_of_getElem? (i := 16) rfl)), (lw_it_3 (List.mem_of_getElem? (i := 152) rfl)), (lw_it_3 (List.mem_of_getElem? (i := 153) rfl))⟩
theorem lw_p43 : lw_okq (⟨"UnbeatenHouse$Picker", "measure", "(LUnbeatenHouse$Front;I)V"⟩, 5) := ⟨⟨by decide +kernel, by decide +kernel⟩, (lw_it_1 (List.mem_of_getElem? (i := 66) rfl)), (lw_it_3 (List.mem_of_getElem? (i := 234) rfl)), (lw_it_3 (List.mem_of_getElem? (i := 235) rfl))⟩
theorem lw_p44 : lw_okq (⟨"UnbeatenHouse$Picker", "pickOf", "(III)I"⟩, 5) := ⟨⟨by decide +kernel, by decide +kernel⟩, (lw_it_1 (List.mem_of_getElem? (i := 66) rfl)), (lw_it_4 (List.mem_of_getElem? (i := 4) rfl)), (lw_it_4 (List.mem_of_getElem? (i := 5) rfl))⟩
theorem lw_p45 : lw_okq (⟨"UnbeatenHouse$Picker", "farthest", "(II)I"⟩, 5) := ⟨⟨by decide +kernel, by decide +kernel⟩, (lw_it_1 (List.mem_of_getElem? (i := 66) rfl)), (lw_it_4 (List.mem_of_getElem? (i := 8) rfl)), (lw_it_4 (List.mem_of_getElem? (i := 9) rfl))⟩
theorem lw_p46 : lw_okq (⟨"UnbeatenHouse$Picker", "moveOn", "(I)Z"⟩, 5) := ⟨⟨by decide +kernel, by decide +kernel⟩, (lw_it_1 (List.mem_of_getElem? (i := 66) rfl)), (lw_it_4 (List.mem_of_getElem? (i := 14) rfl)), (lw_it_4 (List.mem_of_getElem? (i := 15) rfl))⟩
theorem lw_p47 : lw_okq (⟨"UnbeatenHouse$Sayings", "isSayingAgreed", "(IILUnbeatenHouse$Weighings;LUnbeatenHouse$Rows;)Z"⟩, 8) := ⟨⟨by decide +kernel, by decide +kernel⟩, (lw_it_1 (List.mem_of_getElem? (i := 113) rfl)), (lw_it_4 (List.mem_of_getElem? (i := 69) rfl)), (lw_it_4 (List.mem_of_getElem? (i := 70) rfl))⟩
def lw_privs_3 : List (MethodName × Nat) := [(⟨"UnbeatenHouse$Gatherer", "putLosses", "(LUnbeatenHouse$Tale;I)V"⟩, 3), (⟨"UnbeatenHouse$Gatherer", "goAlong", "(LUnbeatenHouse$Tale;II)V"⟩, 3), (⟨"UnbeatenHouse$Pool", "sort", "()V"⟩, 5), (⟨"UnbeatenHouse$Pool", "sink", "(II)V"⟩, 5), (⟨"UnbeatenHouse$Pool", "isAhead", "(II)Z"⟩, 5), (⟨"UnbeatenHouse$Pool", "swap", "(II)V"⟩, 5), (⟨"UnbeatenHouse", "takeSets", "()I"⟩, 16), (⟨"UnbeatenHouse$Gatherer", "addUp", "(LUnbeatenHouse$Tale;I)V"⟩, 3), (⟨"UnbeatenHouse$Judge", "work", "(III[I)V"⟩, 2), (⟨"UnbeatenHouse$Judge", "push", "(I)V"⟩, 2), (⟨"UnbeatenHouse$Judge", "pop", "()I"⟩, 2), (⟨"UnbeatenHouse$Picker", "measure", "(LUnbeatenHouse$Front;I)V"⟩, 5), (⟨"UnbeatenHouse$Picker", "pickOf", "(III)I"⟩, 5), (⟨"UnbeatenHouse$Picker", "farthest", "(II)I"⟩, 5), (⟨"UnbeatenHouse$Picker", "moveOn", "(I)Z"⟩, 5), (⟨"UnbeatenHouse$Sayings", "isSayingAgreed", "(IILUnbeatenHouse$Weighings;LUnbeatenHouse$Rows;)Z"⟩, 8)]
theorem lw_r3 : ∀ q ∈ lw_privs_3, lw_okq q := List.forall_mem_cons.mpr ⟨lw_p32, List.forall_mem_cons.mpr ⟨lw_p33, List.forall_mem_cons.mpr ⟨lw_p34, List.forall_mem_cons.mpr ⟨lw_p35, List.forall_mem_cons.mpr ⟨lw_p36, List.forall_mem_cons.mpr ⟨lw_p37, List.forall_mem_cons.mpr ⟨lw_p38, List.forall_mem_cons.mpr ⟨lw_p39, List.forall_mem_cons.mpr ⟨lw_p40, List.forall_mem_cons.mpr ⟨lw_p41, List.forall_mem_cons.mpr ⟨lw_p42, List.forall_mem_cons.mpr ⟨lw_p43, List.forall_mem_cons.mpr ⟨lw_p44, List.forall_mem_cons.mpr ⟨lw_p45, List.forall_mem_cons.mpr ⟨lw_p46, List.forall_mem_cons.mpr ⟨lw_p47, fun _ h => absurd h List.not_mem_nil⟩⟩⟩⟩⟩⟩⟩⟩⟩⟩⟩⟩⟩⟩⟩⟩
theorem lw_p48 : lw_okq (⟨"UnbeatenHouse$Sayings", "noteFirst", "(JLUnbeatenHouse$Rows;)V"⟩, 8) := ⟨⟨by decide +kernel, by decide +kernel⟩, (lw_it_1 (List.mem_of_getElem? (i := 113) rfl)), (lw_it_4 (List.mem_of_getElem? (i := 96) rfl)), (lw_it_4 (List.mem_of_getElem? (i := 97) rfl))⟩
theorem lw_p49 : lw_okq (⟨"UnbeatenHouse$Sayings", "tryQuestion", "(II)V"⟩, 8) := ⟨⟨by decide +kernel, by decide +kernel⟩, (lw_it_1 (List.mem_of_getElem? (i := 113) rfl)), (lw_it_4 (List.mem_of_getElem? (i := 101) rfl)), (lw_it_4 (List.mem_of_getElem? (i := 102) rfl))⟩
theorem lw_p50 : lw_okq (⟨"UnbeatenHouse$Sayings", "agreedSayings", "(ILUnbeatenHouse$Weighings;LUnbeatenHouse$Rows;)I"⟩, 8) := ⟨⟨by decide +kernel, by decide +kernel⟩, (lw_it_1 (List.mem_of_getElem? (i := 113) rfl)), (lw_it_4 (List.mem_of_getElem? (i := 115) rfl)), (lw_it_4 (List.mem_of_getElem? (i := 116) rfl))⟩
theorem lw_p51 : lw_okq (⟨"UnbeatenHouse$Sayings", "spreadToParts", "(I)V"⟩, 8) := ⟨⟨by decide +kernel, by decide +kernel⟩, (lw_it_1 (List.mem_of_getElem? (i := 113) rfl)), (lw_it_4 (List.mem_of_getElem? (i := 119) rfl)), (lw_it_4 (List.mem_of_getElem? (i := 120) rfl))⟩
theorem lw_p52 : lw_okq (⟨"UnbeatenHouse$People", "weighAll", "(ILUnbeatenHouse$Rows;)V"⟩, 6) := ⟨⟨by decide +kernel, by decide +kernel⟩, (lw_it_1 (List.mem_of_getElem? (i := 148) rfl)), (lw_it_4 (List.mem_of_getElem? (i := 161) rfl)), (lw_it_4 (List.mem_of_getElem? (i := 162) rfl))⟩
theorem lw_p53 : lw_okq (⟨"UnbeatenHouse$People", "pickAheadOfAll", "(J)I"⟩, 6) := ⟨⟨by decide +kernel, by decide +kernel⟩, (lw_it_1 (List.mem_of_getElem? (i := 148) rfl)), (lw_it_4 (List.mem_of_getElem? (i := 169) rfl)), (lw_it_4 (List.mem_of_getElem? (i := 170) rfl))⟩
theorem lw_p54 : lw_okq (⟨"UnbeatenHouse$People", "isAheadForMost", "(II)Z"⟩, 6) := ⟨⟨by decide +kernel, by decide +kernel⟩, (lw_it_1 (List.mem_of_getElem? (i := 148) rfl)), (lw_it_4 (List.mem_of_getElem? (i := 174) rfl)), (lw_it_4 (List.mem_of_getElem? (i := 175) rfl))⟩
theorem lw_p55 : lw_okq (⟨"UnbeatenHouse$People", "isAhead", "(III)Z"⟩, 6) := ⟨⟨by decide +kernel, by decide +kernel⟩, (lw_it_1 (List.mem_of_getElem? (i := 148) rfl)), (lw_it_4 (List.mem_of_getElem? (i := 178) rfl)), (lw_it_4 (List.mem_of_getElem? (i := 179) rfl))⟩
theorem lw_p56 : lw_okq (⟨"UnbeatenHouse$People", "blameOf", "(IIJ)I"⟩, 6) := ⟨⟨by decide +kernel, by decide +kernel⟩, (lw_it_1 (List.mem_of_getElem? (i := 148) rfl)), (lw_it_4 (List.mem_of_getElem? (i := 182) rfl)), (lw_it_4 (List.mem_of_getElem? (i := 183) rfl))⟩
theorem lw_p57 : lw_okq (⟨"UnbeatenHouse$People", "isBehindAll", "(I)Z"⟩, 6) := ⟨⟨by decide +kernel, by decide +kernel⟩, (lw_it_1 (List.mem_of_getElem? (i := 148) rfl)), (lw_it_4 (List.mem_of_getElem? (i := 200) rfl)), (lw_it_4 (List.mem_of_getElem? (i := 201) rfl))⟩
theorem lw_p58 : lw_okq (⟨"UnbeatenHouse$People", "everFirst", "()J"⟩, 6) := ⟨⟨by decide +kernel, by decide +kernel⟩, (lw_it_1 (List.mem_of_getElem? (i := 148) rfl)), (lw_it_4 (List.mem_of_getElem? (i := 204) rfl)), (lw_it_4 (List.mem_of_getElem? (i := 205) rfl))⟩
theorem lw_p59 : lw_okq (⟨"UnbeatenHouseModel", "put", "(I)V"⟩, 77) := ⟨⟨by decide +kernel, by decide +kernel⟩, (lw_it_4 (List.mem_of_getElem? (i := 213) rfl)), (lw_it_5 (List.mem_of_getElem? (i := 217) rfl)), (lw_it_5 (List.mem_of_getElem? (i := 218) rfl))⟩
theorem lw_p60 : lw_okq (⟨"UnbeatenHouseModel", "next", "()V"⟩, 77) := ⟨⟨by decide +kernel, by decide +kernel⟩, (lw_it_4 (List.mem_of_getElem? (i := 213) rfl)), (lw_it_5 (List.mem_of_getElem? (i := 229) rfl)), (lw_it_5 (List.mem_of_getElem? (i := 230) rfl))⟩
theorem lw_p61 : lw_okq (⟨"UnbeatenHouseModel", "blame", "(II)V"⟩, 77) := ⟨⟨by decide +kernel, by decide +kernel⟩, (lw_it_4 (List.mem_of_getElem? (i := 213) rfl)), (lw_it_5 (List.mem_of_getElem? (i := 239) rfl)), (lw_it_6 (List.mem_of_getElem? (i := 0) rfl))⟩
theorem lw_p62 : lw_okq (⟨"UnbeatenHouseModel", "statement", "()V"⟩, 77) := ⟨⟨by decide +kernel, by decide +kernel⟩, (lw_it_4 (List.mem_of_getElem? (i := 213) rfl)), (lw_it_6 (List.mem_of_getElem? (i := 3) rfl)), (lw_it_6 (List.mem_of_getElem? (i := 4) rfl))⟩
theorem lw_p63 : lw_okq (⟨"UnbeatenHouseModel", "isWord", "(J)Z"⟩, 77) := ⟨⟨by decide +kernel, by decide +kernel⟩, (lw_it_4 (List.mem_of_getElem? (i := 213) rfl)), (lw_it_6 (List.mem_of_getElem? (i := 8) rfl)), (lw_it_6 (List.mem_of_getElem? (i := 9) rfl))⟩
def lw_privs_4 : List (MethodName × Nat) := [(⟨"UnbeatenHouse$Sayings", "noteFirst", "(JLUnbeatenHouse$Rows;)V"⟩, 8), (⟨"UnbeatenHouse$Sayings", "tryQuestion", "(II)V"⟩, 8), (⟨"UnbeatenHouse$Sayings", "agreedSayings", "(ILUnbeatenHouse$Weighings;LUnbeatenHouse$Rows;)I"⟩, 8), (⟨"UnbeatenHouse$Sayings", "spreadToParts", "(I)V"⟩, 8), (⟨"UnbeatenHouse$People", "weighAll", "(ILUnbeatenHouse$Rows;)V"⟩, 6), (⟨"UnbeatenHouse$People", "pickAheadOfAll", "(J)I"⟩, 6), (⟨"UnbeatenHouse$People", "isAheadForMost", "(II)Z"⟩, 6), (⟨"UnbeatenHouse$People", "isAhead", "(III)Z"⟩, 6), (⟨"UnbeatenHouse$People", "blameOf", "(IIJ)I"⟩, 6), (⟨"UnbeatenHouse$People", "isBehindAll", "(I)Z"⟩, 6), (⟨"UnbeatenHouse$People", "everFirst", "()J"⟩, 6), (⟨"UnbeatenHouseModel", "put", "(I)V"⟩, 77), (⟨"UnbeatenHouseModel", "next", "()V"⟩, 77), (⟨"UnbeatenHouseModel", "blame", "(II)V"⟩, 77), (⟨"UnbeatenHouseModel", "statement", "()V"⟩, 77), (⟨"UnbeatenHouseModel", "isWord", "(J)Z"⟩, 77)]
theorem lw_r4 : ∀ q ∈ lw_privs_4, lw_okq q := List.forall_mem_cons.mpr ⟨lw_p48, List.forall_mem_cons.mpr ⟨lw_p49, List.forall_mem_cons.mpr ⟨lw_p50, List.forall_mem_cons.mpr ⟨lw_p51, List.forall_mem_cons.mpr ⟨lw_p52, List.forall_mem_cons.mpr ⟨lw_p53, List.forall_mem_cons.mpr ⟨lw_p54, List.forall_mem_cons.mpr ⟨lw_p55, List.forall_mem_cons.mpr ⟨lw_p56, List.forall_mem_cons.mpr ⟨lw_p57, List.forall_mem_cons.mpr ⟨lw_p58, List.forall_mem_cons.mpr ⟨lw_p59, List.forall_mem_cons.mpr ⟨lw_p60, List.forall_mem_cons.mpr ⟨lw_p61, List.forall_mem_cons.mpr ⟨lw_p62, List.forall_mem_cons.mpr ⟨lw_p63, fun _ h => absurd h List.not_mem_nil⟩⟩⟩⟩⟩⟩⟩⟩⟩⟩⟩⟩⟩⟩⟩⟩
theorem lw_p64 : lw_okq (⟨"UnbeatenHouseModel", "wish", "()V"⟩, 77) := ⟨⟨by decide +kernel, by decide +kernel⟩, (lw_it_4 (List.mem_of_getElem? (i := 213) rfl)), (lw_it_6 (List.mem_of_getElem? (i := 12) rfl)), (lw_it_6 (List.mem_of_getElem? (i := 13) rfl))⟩
theorem lw_p65 : lw_okq (⟨"UnbeatenHouseModel", "counts", "(ZZ)V"⟩, 77) := ⟨⟨by decide +kernel, by decide +kernel⟩, (lw_it_4 (List.mem_of_getElem? (i := 213) rfl)), (lw_it_6 (List.mem_of_getElem? (i := 16) rfl)), (lw_it_6 (List.mem_of_getElem? (i := 17) rfl))⟩
theorem lw_p66 : lw_okq (⟨"UnbeatenHouseModel", "fresh", "()J"⟩, 77) := ⟨⟨by decide +kernel, by decide +kernel⟩, (lw_it_4 (List.mem_of_getElem? (i := 213) rfl)), (lw_it_6 (List.mem_of_getElem? (i := 20) rfl)), (lw_it_6 (List.mem_of_getElem? (i := 21) rfl))⟩
theorem lw_p67 : lw_okq (⟨"UnbeatenHouseModel", "isOwn", "(J)Z"⟩, 77) := ⟨⟨by decide +kernel, by decide +kernel⟩, (lw_it_4 (List.mem_of_getElem? (i := 213) rfl)), (lw_it_6 (List.mem_of_getElem? (i := 24) rfl)), (lw_it_6 (List.mem_of_getElem? (i := 25) rfl))⟩
theorem lw_p68 : lw_okq (⟨"UnbeatenHouseModel", "isName", "(J)Z"⟩, 77) := ⟨⟨by decide +kernel, by decide +kernel⟩, (lw_it_4 (List.mem_of_getElem? (i := 213) rfl)), (lw_it_6 (List.mem_of_getElem? (i := 44) rfl)), (lw_it_6 (List.mem_of_getElem? (i := 45) rfl))⟩
theorem lw_p69 : lw_okq (⟨"UnbeatenHouseModel", "wishOf", "(IJ)I"⟩, 77) := ⟨⟨by decide +kernel, by decide +kernel⟩, (lw_it_4 (List.mem_of_getElem? (i := 213) rfl)), (lw_it_6 (List.mem_of_getElem? (i := 48) rfl)), (lw_it_6 (List.mem_of_getElem? (i := 49) rfl))⟩
theorem lw_p70 : lw_okq (⟨"UnbeatenHouseModel", "knotOf", "(IJ)I"⟩, 77) := ⟨⟨by decide +kernel, by decide +kernel⟩, (lw_it_4 (List.mem_of_getElem? (i := 213) rfl)), (lw_it_6 (List.mem_of_getElem? (i := 52) rfl)), (lw_it_6 (List.mem_of_getElem? (i := 53) rfl))⟩
theorem lw_p71 : lw_okq (⟨"UnbeatenHouseModel", "thingOf", "(IJ)I"⟩, 77) := ⟨⟨by decide +kernel, by decide +kernel⟩, (lw_it_4 (List.mem_of_getElem? (i := 213) rfl)), (lw_it_6 (List.mem_of_getElem? (i := 56) rfl)), (lw_it_6 (List.mem_of_getElem? (i := 57) rfl))⟩
theorem lw_p72 : lw_okq (⟨"UnbeatenHouseModel", "row", "()V"⟩, 77) := ⟨⟨by decide +kernel, by decide +kernel⟩, (lw_it_4 (List.mem_of_getElem? (i := 213) rfl)), (lw_it_6 (List.mem_of_getElem? (i := 60) rfl)), (lw_it_6 (List.mem_of_getElem? (i := 61) rfl))⟩
theorem lw_p73 : lw_okq (⟨"UnbeatenHouseModel", "isSign", "(I)Z"⟩, 77) := ⟨⟨by decide +kernel, by decide +kernel⟩, (lw_it_4 (List.mem_of_getElem? (i := 213) rfl)), (lw_it_6 (List.mem_of_getElem? (i := 64) rfl)), (lw_it_6 (List.mem_of_getElem? (i := 65) rfl))⟩
theorem lw_p74 : lw_okq (⟨"UnbeatenHouseModel", "number", "()I"⟩, 77) := ⟨⟨by decide +kernel, by decide +kernel⟩, (lw_it_4 (List.mem_of_getElem? (i := 213) rfl)), (lw_it_6 (List.mem_of_getElem? (i := 68) rfl)), (lw_it_6 (List.mem_of_getElem? (i := 69) rfl))⟩
theorem lw_p75 : lw_okq (⟨"UnbeatenHouseModel", "tie", "()V"⟩, 77) := ⟨⟨by decide +kernel, by decide +kernel⟩, (lw_it_4 (List.mem_of_getElem? (i := 213) rfl)), (lw_it_6 (List.mem_of_getElem? (i := 72) rfl)), (lw_it_6 (List.mem_of_getElem? (i := 73) rfl))⟩
theorem lw_p76 : lw_okq (⟨"UnbeatenHouseModel", "knotRead", "(I)I"⟩, 77) := ⟨⟨by decide +kernel, by decide +kernel⟩, (lw_it_4 (List.mem_of_getElem? (i := 213) rfl)), (lw_it_6 (List.mem_of_getElem? (i := 76) rfl)), (lw_it_6 (List.mem_of_getElem? (i := 77) rfl))⟩
theorem lw_p77 : lw_okq (⟨"UnbeatenHouseModel", "thing", "()V"⟩, 77) := ⟨⟨by decide +kernel, by decide +kernel⟩, (lw_it_4 (List.mem_of_getElem? (i := 213) rfl)), (lw_it_6 (List.mem_of_getElem? (i := 80) rfl)), (lw_it_6 (List.mem_of_getElem? (i := 81) rfl))⟩
theorem lw_p78 : lw_okq (⟨"UnbeatenHouseModel", "readsTest", "()V"⟩, 77) := ⟨⟨by decide +kernel, by decide +kernel⟩, (lw_it_4 (List.mem_of_getElem? (i := 213) rfl)), (lw_it_6 (List.mem_of_getElem? (i := 84) rfl)), (lw_it_6 (List.mem_of_getElem? (i := 85) rfl))⟩
theorem lw_p79 : lw_okq (⟨"UnbeatenHouseModel", "pushes", "(I)V"⟩, 77) := ⟨⟨by decide +kernel, by decide +kernel⟩, (lw_it_4 (List.mem_of_getElem? (i := 213) rfl)), (lw_it_6 (List.mem_of_getElem? (i := 88) rfl)), (lw_it_6 (List.mem_of_getElem? (i := 89) rfl))⟩
def lw_privs_5 : List (MethodName × Nat) := [(⟨"UnbeatenHouseModel", "wish", "()V"⟩, 77), (⟨"UnbeatenHouseModel", "counts", "(ZZ)V"⟩, 77), (⟨"UnbeatenHouseModel", "fresh", "()J"⟩, 77), (⟨"UnbeatenHouseModel", "isOwn", "(J)Z"⟩, 77), (⟨"UnbeatenHouseModel", "isName", "(J)Z"⟩, 77), (⟨"UnbeatenHouseModel", "wishOf", "(IJ)I"⟩, 77), (⟨"UnbeatenHouseModel", "knotOf", "(IJ)I"⟩, 77), (⟨"UnbeatenHouseModel", "thingOf", "(IJ)I"⟩, 77), (⟨"UnbeatenHouseModel", "row", "()V"⟩, 77), (⟨"UnbeatenHouseModel", "isSign", "(I)Z"⟩, 77), (⟨"UnbeatenHouseModel", "number", "()I"⟩, 77), (⟨"UnbeatenHouseModel", "tie", "()V"⟩, 77), (⟨"UnbeatenHouseModel", "knotRead", "(I)I"⟩, 77), (⟨"UnbeatenHouseModel", "thing", "()V"⟩, 77), (⟨"UnbeatenHouseModel", "readsTest", "()V"⟩, 77), (⟨"UnbeatenHouseModel", "pushes", "(I)V"⟩, 77)]
theorem lw_r5 : ∀ q ∈ lw_privs_5, lw_okq q := List.forall_mem_cons.mpr ⟨lw_p64, List.forall_mem_cons.mpr ⟨lw_p65, List.forall_mem_cons.mpr ⟨lw_p66, List.forall_mem_cons.mpr ⟨lw_p67, List.forall_mem_cons.mpr ⟨lw_p68, List.forall_mem_cons.mpr ⟨lw_p69, List.forall_mem_cons.mpr ⟨lw_p70, List.forall_mem_cons.mpr ⟨lw_p71, List.forall_mem_cons.mpr ⟨lw_p72, List.forall_mem_cons.mpr ⟨lw_p73, List.forall_mem_cons.mpr ⟨lw_p74, List.forall_mem_cons.mpr ⟨lw_p75, List.forall_mem_cons.mpr ⟨lw_p76, List.forall_mem_cons.mpr ⟨lw_p77, List.forall_mem_cons.mpr ⟨lw_p78, List.forall_mem_cons.mpr ⟨lw_p79, fun _ h => absurd h List.not_mem_nil⟩⟩⟩⟩⟩⟩⟩⟩⟩⟩⟩⟩⟩⟩⟩⟩
theorem lw_p80 : lw_okq (⟨"UnbeatenHouseModel", "part", "()Z"⟩, 77) := ⟨⟨by decide +kernel, by decide +kernel⟩, (lw_it_4 (List.mem_of_getElem? (i := 213) rfl)), (lw_it_6 (List.mem_of_getElem? (i := 92) rfl)), (lw_it_6 (List.mem_of_getElem? (i := 93) rfl))⟩
theorem lw_p81 : lw_okq (⟨"UnbeatenHouseModel", "holdsBack", "(I)V"⟩, 77) := ⟨⟨by decide +kernel, by decide +kernel⟩, (lw_it_4 (List.mem_of_getElem? (i := 213) rfl)), (lw_it_6 (List.mem_of_getElem? (i := 99) rfl)), (lw_it_6 (List.mem_of_getElem? (i := 100) rfl))⟩
theorem lw_p82 : lw_okq (⟨"UnbeatenHouseModel", "opens", "(I)V"⟩, 77) := ⟨⟨by decide +kernel, by decide +kernel⟩, (lw_it_4 (List.mem_of_getElem? (i := 213) rfl)), (lw_it_6 (List.mem_of_getElem? (i := 103) rfl)), (lw_it_6 (List.mem_of_getElem? (i := 104) rfl))⟩
theorem lw_p83 : lw_okq (⟨"UnbeatenHouseModel", "add", "(II)V"⟩, 77) := ⟨⟨by decide +kernel, by decide +kernel⟩, (lw_it_4 (List.mem_of_getElem? (i := 213) rfl)), (lw_it_6 (List.mem_of_getElem? (i := 107) rfl)), (lw_it_6 (List.mem_of_getElem? (i := 108) rfl))⟩
theorem lw_p84 : lw_okq (⟨"UnbeatenHouseModel", "named", "(I)V"⟩, 77) := ⟨⟨by decide +kernel, by decide +kernel⟩, (lw_it_4 (List.mem_of_getElem? (i := 213) rfl)), (lw_it_6 (List.mem_of_getElem? (i := 111) rfl)), (lw_it_6 (List.mem_of_getElem? (i := 112) rfl))⟩
theorem lw_p85 : lw_okq (⟨"UnbeatenHouseModel", "goesOn", "()Z"⟩, 77) := ⟨⟨by decide +kernel, by decide +kernel⟩, (lw_it_4 (List.mem_of_getElem? (i := 213) rfl)), (lw_it_6 (List.mem_of_getElem? (i := 115) rfl)), (lw_it_6 (List.mem_of_getElem? (i := 116) rfl))⟩
theorem lw_p86 : lw_okq (⟨"UnbeatenHouseModel", "joins", "(I)V"⟩, 77) := ⟨⟨by decide +kernel, by decide +kernel⟩, (lw_it_4 (List.mem_of_getElem? (i := 213) rfl)), (lw_it_6 (List.mem_of_getElem? (i := 119) rfl)), (lw_it_6 (List.mem_of_getElem? (i := 120) rfl))⟩
theorem lw_p87 : lw_okq (⟨"UnbeatenHouseModel", "must", "(I)V"⟩, 77) := ⟨⟨by decide +kernel, by decide +kernel⟩, (lw_it_4 (List.mem_of_getElem? (i := 213) rfl)), (lw_it_6 (List.mem_of_getElem? (i := 126) rfl)), (lw_it_6 (List.mem_of_getElem? (i := 127) rfl))⟩
theorem lw_p88 : lw_okq (⟨"UnbeatenHouseModel", "isWish", "(I)Z"⟩, 77) := ⟨⟨by decide +kernel, by decide +kernel⟩, (lw_it_4 (List.mem_of_getElem? (i := 213) rfl)), (lw_it_6 (List.mem_of_getElem? (i := 142) rfl)), (lw_it_6 (List.mem_of_getElem? (i := 143) rfl))⟩
theorem lw_p89 : lw_okq (⟨"UnbeatenHouseModel", "isRow", "(I)Z"⟩, 77) := ⟨⟨by decide +kernel, by decide +kernel⟩, (lw_it_4 (List.mem_of_getElem? (i := 213) rfl)), (lw_it_6 (List.mem_of_getElem? (i := 153) rfl)), (lw_it_6 (List.mem_of_getElem? (i := 154) rfl))⟩
theorem lw_p90 : lw_okq (⟨"UnbeatenHouseModel", "rowAt", "(II)I"⟩, 77) := ⟨⟨by decide +kernel, by decide +kernel⟩, (lw_it_4 (List.mem_of_getElem? (i := 213) rfl)), (lw_it_6 (List.mem_of_getElem? (i := 161) rfl)), (lw_it_6 (List.mem_of_getElem? (i := 162) rfl))⟩
theorem lw_p91 : lw_okq (⟨"UnbeatenHouseModel", "doesBeat", "(II)Z"⟩, 77) := ⟨⟨by decide +kernel, by decide +kernel⟩, (lw_it_4 (List.mem_of_getElem? (i := 213) rfl)), (lw_it_6 (List.mem_of_getElem? (i := 169) rfl)), (lw_it_6 (List.mem_of_getElem? (i := 170) rfl))⟩
theorem lw_p92 : lw_okq (⟨"UnbeatenHouseModel", "isAside", "(I)Z"⟩, 77) := ⟨⟨by decide +kernel, by decide +kernel⟩, (lw_it_4 (List.mem_of_getElem? (i := 213) rfl)), (lw_it_6 (List.mem_of_getElem? (i := 173) rfl)), (lw_it_6 (List.mem_of_getElem? (i := 174) rfl))⟩
theorem lw_p93 : lw_okq (⟨"UnbeatenHouseModel", "rowLoss", "(II)I"⟩, 77) := ⟨⟨by decide +kernel, by decide +kernel⟩, (lw_it_4 (List.mem_of_getElem? (i := 213) rfl)), (lw_it_6 (List.mem_of_getElem? (i := 177) rfl)), (lw_it_6 (List.mem_of_getElem? (i := 178) rfl))⟩
theorem lw_p94 : lw_okq (⟨"UnbeatenHouseModel", "lossOf", "(II)I"⟩, 77) := ⟨⟨by decide +kernel, by decide +kernel⟩, (lw_it_4 (List.mem_of_getElem? (i := 213) rfl)), (lw_it_6 (List.mem_of_getElem? (i := 181) rfl)), (lw_it_6 (List.mem_of_getElem? (i := 182) rfl))⟩
theorem lw_p95 : lw_okq (⟨"UnbeatenHouseModel", "rowFront", "()J"⟩, 77) := ⟨⟨by decide +kernel, by decide +kernel⟩, (lw_it_4 (List.mem_of_getElem? (i := 213) rfl)), (lw_it_6 (List.mem_of_getElem? (i := 189) rfl)), (lw_it_6 (List.mem_of_getElem? (i := 190) rfl))⟩
def lw_privs_6 : List (MethodName × Nat) := [(⟨"UnbeatenHouseModel", "part", "()Z"⟩, 77), (⟨"UnbeatenHouseModel", "holdsBack", "(I)V"⟩, 77), (⟨"UnbeatenHouseModel", "opens", "(I)V"⟩, 77), (⟨"UnbeatenHouseModel", "add", "(II)V"⟩, 77), (⟨"UnbeatenHouseModel", "named", "(I)V"⟩, 77), (⟨"UnbeatenHouseModel", "goesOn", "()Z"⟩, 77), (⟨"UnbeatenHouseModel", "joins", "(I)V"⟩, 77), (⟨"UnbeatenHouseModel", "must", "(I)V"⟩, 77), (⟨"UnbeatenHouseModel", "isWish", "(I)Z"⟩, 77), (⟨"UnbeatenHouseModel", "isRow", "(I)Z"⟩, 77), (⟨"UnbeatenHouseModel", "rowAt", "(II)I"⟩, 77), (⟨"UnbeatenHouseModel", "doesBeat", "(II)Z"⟩, 77), (⟨"UnbeatenHouseModel", "isAside", "(I)Z"⟩, 77), (⟨"UnbeatenHouseModel", "rowLoss", "(II)I"⟩, 77), (⟨"UnbeatenHouseModel", "lossOf", "(II)I"⟩, 77), (⟨"UnbeatenHouseModel", "rowFront", "()J"⟩, 77)]
theorem lw_r6 : ∀ q ∈ lw_privs_6, lw_okq q := List.forall_mem_cons.mpr ⟨lw_p80, List.forall_mem_cons.mpr ⟨lw_p81, List.forall_mem_cons.mpr ⟨lw_p82, List.forall_mem_cons.mpr ⟨lw_p83, List.forall_mem_cons.mpr ⟨lw_p84, List.forall_mem_cons.mpr ⟨lw_p85, List.forall_mem_cons.mpr ⟨lw_p86, List.forall_mem_cons.mpr ⟨lw_p87, List.forall_mem_cons.mpr ⟨lw_p88, List.forall_mem_cons.mpr ⟨lw_p89, List.forall_mem_cons.mpr ⟨lw_p90, List.forall_mem_cons.mpr ⟨lw_p91, List.forall_mem_cons.mpr ⟨lw_p92, List.forall_mem_cons.mpr ⟨lw_p93, List.forall_mem_cons.mpr ⟨lw_p94, List.forall_mem_cons.mpr ⟨lw_p95, fun _ h => absurd h List.not_mem_nil⟩⟩⟩⟩⟩⟩⟩⟩⟩⟩⟩⟩⟩⟩⟩⟩
theorem lw_p96 : lw_okq (⟨"UnbeatenHouseModel", "mayBeat", "(II)I"⟩, 77) := ⟨⟨by decide +kernel, by decide +kernel⟩, (lw_it_4 (List.mem_of_getElem? (i := 213) rfl)), (lw_it_6 (List.mem_of_getElem? (i := 213) rfl)), (lw_it_6 (List.mem_of_getElem? (i := 214) rfl))⟩
theorem lw_p97 : lw_okq (⟨"UnbeatenHouseModel", "mostLoss", "(II)I"⟩, 77) := ⟨⟨by decide +kernel, by decide +kernel⟩, (lw_it_4 (List.mem_of_getElem? (i := 213) rfl)), (lw_it_6 (List.mem_of_getElem? (i := 217) rfl)), (lw_it_6 (List.mem_of_getElem? (i := 218) rfl))⟩
theorem lw_p98 : lw_okq (⟨"UnbeatenHouseModel", "leastLoss", "(II)I"⟩, 77) := ⟨⟨by decide +kernel, by decide +kernel⟩, (lw_it_4 (List.mem_of_getElem? (i := 213) rfl)), (lw_it_6 (List.mem_of_getElem? (i := 221) rfl)), (lw_it_6 (List.mem_of_getElem? (i := 222) rfl))⟩
theorem lw_p99 : lw_okq (⟨"UnbeatenHouseModel", "ways", "(II)V"⟩, 77) := ⟨⟨by decide +kernel, by decide +kernel⟩, (lw_it_4 (List.mem_of_getElem? (i := 213) rfl)), (lw_it_6 (List.mem_of_getElem? (i := 233) rfl)), (lw_it_6 (List.mem_of_getElem? (i := 234) rfl))⟩
theorem lw_p100 : lw_okq (⟨"UnbeatenHouseModel", "gathers", "(I)V"⟩, 77) := ⟨⟨by decide +kernel, by decide +kernel⟩, (lw_it_4 (List.mem_of_getElem? (i := 213) rfl)), (lw_it_6 (List.mem_of_getElem? (i := 237) rfl)), (lw_it_6 (List.mem_of_getElem? (i := 238) rfl))⟩
theorem lw_p101 : lw_okq (⟨"UnbeatenHouseModel", "isLost", "(I)Z"⟩, 77) := ⟨⟨by decide +kernel, by decide +kernel⟩, (lw_it_4 (List.mem_of_getElem? (i := 213) rfl)), (lw_it_7 (List.mem_of_getElem? (i := 1) rfl)), (lw_it_7 (List.mem_of_getElem? (i := 2) rfl))⟩
theorem lw_p102 : lw_okq (⟨"UnbeatenHouseModel", "isWorse", "(I)Z"⟩, 77) := ⟨⟨by decide +kernel, by decide +kernel⟩, (lw_it_4 (List.mem_of_getElem? (i := 213) rfl)), (lw_it_7 (List.mem_of_getElem? (i := 5) rfl)), (lw_it_7 (List.mem_of_getElem? (i := 6) rfl))⟩
theorem lw_p103 : lw_okq (⟨"UnbeatenHouseModel", "lays", "(II)V"⟩, 77) := ⟨⟨by decide +kernel, by decide +kernel⟩, (lw_it_4 (List.mem_of_getElem? (i := 213) rfl)), (lw_it_7 (List.mem_of_getElem? (i := 9) rfl)), (lw_it_7 (List.mem_of_getElem? (i := 10) rfl))⟩
theorem lw_p104 : lw_okq (⟨"UnbeatenHouseModel", "sets", "()V"⟩, 77) := ⟨⟨by decide +kernel, by decide +kernel⟩, (lw_it_4 (List.mem_of_getElem? (i := 213) rfl)), (lw_it_7 (List.mem_of_getElem? (i := 13) rfl)), (lw_it_7 (List.mem_of_getElem? (i := 14) rfl))⟩
theorem lw_p105 : lw_okq (⟨"UnbeatenHouseModel", "works", "(II)J"⟩, 77) := ⟨⟨by decide +kernel, by decide +kernel⟩, (lw_it_4 (List.mem_of_getElem? (i := 213) rfl)), (lw_it_7 (List.mem_of_getElem? (i := 17) rfl)), (lw_it_7 (List.mem_of_getElem? (i := 18) rfl))⟩
theorem lw_p106 : lw_okq (⟨"UnbeatenHouseModel", "leaf", "(II)J"⟩, 77) := ⟨⟨by decide +kernel, by decide +kernel⟩, (lw_it_4 (List.mem_of_getElem? (i := 213) rfl)), (lw_it_7 (List.mem_of_getElem? (i := 21) rfl)), (lw_it_7 (List.mem_of_getElem? (i := 22) rfl))⟩
theorem lw_p107 : lw_okq (⟨"UnbeatenHouseModel", "setHas", "(I)I"⟩, 77) := ⟨⟨by decide +kernel, by decide +kernel⟩, (lw_it_4 (List.mem_of_getElem? (i := 213) rfl)), (lw_it_7 (List.mem_of_getElem? (i := 25) rfl)), (lw_it_7 (List.mem_of_getElem? (i := 26) rfl))⟩
theorem lw_p108 : lw_okq (⟨"UnbeatenHouseModel", "isAhead", "(II)Z"⟩, 77) := ⟨⟨by decide +kernel, by decide +kernel⟩, (lw_it_4 (List.mem_of_getElem? (i := 213) rfl)), (lw_it_7 (List.mem_of_getElem? (i := 40) rfl)), (lw_it_7 (List.mem_of_getElem? (i := 41) rfl))⟩
theorem lw_p109 : lw_okq (⟨"UnbeatenHouseModel", "isFront", "(I)Z"⟩, 77) := ⟨⟨by decide +kernel, by decide +kernel⟩, (lw_it_4 (List.mem_of_getElem? (i := 213) rfl)), (lw_it_7 (List.mem_of_getElem? (i := 48) rfl)), (lw_it_7 (List.mem_of_getElem? (i := 49) rfl))⟩
theorem lw_p110 : lw_okq (⟨"UnbeatenHouseModel", "numbers", "()I"⟩, 77) := ⟨⟨by decide +kernel, by decide +kernel⟩, (lw_it_4 (List.mem_of_getElem? (i := 213) rfl)), (lw_it_7 (List.mem_of_getElem? (i := 69) rfl)), (lw_it_7 (List.mem_of_getElem? (i := 70) rfl))⟩
theorem lw_p111 : lw_okq (⟨"UnbeatenHouseModel", "isWeighing", "(I)Z"⟩, 77) := ⟨⟨by decide +kernel, by decide +kernel⟩, (lw_it_4 (List.mem_of_getElem? (i := 213) rfl)), (lw_it_7 (List.mem_of_getElem? (i := 73) rfl)), (lw_it_7 (List.mem_of_getElem? (i := 74) rfl))⟩
def lw_privs_7 : List (MethodName × Nat) := [(⟨"UnbeatenHouseModel", "mayBeat", "(II)I"⟩, 77), (⟨"UnbeatenHouseModel", "mostLoss", "(II)I"⟩, 77), (⟨"UnbeatenHouseModel", "leastLoss", "(II)I"⟩, 77), (⟨"UnbeatenHouseModel", "ways", "(II)V"⟩, 77), (⟨"UnbeatenHouseModel", "gathers", "(I)V"⟩, 77), (⟨"UnbeatenHouseModel", "isLost", "(I)Z"⟩, 77), (⟨"UnbeatenHouseModel", "isWorse", "(I)Z"⟩, 77), (⟨"UnbeatenHouseModel", "lays", "(II)V"⟩, 77), (⟨"UnbeatenHouseModel", "sets", "()V"⟩, 77), (⟨"UnbeatenHouseModel", "works", "(II)J"⟩, 77), (⟨"UnbeatenHouseModel", "leaf", "(II)J"⟩, 77), (⟨"UnbeatenHouseModel", "setHas", "(I)I"⟩, 77), (⟨"UnbeatenHouseModel", "isAhead", "(II)Z"⟩, 77), (⟨"UnbeatenHouseModel", "isFront", "(I)Z"⟩, 77), (⟨"UnbeatenHouseModel", "numbers", "()I"⟩, 77), (⟨"UnbeatenHouseModel", "isWeighing", "(I)Z"⟩, 77)]
theorem lw_r7 : ∀ q ∈ lw_privs_7, lw_okq q := List.forall_mem_cons.mpr ⟨lw_p96, List.forall_mem_cons.mpr ⟨lw_p97, List.forall_mem_cons.mpr ⟨lw_p98, List.forall_mem_cons.mpr ⟨lw_p99, List.forall_mem_cons.mpr ⟨lw_p100, List.forall_mem_cons.mpr ⟨lw_p101, List.forall_mem_cons.mpr ⟨lw_p102, List.forall_mem_cons.mpr ⟨lw_p103, List.forall_mem_cons.mpr ⟨lw_p104, List.forall_mem_cons.mpr ⟨lw_p105, List.forall_mem_cons.mpr ⟨lw_p106, List.forall_mem_cons.mpr ⟨lw_p107, List.forall_mem_cons.mpr ⟨lw_p108, List.forall_mem_cons.mpr ⟨lw_p109, List.forall_mem_cons.mpr ⟨lw_p110, List.forall_mem_cons.mpr ⟨lw_p111, fun _ h => absurd h List.not_mem_nil⟩⟩⟩⟩⟩⟩⟩⟩⟩⟩⟩⟩⟩⟩⟩⟩
theorem lw_p112 : lw_okq (⟨"UnbeatenHouseModel", "isFirst", "(I)Z"⟩, 77) := ⟨⟨by decide +kernel, by decide +kernel⟩, (lw_it_4 (List.mem_of_getElem? (i := 213) rfl)), (lw_it_7 (List.mem_of_getElem? (i := 77) rfl)), (lw_it_7 (List.mem_of_getElem? (i := 78) rfl))⟩
theorem lw_p113 : lw_okq (⟨"UnbeatenHouseModel", "worth", "(I)I"⟩, 77) := ⟨⟨by decide +kernel, by decide +kernel⟩, (lw_it_4 (List.mem_of_getElem? (i := 213) rfl)), (lw_it_7 (List.mem_of_getElem? (i := 81) rfl)), (lw_it_7 (List.mem_of_getElem? (i := 82) rfl))⟩
theorem lw_p114 : lw_okq (⟨"UnbeatenHouseModel", "apart", "(I)I"⟩, 77) := ⟨⟨by decide +kernel, by decide +kernel⟩, (lw_it_4 (List.mem_of_getElem? (i := 213) rfl)), (lw_it_7 (List.mem_of_getElem? (i := 93) rfl)), (lw_it_7 (List.mem_of_getElem? (i := 94) rfl))⟩
theorem lw_p115 : lw_okq (⟨"UnbeatenHouseModel", "more", "(II)I"⟩, 77) := ⟨⟨by decide +kernel, by decide +kernel⟩, (lw_it_4 (List.mem_of_getElem? (i := 213) rfl)), (lw_it_7 (List.mem_of_getElem? (i := 97) rfl)), (lw_it_7 (List.mem_of_getElem? (i := 98) rfl))⟩
theorem lw_p116 : lw_okq (⟨"UnbeatenHouseModel", "keeps", "(I)V"⟩, 77) := ⟨⟨by decide +kernel, by decide +kernel⟩, (lw_it_4 (List.mem_of_getElem? (i := 213) rfl)), (lw_it_7 (List.mem_of_getElem? (i := 101) rfl)), (lw_it_7 (List.mem_of_getElem? (i := 102) rfl))⟩
theorem lw_p117 : lw_okq (⟨"UnbeatenHouseModel", "nextPick", "(I)Z"⟩, 77) := ⟨⟨by decide +kernel, by decide +kernel⟩, (lw_it_4 (List.mem_of_getElem? (i := 213) rfl)), (lw_it_7 (List.mem_of_getElem? (i := 105) rfl)), (lw_it_7 (List.mem_of_getElem? (i := 106) rfl))⟩
theorem lw_p118 : lw_okq (⟨"UnbeatenHouseModel", "agrees", "()Z"⟩, 77) := ⟨⟨by decide +kernel, by decide +kernel⟩, (lw_it_4 (List.mem_of_getElem? (i := 213) rfl)), (lw_it_7 (List.mem_of_getElem? (i := 140) rfl)), (lw_it_7 (List.mem_of_getElem? (i := 141) rfl))⟩
theorem lw_p119 : lw_okq (⟨"UnbeatenHouseModel", "agreed", "()I"⟩, 77) := ⟨⟨by decide +kernel, by decide +kernel⟩, (lw_it_4 (List.mem_of_getElem? (i := 213) rfl)), (lw_it_7 (List.mem_of_getElem? (i := 144) rfl)), (lw_it_7 (List.mem_of_getElem? (i := 145) rfl))⟩
theorem lw_p120 : lw_okq (⟨"UnbeatenHouseModel", "rowWorth", "(I)I"⟩, 77) := ⟨⟨by decide +kernel, by decide +kernel⟩, (lw_it_4 (List.mem_of_getElem? (i := 213) rfl)), (lw_it_7 (List.mem_of_getElem? (i := 148) rfl)), (lw_it_7 (List.mem_of_getElem? (i := 149) rfl))⟩
theorem lw_p121 : lw_okq (⟨"UnbeatenHouseModel", "gathersAgreeing", "()V"⟩, 77) := ⟨⟨by decide +kernel, by decide +kernel⟩, (lw_it_4 (List.mem_of_getElem? (i := 213) rfl)), (lw_it_7 (List.mem_of_getElem? (i := 156) rfl)), (lw_it_7 (List.mem_of_getElem? (i := 157) rfl))⟩
theorem lw_p122 : lw_okq (⟨"UnbeatenHouseModel", "leaves", "(II)I"⟩, 77) := ⟨⟨by decide +kernel, by decide +kernel⟩, (lw_it_4 (List.mem_of_getElem? (i := 213) rfl)), (lw_it_7 (List.mem_of_getElem? (i := 164) rfl)), (lw_it_7 (List.mem_of_getElem? (i := 165) rfl))⟩
theorem lw_p123 : lw_okq (⟨"UnbeatenHouseModel", "isAgreed", "(II)Z"⟩, 77) := ⟨⟨by decide +kernel, by decide +kernel⟩, (lw_it_4 (List.mem_of_getElem? (i := 213) rfl)), (lw_it_7 (List.mem_of_getElem? (i := 172) rfl)), (lw_it_7 (List.mem_of_getElem? (i := 173) rfl))⟩
theorem lw_p124 : lw_okq (⟨"UnbeatenHouseModel", "voters", "()I"⟩, 77) := ⟨⟨by decide +kernel, by decide +kernel⟩, (lw_it_4 (List.mem_of_getElem? (i := 213) rfl)), (lw_it_7 (List.mem_of_getElem? (i := 195) rfl)), (lw_it_7 (List.mem_of_getElem? (i := 196) rfl))⟩
theorem lw_p125 : lw_okq (⟨"UnbeatenHouseModel", "votes", "(I)Z"⟩, 77) := ⟨⟨by decide +kernel, by decide +kernel⟩, (lw_it_4 (List.mem_of_getElem? (i := 213) rfl)), (lw_it_7 (List.mem_of_getElem? (i := 199) rfl)), (lw_it_7 (List.mem_of_getElem? (i := 200) rfl))⟩
theorem lw_p126 : lw_okq (⟨"UnbeatenHouseModel", "candidates", "()J"⟩, 77) := ⟨⟨by decide +kernel, by decide +kernel⟩, (lw_it_4 (List.mem_of_getElem? (i := 213) rfl)), (lw_it_7 (List.mem_of_getElem? (i := 203) rfl)), (lw_it_7 (List.mem_of_getElem? (i := 204) rfl))⟩
theorem lw_p127 : lw_okq (⟨"UnbeatenHouseModel", "chosenBy", "(IJ)I"⟩, 77) := ⟨⟨by decide +kernel, by decide +kernel⟩, (lw_it_4 (List.mem_of_getElem? (i := 213) rfl)), (lw_it_7 (List.mem_of_getElem? (i := 207) rfl)), (lw_it_7 (List.mem_of_getElem? (i := 208) rfl))⟩
def lw_privs_8 : List (MethodName × Nat) := [(⟨"UnbeatenHouseModel", "isFirst", "(I)Z"⟩, 77), (⟨"UnbeatenHouseModel", "worth", "(I)I"⟩, 77), (⟨"UnbeatenHouseModel", "apart", "(I)I"⟩, 77), (⟨"UnbeatenHouseModel", "more", "(II)I"⟩, 77), (⟨"UnbeatenHouseModel", "keeps", "(I)V"⟩, 77), (⟨"UnbeatenHouseModel", "nextPick", "(I)Z"⟩, 77), (⟨"UnbeatenHouseModel", "agrees", "()Z"⟩, 77), (⟨"UnbeatenHouseModel", "agreed", "()I"⟩, 77), (⟨"UnbeatenHouseModel", "rowWorth", "(I)I"⟩, 77), (⟨"UnbeatenHouseModel", "gathersAgreeing", "()V"⟩, 77), (⟨"UnbeatenHouseModel", "leaves", "(II)I"⟩, 77), (⟨"UnbeatenHouseModel", "isAgreed", "(II)Z"⟩, 77), (⟨"UnbeatenHouseModel", "voters", "()I"⟩, 77), (⟨"UnbeatenHouseModel", "votes", "(I)Z"⟩, 77), (⟨"UnbeatenHouseModel", "candidates", "()J"⟩, 77), (⟨"UnbeatenHouseModel", "chosenBy", "(IJ)I"⟩, 77)]
theorem lw_r8 : ∀ q ∈ lw_privs_8, lw_okq q := List.forall_mem_cons.mpr ⟨lw_p112, List.forall_mem_cons.mpr ⟨lw_p113, List.forall_mem_cons.mpr ⟨lw_p114, List.forall_mem_cons.mpr ⟨lw_p115, List.forall_mem_cons.mpr ⟨lw_p116, List.forall_mem_cons.mpr ⟨lw_p117, List.forall_mem_cons.mpr ⟨lw_p118, List.forall_mem_cons.mpr ⟨lw_p119, List.forall_mem_cons.mpr ⟨lw_p120, List.forall_mem_cons.mpr ⟨lw_p121, List.forall_mem_cons.mpr ⟨lw_p122, List.forall_mem_cons.mpr ⟨lw_p123, List.forall_mem_cons.mpr ⟨lw_p124, List.forall_mem_cons.mpr ⟨lw_p125, List.forall_mem_cons.mpr ⟨lw_p126, List.forall_mem_cons.mpr ⟨lw_p127, fun _ h => absurd h List.not_mem_nil⟩⟩⟩⟩⟩⟩⟩⟩⟩⟩⟩⟩⟩⟩⟩⟩
theorem lw_p128 : lw_okq (⟨"UnbeatenHouseModel", "against", "(IIJ)I"⟩, 77) := ⟨⟨by decide +kernel, by decide +kernel⟩, (lw_it_4 (List.mem_of_getElem? (i := 213) rfl)), (lw_it_7 (List.mem_of_getElem? (i := 211) rfl)), (lw_it_7 (List.mem_of_getElem? (i := 212) rfl))⟩
theorem lw_p129 : lw_okq (⟨"UnbeatenHouseModel", "placeOf", "(IIJ)I"⟩, 77) := ⟨⟨by decide +kernel, by decide +kernel⟩, (lw_it_4 (List.mem_of_getElem? (i := 213) rfl)), (lw_it_7 (List.mem_of_getElem? (i := 215) rfl)), (lw_it_7 (List.mem_of_getElem? (i := 216) rfl))⟩
theorem lw_p130 : lw_okq (⟨"UnbeatenHouseModel", "isBefore", "(III)Z"⟩, 77) := ⟨⟨by decide +kernel, by decide +kernel⟩, (lw_it_4 (List.mem_of_getElem? (i := 213) rfl)), (lw_it_7 (List.mem_of_getElem? (i := 219) rfl)), (lw_it_7 (List.mem_of_getElem? (i := 220) rfl))⟩
theorem lw_p131 : lw_okq (⟨"UnbeatenHouseModel", "personWorth", "(II)I"⟩, 77) := ⟨⟨by decide +kernel, by decide +kernel⟩, (lw_it_4 (List.mem_of_getElem? (i := 213) rfl)), (lw_it_7 (List.mem_of_getElem? (i := 223) rfl)), (lw_it_7 (List.mem_of_getElem? (i := 224) rfl))⟩
theorem lw_p132 : lw_okq (⟨"UnbeatenHouseModel", "wins", "(II)Z"⟩, 77) := ⟨⟨by decide +kernel, by decide +kernel⟩, (lw_it_4 (List.mem_of_getElem? (i := 213) rfl)), (lw_it_7 (List.mem_of_getElem? (i := 227) rfl)), (lw_it_7 (List.mem_of_getElem? (i := 228) rfl))⟩
def lw_privs_9 : List (MethodName × Nat) := [(⟨"UnbeatenHouseModel", "against", "(IIJ)I"⟩, 77), (⟨"UnbeatenHouseModel", "placeOf", "(IIJ)I"⟩, 77), (⟨"UnbeatenHouseModel", "isBefore", "(III)Z"⟩, 77), (⟨"UnbeatenHouseModel", "personWorth", "(II)I"⟩, 77), (⟨"UnbeatenHouseModel", "wins", "(II)Z"⟩, 77)]
theorem lw_r9 : ∀ q ∈ lw_privs_9, lw_okq q := List.forall_mem_cons.mpr ⟨lw_p128, List.forall_mem_cons.mpr ⟨lw_p129, List.forall_mem_cons.mpr ⟨lw_p130, List.forall_mem_cons.mpr ⟨lw_p131, List.forall_mem_cons.mpr ⟨lw_p132, fun _ h => absurd h List.not_mem_nil⟩⟩⟩⟩⟩
def lw_privs : List (MethodName × Nat) := lw_privs_1 ++ (lw_privs_2 ++ (lw_privs_3 ++ (lw_privs_4 ++ (lw_privs_5 ++ (lw_privs_6 ++ (lw_privs_7 ++ (lw_privs_8 ++ (lw_privs_9))))))))
def lw_tbl : List Cond := k2_sels lw_privs ++ tables_1
theorem lw_privs_ok : ∀ q ∈ lw_privs, lw_okq q := by
  show ∀ q ∈ lw_privs_1 ++ (lw_privs_2 ++ (lw_privs_3 ++ (lw_privs_4 ++ (lw_privs_5 ++ (lw_privs_6 ++ (lw_privs_7 ++ (lw_privs_8 ++ (lw_privs_9)))))))), lw_okq q
  exact List.forall_mem_append.mpr ⟨lw_r1, List.forall_mem_append.mpr ⟨lw_r2, List.forall_mem_append.mpr ⟨lw_r3, List.forall_mem_append.mpr ⟨lw_r4, List.forall_mem_append.mpr ⟨lw_r5, List.forall_mem_append.mpr ⟨lw_r6, List.forall_mem_append.mpr ⟨lw_r7, List.forall_mem_append.mpr ⟨lw_r8, lw_r9⟩⟩⟩⟩⟩⟩⟩⟩
-- ===== end of PART A; then your names; then what follows =====
end
section
/-! the tables by pieces, behind the selects -/
theorem lw_in_0 {w : Cond} (h : w ∈ tables_1_1) : w ∈ lw_tbl := by
  show w ∈ k2_sels lw_privs ++ tables_1
  exact List.mem_append_right _ (lw_it_0 h)
theorem lw_in_1 {w : Cond} (h : w ∈ tables_1_2) : w ∈ lw_tbl := by
  show w ∈ k2_sels lw_privs ++ tables_1
  exact List.mem_append_right _ (lw_it_1 h)
theorem lw_in_2 {w : Cond} (h : w ∈ tables_1_3) : w ∈ lw_tbl := by
  show w ∈ k2_sels lw_privs ++ tables_1
  exact List.mem_append_right _ (lw_it_2 h)
theorem lw_in_3 {w : Cond} (h : w ∈ tables_1_4) : w ∈ lw_tbl := by
  show w ∈ k2_sels lw_privs ++ tables_1
  exact List.mem_append_right _ (lw_it_3 h)
theorem lw_in_4 {w : Cond} (h : w ∈ tables_1_5) : w ∈ lw_tbl := by
  show w ∈ k2_sels lw_privs ++ tables_1
  exact List.mem_append_right _ (lw_it_4 h)
theorem lw_in_5 {w : Cond} (h : w ∈ tables_1_6) : w ∈ lw_tbl := by
  show w ∈ k2_sels lw_privs ++ tables_1
  exact List.mem_append_right _ (lw_it_5 h)
theorem lw_in_6 {w : Cond} (h : w ∈ tables_1_7) : w ∈ lw_tbl := by
  show w ∈ k2_sels lw_privs ++ tables_1
  exact List.mem_append_right _ (lw_it_6 h)
theorem lw_in_7 {w : Cond} (h : w ∈ tables_1_8) : w ∈ lw_tbl := by
  show w ∈ k2_sels lw_privs ++ tables_1
  exact List.mem_append_right _ (lw_it_7 h)
theorem lw_in_8 {w : Cond} (h : w ∈ tables_1_9) : w ∈ lw_tbl := by
  show w ∈ k2_sels lw_privs ++ tables_1
  exact List.mem_append_right _ (lw_it_8 h)
theorem lw_lay {C : String} {T : u_T} {N b : Nat} {TB : List Cond} (hTB : ∀ w : Cond, w ∈ TB → w ∈ lw_tbl) (h : ∀ k, k < N → TB[b + 2 * k]? = some (u_lay C T k)) : ∀ w ∈ u_ws C T N, w ∈ lw_tbl := by
  intro w hw
  obtain ⟨k, hk, rfl⟩ := List.mem_map.mp hw
  exact hTB _ (List.mem_of_getElem? (h k (List.mem_range.mp hk)))
theorem lw_dist {T : u_T} {N : Nat} {L : List (String × String × String × Bool)} {d : String × String × String × Bool} (hT : T = fun k => L.getD k d) (hN : L.length = N) (h : L.Pairwise (fun x y => x.2.1 ≠ y.2.1)) : ∀ a, a < N → ∀ b, b < N → a ≠ b → (T a).2.1 ≠ (T b).2.1 := by
  subst hT
  subst hN
  have g : ∀ i : Nat, ∀ hi : i < L.length, L.getD i d = L[i] := fun i hi => by rw [List.getD_eq_getElem?_getD, List.getElem?_eq_getElem hi]; rfl
  have key : ∀ a b : Nat, a < b → ∀ hb : b < L.length, (L.getD a d).2.1 ≠ (L.getD b d).2.1 := by
    intro a b hab hb
    have h1 : (L[a]'(Nat.lt_trans hab hb)).2.1 ≠ (L[b]'hb).2.1 := List.pairwise_iff_getElem.mp h a b (Nat.lt_trans hab hb) hb hab
    rw [g a (Nat.lt_trans hab hb), g b hb]
    exact h1
  intro a ha b hb hab
  rcases Nat.lt_or_gt_of_ne hab with q | q
  · exact key a b q hb
  · exact fun e => key b a q ha e.symm
abbrev kz0 : Value := .int 0
abbrev kzn : Value := .null
abbrev kzl : Value := .long 0
abbrev kzm : Value := .int (-1)
abbrev kaI (q c n : Nat) : Nat × va_E := (q, .inl (c, n, .inl (fun _ => 0)))
abbrev kaJ (q c n : Nat) : Nat × va_E := (q, .inl (c, n, .inr (.inl (fun _ => 0))))
end
section
/-! the classes, by program -/
def mF_0 : u_T := fun k => ([("UnbeatenHouseModel", "tape", "[I", true), ("UnbeatenHouseModel", "taped", "I", false), ("UnbeatenHouseModel", "size", "I", false), ("UnbeatenHouseModel", "sign", "I", false), ("UnbeatenHouseModel", "signAt", "I", false), ("UnbeatenHouseModel", "signEnd", "I", false), ("UnbeatenHouseModel", "value", "I", false), ("UnbeatenHouseModel", "word", "J", false), ("UnbeatenHouseModel", "faultKind", "I", false), ("UnbeatenHouseModel", "faultPlace", "I", false), ("UnbeatenHouseModel", "toldKind", "I", false), ("UnbeatenHouseModel", "toldPlace", "I", false), ("UnbeatenHouseModel", "bank", "I", false), ("UnbeatenHouseModel", "wishes", "[I", true), ("UnbeatenHouseModel", "rows", "[I", true), ("UnbeatenHouseModel", "knots", "[I", true), ("UnbeatenHouseModel", "ties", "[I", true), ("UnbeatenHouseModel", "things", "[I", true), ("UnbeatenHouseModel", "rules", "[I", true), ("UnbeatenHouseModel", "wishName", "[J", true), ("UnbeatenHouseModel", "isMore", "[Z", true), ("UnbeatenHouseModel", "rowName", "[J", true), ("UnbeatenHouseModel", "rowHas", "[I", true), ("UnbeatenHouseModel", "spread", "[I", true), ("UnbeatenHouseModel", "knotName", "[J", true), ("UnbeatenHouseModel", "tieFrom", "[I", true), ("UnbeatenHouseModel", "tieTo", "[I", true), ("UnbeatenHouseModel", "tieHas", "[I", true), ("UnbeatenHouseModel", "thingName", "[J", true), ("UnbeatenHouseModel", "thingHas", "[I", true), ("UnbeatenHouseModel", "ruleFrom", "[I", true), ("UnbeatenHouseModel", "ruleTo", "[I", true), ("UnbeatenHouseModel", "codeSort", "[I", true), ("UnbeatenHouseModel", "codeValue", "[I", true), ("UnbeatenHouseModel", "codes", "I", false), ("UnbeatenHouseModel", "in", "I", false), ("UnbeatenHouseModel", "frame", "[I", true), ("UnbeatenHouseModel", "phase", "[I", true), ("UnbeatenHouseModel", "begins", "[Z", true), ("UnbeatenHouseModel", "pair", "[I", true), ("UnbeatenHouseModel", "base", "[I", true), ("UnbeatenHouseModel", "deep", "I", false), ("UnbeatenHouseModel", "open", "I", false), ("UnbeatenHouseModel", "ops", "[I", true), ("UnbeatenHouseModel", "opMany", "I", false), ("UnbeatenHouseModel", "operand", "Z", false), ("UnbeatenHouseModel", "fell", "J", false), ("UnbeatenHouseModel", "came", "J", false), ("UnbeatenHouseModel", "gathered", "I", false), ("UnbeatenHouseModel", "gLoss", "[I", true), ("UnbeatenHouseModel", "gWho", "[I", true), ("UnbeatenHouseModel", "gKnots", "[I", true), ("UnbeatenHouseModel", "at", "[I", true), ("UnbeatenHouseModel", "path", "[I", true), ("UnbeatenHouseModel", "sums", "[I", true), ("UnbeatenHouseModel", "step", "[I", true), ("UnbeatenHouseModel", "setMask", "I", false), ("UnbeatenHouseModel", "heap", "[J", true), ("UnbeatenHouseModel", "frontMany", "I", false), ("UnbeatenHouseModel", "frontKind", "I", false), ("UnbeatenHouseModel", "fLoss", "[I", true), ("UnbeatenHouseModel", "fWho", "[I", true), ("UnbeatenHouseModel", "fKnots", "[I", true), ("UnbeatenHouseModel", "grid", "I", false), ("UnbeatenHouseModel", "weigh", "[I", true), ("UnbeatenHouseModel", "keptMany", "I", false), ("UnbeatenHouseModel", "kept", "[I", true), ("UnbeatenHouseModel", "pick", "[I", true), ("UnbeatenHouseModel", "sayings", "I", false), ("UnbeatenHouseModel", "better", "[I", true), ("UnbeatenHouseModel", "worse", "[I", true), ("UnbeatenHouseModel", "agreeing", "I", false), ("UnbeatenHouseModel", "worths", "[I", true), ("UnbeatenHouseModel", "firsts", "[J", true), ("UnbeatenHouseModel", "agreements", "[I", true), ("UnbeatenHouseModel", "weights", "[I", true), ("UnbeatenHouseModel", "bars", "[J", true)] : List (String × String × String × Bool)).getD k ("", "", "", false)
def mF_1 : u_T := fun k => ([("UnbeatenHouse", "taped", "I", false), ("UnbeatenHouse", "tale", "LUnbeatenHouse$Tale;", false), ("UnbeatenHouse", "reader", "LUnbeatenHouse$Reader;", true), ("UnbeatenHouse", "table", "LUnbeatenHouse$Rows;", true), ("UnbeatenHouse", "pool", "LUnbeatenHouse$Pool;", true), ("UnbeatenHouse", "gatherer", "LUnbeatenHouse$Gatherer;", true), ("UnbeatenHouse", "hand", "LUnbeatenHouse$Front;", true), ("UnbeatenHouse", "made", "LUnbeatenHouse$Front;", true), ("UnbeatenHouse", "setFront", "LUnbeatenHouse$Front;", true), ("UnbeatenHouse", "setsOnFront", "I", false), ("UnbeatenHouse", "picker", "LUnbeatenHouse$Picker;", true), ("UnbeatenHouse", "weighings", "LUnbeatenHouse$Weighings;", true), ("UnbeatenHouse", "sayings", "LUnbeatenHouse$Sayings;", true), ("UnbeatenHouse", "people", "LUnbeatenHouse$People;", true), ("UnbeatenHouse", "fell", "J", false), ("UnbeatenHouse", "came", "J", false)] : List (String × String × String × Bool)).getD k ("", "", "", false)
def mF_2 : u_T := fun k => ([("UnbeatenHouse$Front", "kind", "I", false), ("UnbeatenHouse$Front", "count", "I", false), ("UnbeatenHouse$Front", "losses", "[I", true), ("UnbeatenHouse$Front", "keys", "[J", true)] : List (String × String × String × Bool)).getD k ("", "", "", false)
def mF_3 : u_T := fun k => ([("UnbeatenHouse$Gatherer", "judge", "LUnbeatenHouse$Judge;", true), ("UnbeatenHouse$Gatherer", "sums", "[I", true), ("UnbeatenHouse$Gatherer", "losses", "[I", true)] : List (String × String × String × Bool)).getD k ("", "", "", false)
def mF_4 : u_T := fun k => ([("UnbeatenHouse$Judge", "stack", "[I", true), ("UnbeatenHouse$Judge", "top", "I", false)] : List (String × String × String × Bool)).getD k ("", "", "", false)
def mF_5 : u_T := fun k => ([("UnbeatenHouse$People", "weights", "[I", true), ("UnbeatenHouse$People", "votes", "[Z", true), ("UnbeatenHouse$People", "bars", "[J", true), ("UnbeatenHouse$People", "worths", "[I", true), ("UnbeatenHouse$People", "voters", "I", false), ("UnbeatenHouse$People", "candidates", "J", false)] : List (String × String × String × Bool)).getD k ("", "", "", false)
def mF_6 : u_T := fun k => ([("UnbeatenHouse$Picker", "count", "I", false), ("UnbeatenHouse$Picker", "distances", "[I", true), ("UnbeatenHouse$Picker", "tried", "[I", true), ("UnbeatenHouse$Picker", "chosen", "[I", true), ("UnbeatenHouse$Picker", "keptCount", "I", false)] : List (String × String × String × Bool)).getD k ("", "", "", false)
def mF_7 : u_T := fun k => ([("UnbeatenHouse$Pool", "losses", "[I", true), ("UnbeatenHouse$Pool", "keys", "[J", true), ("UnbeatenHouse$Pool", "order", "[I", true), ("UnbeatenHouse$Pool", "count", "I", false), ("UnbeatenHouse$Pool", "wishes", "I", false)] : List (String × String × String × Bool)).getD k ("", "", "", false)
def mF_8 : u_T := fun k => ([("UnbeatenHouse$Reader", "ownCodes", "[I", true), ("UnbeatenHouse$Reader", "tape", "[I", true), ("UnbeatenHouse$Reader", "length", "I", false), ("UnbeatenHouse$Reader", "into", "LUnbeatenHouse$Tale;", false), ("UnbeatenHouse$Reader", "at", "I", false), ("UnbeatenHouse$Reader", "token", "I", false), ("UnbeatenHouse$Reader", "value", "I", false), ("UnbeatenHouse$Reader", "own", "I", false), ("UnbeatenHouse$Reader", "tokenAt", "I", false), ("UnbeatenHouse$Reader", "open", "I", false), ("UnbeatenHouse$Reader", "wrong", "I", false), ("UnbeatenHouse$Reader", "wrongAt", "I", false)] : List (String × String × String × Bool)).getD k ("", "", "", false)
def mF_9 : u_T := fun k => ([("UnbeatenHouse$Rows", "count", "I", false), ("UnbeatenHouse$Rows", "wishes", "I", false), ("UnbeatenHouse$Rows", "losses", "[I", true), ("UnbeatenHouse$Rows", "low", "[I", true), ("UnbeatenHouse$Rows", "high", "[I", true), ("UnbeatenHouse$Rows", "aside", "J", false), ("UnbeatenHouse$Rows", "best", "J", false), ("UnbeatenHouse$Rows", "worths", "[I", true)] : List (String × String × String × Bool)).getD k ("", "", "", false)
def mF_10 : u_T := fun k => ([("UnbeatenHouse$Sayings", "count", "I", false), ("UnbeatenHouse$Sayings", "liked", "[I", true), ("UnbeatenHouse$Sayings", "passed", "[I", true), ("UnbeatenHouse$Sayings", "leaves", "[J", true), ("UnbeatenHouse$Sayings", "held", "[Z", true), ("UnbeatenHouse$Sayings", "askedFirst", "I", false), ("UnbeatenHouse$Sayings", "askedSecond", "I", false), ("UnbeatenHouse$Sayings", "askedLeaves", "I", false)] : List (String × String × String × Bool)).getD k ("", "", "", false)
def mF_11 : u_T := fun k => ([("UnbeatenHouse$Tale", "statements", "I", false), ("UnbeatenHouse$Tale", "counts", "[I", true), ("UnbeatenHouse$Tale", "names", "[I", true), ("UnbeatenHouse$Tale", "more", "[Z", true), ("UnbeatenHouse$Tale", "amounts", "[I", true), ("UnbeatenHouse$Tale", "spreads", "[I", true), ("UnbeatenHouse$Tale", "tieFrom", "[I", true), ("UnbeatenHouse$Tale", "tieTo", "[I", true), ("UnbeatenHouse$Tale", "steps", "[I", true), ("UnbeatenHouse$Tale", "stepCount", "I", false), ("UnbeatenHouse$Tale", "ruleEnds", "[I", true)] : List (String × String × String × Bool)).getD k ("", "", "", false)
def mF_12 : u_T := fun k => ([("UnbeatenHouse$Weighings", "sum", "I", false), ("UnbeatenHouse$Weighings", "wishes", "I", false), ("UnbeatenHouse$Weighings", "count", "I", false), ("UnbeatenHouse$Weighings", "weights", "[I", true)] : List (String × String × String × Bool)).getD k ("", "", "", false)
def mj_CL : List vw_C := [("UnbeatenHouseModel", mF_0, 77), ("UnbeatenHouse", mF_1, 16), ("UnbeatenHouse$Front", mF_2, 4), ("UnbeatenHouse$Gatherer", mF_3, 3), ("UnbeatenHouse$Judge", mF_4, 2), ("UnbeatenHouse$People", mF_5, 6), ("UnbeatenHouse$Picker", mF_6, 5), ("UnbeatenHouse$Pool", mF_7, 5), ("UnbeatenHouse$Reader", mF_8, 12), ("UnbeatenHouse$Rows", mF_9, 8), ("UnbeatenHouse$Sayings", mF_10, 8), ("UnbeatenHouse$Tale", mF_11, 11), ("UnbeatenHouse$Weighings", mF_12, 4)]
def mj_TL : List (List FieldType) := [[.array .int, .int, .int, .int, .int, .int, .int, .long, .int, .int, .int, .int, .int, .array .int, .array .int, .array .int, .array .int, .array .int, .array .int, .array .long, .array .boolean, .array .long, .array .int, .array .int, .array .long, .array .int, .array .int, .array .int, .array .long, .array .int, .array .int, .array .int, .array .int, .array .int, .int, .int, .array .int, .array .int, .array .boolean, .array .int, .array .int, .int, .int, .array .int, .int, .boolean, .long, .long, .int, .array .int, .array .int, .array .int, .array .int, .array .int, .array .int, .array .int, .int, .array .long, .int, .int, .array .int, .array .int, .array .int, .int, .array .int, .int, .array .int, .array .int, .int, .array .int, .array .int, .int, .array .int, .array .long, .array .int, .array .int, .array .long], [.int, .object "UnbeatenHouse$Tale", .object "UnbeatenHouse$Reader", .object "UnbeatenHouse$Rows", .object "UnbeatenHouse$Pool", .object "UnbeatenHouse$Gatherer", .object "UnbeatenHouse$Front", .object "UnbeatenHouse$Front", .object "UnbeatenHouse$Front", .int, .object "UnbeatenHouse$Picker", .object "UnbeatenHouse$Weighings", .object "UnbeatenHouse$Sayings", .object "UnbeatenHouse$People", .long, .long], [.int, .int, .array .int, .array .long], [.object "UnbeatenHouse$Judge", .array .int, .array .int], [.array .int, .int], [.array .int, .array .boolean, .array .long, .array .int, .int, .long], [.int, .array .int, .array .int, .array .int, .int], [.array .int, .array .long, .array .int, .int, .int], [.array .int, .array .int, .int, .object "UnbeatenHouse$Tale", .int, .int, .int, .int, .int, .int, .int, .int], [.int, .int, .array .int, .array .int, .array .int, .long, .long, .array .int], [.int, .array .int, .array .int, .array .long, .array .boolean, .int, .int, .int], [.int, .array .int, .array .int, .array .boolean, .array .int, .array .int, .array .int, .array .int, .array .int, .int, .array .int], [.int, .int, .int, .array .int]]
def mj_TY (c k : Nat) : FieldType := (mj_TL.getD c []).getD k .int
theorem mc_0 : (∀ w ∈ u_ws "UnbeatenHouseModel" mF_0 77, w ∈ lw_tbl) ∧ (∀ k, k < 77 → parseFieldDescriptor (mF_0 k).2.2.1 = some (mj_TY 0 k)) ∧ (∀ a, a < 77 → ∀ b, b < 77 → a ≠ b → (mF_0 a).2.1 ≠ (mF_0 b).2.1) := ⟨lw_lay (TB := tables_1_6) (b := 57) (fun _ h => lw_in_5 h) (by decide +kernel), by decide +kernel, lw_dist (T := mF_0) (N := 77) rfl (by decide +kernel) (by decide +kernel)⟩
theorem mc_1 : (∀ w ∈ u_ws "UnbeatenHouse" mF_1 16, w ∈ lw_tbl) ∧ (∀ k, k < 16 → parseFieldDescriptor (mF_1 k).2.2.1 = some (mj_TY 1 k)) ∧ (∀ a, a < 16 → ∀ b, b < 16 → a ≠ b → (mF_1 a).2.1 ≠ (mF_1 b).2.1) := ⟨lw_lay (TB := tables_1_2) (b := 192) (fun _ h => lw_in_1 h) (by decide +kernel), by decide +kernel, lw_dist (T := mF_1) (N := 16) rfl (by decide +kernel) (by decide +kernel)⟩
theorem mc_2 : (∀ w ∈ u_ws "UnbeatenHouse$Front" mF_2 4, w ∈ lw_tbl) ∧ (∀ k, k < 4 → parseFieldDescriptor (mF_2 k).2.2.1 = some (mj_TY 2 k)) ∧ (∀ a, a < 4 → ∀ b, b < 4 → a ≠ b → (mF_2 a).2.1 ≠ (mF_2 b).2.1) := ⟨lw_lay (TB := tables_1_2) (b := 56) (fun _ h => lw_in_1 h) (by decide +kernel), by decide +kernel, lw_dist (T := mF_2) (N := 4) rfl (by decide +kernel) (by decide +kernel)⟩
theorem mc_3 : (∀ w ∈ u_ws "UnbeatenHouse$Gatherer" mF_3 3, w ∈ lw_tbl) ∧ (∀ k, k < 3 → parseFieldDescriptor (mF_3 k).2.2.1 = some (mj_TY 3 k)) ∧ (∀ a, a < 3 → ∀ b, b < 3 → a ≠ b → (mF_3 a).2.1 ≠ (mF_3 b).2.1) := ⟨lw_lay (TB := tables_1_2) (b := 31) (fun _ h => lw_in_1 h) (by decide +kernel), by decide +kernel, lw_dist (T := mF_3) (N := 3) rfl (by decide +kernel) (by decide +kernel)⟩
theorem mc_4 : (∀ w ∈ u_ws "UnbeatenHouse$Judge" mF_4 2, w ∈ lw_tbl) ∧ (∀ k, k < 2 → parseFieldDescriptor (mF_4 k).2.2.1 = some (mj_TY 4 k)) ∧ (∀ a, a < 2 → ∀ b, b < 2 → a ≠ b → (mF_4 a).2.1 ≠ (mF_4 b).2.1) := ⟨lw_lay (TB := tables_1_2) (b := 23) (fun _ h => lw_in_1 h) (by decide +kernel), by decide +kernel, lw_dist (T := mF_4) (N := 2) rfl (by decide +kernel) (by decide +kernel)⟩
theorem mc_5 : (∀ w ∈ u_ws "UnbeatenHouse$People" mF_5 6, w ∈ lw_tbl) ∧ (∀ k, k < 6 → parseFieldDescriptor (mF_5 k).2.2.1 = some (mj_TY 5 k)) ∧ (∀ a, a < 6 → ∀ b, b < 6 → a ≠ b → (mF_5 a).2.1 ≠ (mF_5 b).2.1) := ⟨lw_lay (TB := tables_1_2) (b := 163) (fun _ h => lw_in_1 h) (by decide +kernel), by decide +kernel, lw_dist (T := mF_5) (N := 6) rfl (by decide +kernel) (by decide +kernel)⟩
theorem mc_6 : (∀ w ∈ u_ws "UnbeatenHouse$Picker" mF_6 5, w ∈ lw_tbl) ∧ (∀ k, k < 5 → parseFieldDescriptor (mF_6 k).2.2.1 = some (mj_TY 6 k)) ∧ (∀ a, a < 5 → ∀ b, b < 5 → a ≠ b → (mF_6 a).2.1 ≠ (mF_6 b).2.1) := ⟨lw_lay (TB := tables_1_2) (b := 78) (fun _ h => lw_in_1 h) (by decide +kernel), by decide +kernel, lw_dist (T := mF_6) (N := 5) rfl (by decide +kernel) (by decide +kernel)⟩
theorem mc_7 : (∀ w ∈ u_ws "UnbeatenHouse$Pool" mF_7 5, w ∈ lw_tbl) ∧ (∀ k, k < 5 → parseFieldDescriptor (mF_7 k).2.2.1 = some (mj_TY 7 k)) ∧ (∀ a, a < 5 → ∀ b, b < 5 → a ≠ b → (mF_7 a).2.1 ≠ (mF_7 b).2.1) := ⟨lw_lay (TB := tables_1_1 ++ tables_1_2) (b := 237) (fun _ h => (List.mem_append.mp h).elim (fun h => lw_in_0 h) (fun h => lw_in_1 h)) (by decide +kernel), by decide +kernel, lw_dist (T := mF_7) (N := 5) rfl (by decide +kernel) (by decide +kernel)⟩
theorem mc_8 : (∀ w ∈ u_ws "UnbeatenHouse$Reader" mF_8 12, w ∈ lw_tbl) ∧ (∀ k, k < 12 → parseFieldDescriptor (mF_8 k).2.2.1 = some (mj_TY 8 k)) ∧ (∀ a, a < 12 → ∀ b, b < 12 → a ≠ b → (mF_8 a).2.1 ≠ (mF_8 b).2.1) := ⟨lw_lay (TB := tables_1_1) (b := 158) (fun _ h => lw_in_0 h) (by decide +kernel), by decide +kernel, lw_dist (T := mF_8) (N := 12) rfl (by decide +kernel) (by decide +kernel)⟩
theorem mc_9 : (∀ w ∈ u_ws "UnbeatenHouse$Rows" mF_9 8, w ∈ lw_tbl) ∧ (∀ k, k < 8 → parseFieldDescriptor (mF_9 k).2.2.1 = some (mj_TY 9 k)) ∧ (∀ a, a < 8 → ∀ b, b < 8 → a ≠ b → (mF_9 a).2.1 ≠ (mF_9 b).2.1) := ⟨lw_lay (TB := tables_1_1) (b := 209) (fun _ h => lw_in_0 h) (by decide +kernel), by decide +kernel, lw_dist (T := mF_9) (N := 8) rfl (by decide +kernel) (by decide +kernel)⟩
theorem mc_10 : (∀ w ∈ u_ws "UnbeatenHouse$Sayings" mF_10 8, w ∈ lw_tbl) ∧ (∀ k, k < 8 → parseFieldDescriptor (mF_10 k).2.2.1 = some (mj_TY 10 k)) ∧ (∀ a, a < 8 → ∀ b, b < 8 → a ≠ b → (mF_10 a).2.1 ≠ (mF_10 b).2.1) := ⟨lw_lay (TB := tables_1_2) (b := 130) (fun _ h => lw_in_1 h) (by decide +kernel), by decide +kernel, lw_dist (T := mF_10) (N := 8) rfl (by decide +kernel) (by decide +kernel)⟩
theorem mc_11 : (∀ w ∈ u_ws "UnbeatenHouse$Tale" mF_11 11, w ∈ lw_tbl) ∧ (∀ k, k < 11 → parseFieldDescriptor (mF_11 k).2.2.1 = some (mj_TY 11 k)) ∧ (∀ a, a < 11 → ∀ b, b < 11 → a ≠ b → (mF_11 a).2.1 ≠ (mF_11 b).2.1) := ⟨lw_lay (TB := tables_1_1) (b := 69) (fun _ h => lw_in_0 h) (by decide +kernel), by decide +kernel, lw_dist (T := mF_11) (N := 11) rfl (by decide +kernel) (by decide +kernel)⟩
theorem mc_12 : (∀ w ∈ u_ws "UnbeatenHouse$Weighings" mF_12 4, w ∈ lw_tbl) ∧ (∀ k, k < 4 → parseFieldDescriptor (mF_12 k).2.2.1 = some (mj_TY 12 k)) ∧ (∀ a, a < 4 → ∀ b, b < 4 → a ≠ b → (mF_12 a).2.1 ≠ (mF_12 b).2.1) := ⟨lw_lay (TB := tables_1_2) (b := 103) (fun _ h => lw_in_1 h) (by decide +kernel), by decide +kernel, lw_dist (T := mF_12) (N := 4) rfl (by decide +kernel) (by decide +kernel)⟩
theorem mj_CL_ok (ci : Nat) (C : String) (T : u_T) (N : Nat) (h : mj_CL[ci]? = some (C, T, N)) : (∀ w ∈ u_ws C T N, w ∈ lw_tbl) ∧ (∀ k, k < N → parseFieldDescriptor (T k).2.2.1 = some (mj_TY ci k)) ∧ (∀ a, a < N → ∀ b, b < N → a ≠ b → (T a).2.1 ≠ (T b).2.1) := by
  match ci, h with
  | 0, h => cases h; exact mc_0
  | 1, h => cases h; exact mc_1
  | 2, h => cases h; exact mc_2
  | 3, h => cases h; exact mc_3
  | 4, h => cases h; exact mc_4
  | 5, h => cases h; exact mc_5
  | 6, h => cases h; exact mc_6
  | 7, h => cases h; exact mc_7
  | 8, h => cases h; exact mc_8
  | 9, h => cases h; exact mc_9
  | 10, h => cases h; exact mc_10
  | 11, h => cases h; exact mc_11
  | 12, h => cases h; exact mc_12
  | k + 13, h => simp [mj_CL] at h
end
section
/-! the methods, by program: names, code, and what the tables say of them -/
def mm_0 : mj_M := (⟨"java/lang/Math", "min", "(II)I"⟩, prog_17_method_69_code, 2, (some .int))
def mm_1 : mj_M := (⟨"java/lang/Math", "max", "(II)I"⟩, prog_17_method_65_code, 2, (some .int))
def mm_2 : mj_M := (⟨"java/lang/Long", "bitCount", "(J)I"⟩, prog_16_method_50_code, 2, (some .int))
def mm_3 : mj_M := (⟨"java/lang/Integer", "bitCount", "(I)I"⟩, prog_15_method_49_code, 1, (some .int))
def mm_4 : mj_M := (⟨"java/lang/Math", "min", "(JJ)J"⟩, prog_17_method_70_code, 4, (some .long))
def mm_5 : mj_M := (⟨"java/lang/Math", "max", "(JJ)J"⟩, prog_17_method_66_code, 4, (some .long))
def mm_6 : mj_M := (⟨"java/lang/Math", "floorDiv", "(II)I"⟩, prog_17_method_47_code, 3, (some .int))
def mm_7 : mj_M := (⟨"java/lang/Long", "numberOfTrailingZeros", "(J)I"⟩, prog_16_method_49_code, 3, (some .int))
def mm_8 : mj_M := (⟨"java/lang/Integer", "numberOfTrailingZeros", "(I)I"⟩, prog_15_method_48_code, 2, (some .int))
def mm_9 : mj_M := (⟨"UnbeatenHouseModel", "feed", "(IIIII)I"⟩, prog_14_method_4_code, 6, (some .int))
def mm_10 : mj_M := (⟨"UnbeatenHouseModel", "put", "(I)V"⟩, prog_14_method_3_code, 3, none)
def mm_11 : mj_M := (⟨"UnbeatenHouseModel", "end", "(I)Z"⟩, prog_14_method_5_code, 2, (some .boolean))
def mm_12 : mj_M := (⟨"UnbeatenHouseModel", "text", "()I"⟩, prog_14_method_38_code, 4, (some .int))
def mm_13 : mj_M := (⟨"UnbeatenHouseModel", "next", "()V"⟩, prog_14_method_9_code, 6, none)
def mm_14 : mj_M := (⟨"UnbeatenHouseModel", "isLetter", "(I)Z"⟩, prog_14_method_7_code, 1, (some .boolean))
def mm_15 : mj_M := (⟨"UnbeatenHouseModel", "isDigit", "(I)Z"⟩, prog_14_method_8_code, 1, (some .boolean))
def mm_16 : mj_M := (⟨"UnbeatenHouseModel", "blame", "(II)V"⟩, prog_14_method_6_code, 3, none)
def mm_17 : mj_M := (⟨"UnbeatenHouseModel", "statement", "()V"⟩, prog_14_method_37_code, 3, none)
def mm_18 : mj_M := (⟨"UnbeatenHouseModel", "isWord", "(J)Z"⟩, prog_14_method_11_code, 3, (some .boolean))
def mm_19 : mj_M := (⟨"UnbeatenHouseModel", "wish", "()V"⟩, prog_14_method_33_code, 3, none)
def mm_20 : mj_M := (⟨"UnbeatenHouseModel", "counts", "(ZZ)V"⟩, prog_14_method_32_code, 3, none)
def mm_21 : mj_M := (⟨"UnbeatenHouseModel", "fresh", "()J"⟩, prog_14_method_18_code, 3, (some .long))
def mm_22 : mj_M := (⟨"UnbeatenHouseModel", "isOwn", "(J)Z"⟩, prog_14_method_13_code, 3, (some .boolean))
def mm_23 : mj_M := (⟨"UnbeatenHouseModel", "isName", "(J)Z"⟩, prog_14_method_17_code, 4, (some .boolean))
def mm_24 : mj_M := (⟨"UnbeatenHouseModel", "wishOf", "(IJ)I"⟩, prog_14_method_14_code, 5, (some .int))
def mm_25 : mj_M := (⟨"UnbeatenHouseModel", "knotOf", "(IJ)I"⟩, prog_14_method_15_code, 5, (some .int))
def mm_26 : mj_M := (⟨"UnbeatenHouseModel", "thingOf", "(IJ)I"⟩, prog_14_method_16_code, 5, (some .int))
def mm_27 : mj_M := (⟨"UnbeatenHouseModel", "row", "()V"⟩, prog_14_method_34_code, 3, none)
def mm_28 : mj_M := (⟨"UnbeatenHouseModel", "isSign", "(I)Z"⟩, prog_14_method_10_code, 2, (some .boolean))
def mm_29 : mj_M := (⟨"UnbeatenHouseModel", "number", "()I"⟩, prog_14_method_20_code, 2, (some .int))
def mm_30 : mj_M := (⟨"UnbeatenHouseModel", "tie", "()V"⟩, prog_14_method_35_code, 3, none)
def mm_31 : mj_M := (⟨"UnbeatenHouseModel", "knotRead", "(I)I"⟩, prog_14_method_19_code, 3, (some .int))
def mm_32 : mj_M := (⟨"UnbeatenHouseModel", "thing", "()V"⟩, prog_14_method_36_code, 5, none)
def mm_33 : mj_M := (⟨"UnbeatenHouseModel", "readsTest", "()V"⟩, prog_14_method_31_code, 2, none)
def mm_34 : mj_M := (⟨"UnbeatenHouseModel", "pushes", "(I)V"⟩, prog_14_method_25_code, 2, none)
def mm_35 : mj_M := (⟨"UnbeatenHouseModel", "part", "()Z"⟩, prog_14_method_29_code, 4, (some .boolean))
def mm_36 : mj_M := (⟨"UnbeatenHouseModel", "isTest", "(I)Z"⟩, prog_14_method_27_code, 1, (some .boolean))
def mm_37 : mj_M := (⟨"UnbeatenHouseModel", "holdsBack", "(I)V"⟩, prog_14_method_24_code, 2, none)
def mm_38 : mj_M := (⟨"UnbeatenHouseModel", "opens", "(I)V"⟩, prog_14_method_26_code, 2, none)
def mm_39 : mj_M := (⟨"UnbeatenHouseModel", "add", "(II)V"⟩, prog_14_method_21_code, 3, none)
def mm_40 : mj_M := (⟨"UnbeatenHouseModel", "named", "(I)V"⟩, prog_14_method_28_code, 3, none)
def mm_41 : mj_M := (⟨"UnbeatenHouseModel", "goesOn", "()Z"⟩, prog_14_method_30_code, 5, (some .boolean))
def mm_42 : mj_M := (⟨"UnbeatenHouseModel", "joins", "(I)V"⟩, prog_14_method_23_code, 2, none)
def mm_43 : mj_M := (⟨"UnbeatenHouseModel", "rank", "(I)I"⟩, prog_14_method_22_code, 1, (some .int))
def mm_44 : mj_M := (⟨"UnbeatenHouseModel", "must", "(I)V"⟩, prog_14_method_12_code, 2, none)
def mm_45 : mj_M := (⟨"UnbeatenHouseModel", "fault", "(I)I"⟩, prog_14_method_39_code, 2, (some .int))
def mm_46 : mj_M := (⟨"UnbeatenHouseModel", "has", "(I)I"⟩, prog_14_method_40_code, 2, (some .int))
def mm_47 : mj_M := (⟨"UnbeatenHouseModel", "letter", "(III)I"⟩, prog_14_method_42_code, 4, (some .int))
def mm_48 : mj_M := (⟨"UnbeatenHouseModel", "isWish", "(I)Z"⟩, prog_14_method_43_code, 2, (some .boolean))
def mm_49 : mj_M := (⟨"UnbeatenHouseModel", "is", "(III)Z"⟩, prog_14_method_2_code, 3, (some .boolean))
def mm_50 : mj_M := (⟨"UnbeatenHouseModel", "letterOf", "(JI)I"⟩, prog_14_method_41_code, 6, (some .int))
def mm_51 : mj_M := (⟨"UnbeatenHouseModel", "isRow", "(I)Z"⟩, prog_14_method_44_code, 2, (some .boolean))
def mm_52 : mj_M := (⟨"UnbeatenHouseModel", "price", "(IIZ)I"⟩, prog_14_method_49_code, 4, (some .int))
def mm_53 : mj_M := (⟨"UnbeatenHouseModel", "rowAt", "(II)I"⟩, prog_14_method_45_code, 3, (some .int))
def mm_54 : mj_M := (⟨"UnbeatenHouseModel", "beats", "(II)I"⟩, prog_14_method_51_code, 3, (some .int))
def mm_55 : mj_M := (⟨"UnbeatenHouseModel", "doesBeat", "(II)Z"⟩, prog_14_method_50_code, 5, (some .boolean))
def mm_56 : mj_M := (⟨"UnbeatenHouseModel", "isAside", "(I)Z"⟩, prog_14_method_48_code, 3, (some .boolean))
def mm_57 : mj_M := (⟨"UnbeatenHouseModel", "rowLoss", "(II)I"⟩, prog_14_method_47_code, 3, (some .int))
def mm_58 : mj_M := (⟨"UnbeatenHouseModel", "lossOf", "(II)I"⟩, prog_14_method_46_code, 3, (some .int))
def mm_59 : mj_M := (⟨"UnbeatenHouseModel", "rows", "()J"⟩, prog_14_method_53_code, 1, (some .long))
def mm_60 : mj_M := (⟨"UnbeatenHouseModel", "rowFront", "()J"⟩, prog_14_method_52_code, 6, (some .long))
def mm_61 : mj_M := (⟨"UnbeatenHouseModel", "leads", "(I)I"⟩, prog_14_method_54_code, 5, (some .int))
def mm_62 : mj_M := (⟨"UnbeatenHouseModel", "change", "(III)I"⟩, prog_14_method_56_code, 9, (some .int))
def mm_63 : mj_M := (⟨"UnbeatenHouseModel", "bitsOf", "(J)I"⟩, prog_14_method_55_code, 5, (some .int))
def mm_64 : mj_M := (⟨"UnbeatenHouseModel", "changed", "(Z)J"⟩, prog_14_method_57_code, 2, (some .long))
def mm_65 : mj_M := (⟨"UnbeatenHouseModel", "maybe", "(II)I"⟩, prog_14_method_61_code, 3, (some .int))
def mm_66 : mj_M := (⟨"UnbeatenHouseModel", "mayBeat", "(II)I"⟩, prog_14_method_60_code, 8, (some .int))
def mm_67 : mj_M := (⟨"UnbeatenHouseModel", "mostLoss", "(II)I"⟩, prog_14_method_59_code, 3, (some .int))
def mm_68 : mj_M := (⟨"UnbeatenHouseModel", "leastLoss", "(II)I"⟩, prog_14_method_58_code, 3, (some .int))
def mm_69 : mj_M := (⟨"UnbeatenHouseModel", "unsure", "(Z)J"⟩, prog_14_method_62_code, 7, (some .long))
def mm_70 : mj_M := (⟨"UnbeatenHouseModel", "front", "(III)I"⟩, prog_14_method_76_code, 9, (some .int))
def mm_71 : mj_M := (⟨"UnbeatenHouseModel", "ways", "(II)V"⟩, prog_14_method_68_code, 8, none)
def mm_72 : mj_M := (⟨"UnbeatenHouseModel", "gathers", "(I)V"⟩, prog_14_method_66_code, 4, none)
def mm_73 : mj_M := (⟨"UnbeatenHouseModel", "isLost", "(I)Z"⟩, prog_14_method_63_code, 3, (some .boolean))
def mm_74 : mj_M := (⟨"UnbeatenHouseModel", "isWorse", "(I)Z"⟩, prog_14_method_64_code, 3, (some .boolean))
def mm_75 : mj_M := (⟨"UnbeatenHouseModel", "lays", "(II)V"⟩, prog_14_method_65_code, 4, none)
def mm_76 : mj_M := (⟨"UnbeatenHouseModel", "sets", "()V"⟩, prog_14_method_69_code, 4, none)
def mm_77 : mj_M := (⟨"UnbeatenHouseModel", "works", "(II)J"⟩, prog_14_method_75_code, 6, (some .long))
def mm_78 : mj_M := (⟨"UnbeatenHouseModel", "leaf", "(II)J"⟩, prog_14_method_74_code, 3, (some .long))
def mm_79 : mj_M := (⟨"UnbeatenHouseModel", "setHas", "(I)I"⟩, prog_14_method_70_code, 4, (some .int))
def mm_80 : mj_M := (⟨"UnbeatenHouseModel", "two", "(IJJ)J"⟩, prog_14_method_73_code, 5, (some .long))
def mm_81 : mj_M := (⟨"UnbeatenHouseModel", "held", "(J)J"⟩, prog_14_method_71_code, 2, (some .long))
def mm_82 : mj_M := (⟨"UnbeatenHouseModel", "over", "(JJ)J"⟩, prog_14_method_72_code, 6, (some .long))
def mm_83 : mj_M := (⟨"UnbeatenHouseModel", "isAhead", "(II)Z"⟩, prog_14_method_67_code, 4, (some .boolean))
def mm_84 : mj_M := (⟨"UnbeatenHouseModel", "loss", "(II)I"⟩, prog_14_method_78_code, 3, (some .int))
def mm_85 : mj_M := (⟨"UnbeatenHouseModel", "isFront", "(I)Z"⟩, prog_14_method_77_code, 2, (some .boolean))
def mm_86 : mj_M := (⟨"UnbeatenHouseModel", "who", "(I)I"⟩, prog_14_method_79_code, 2, (some .int))
def mm_87 : mj_M := (⟨"UnbeatenHouseModel", "knot", "(II)I"⟩, prog_14_method_80_code, 3, (some .int))
def mm_88 : mj_M := (⟨"UnbeatenHouseModel", "grid", "(I)Z"⟩, prog_14_method_81_code, 2, (some .boolean))
def mm_89 : mj_M := (⟨"UnbeatenHouseModel", "corner", "(I)I"⟩, prog_14_method_86_code, 4, (some .int))
def mm_90 : mj_M := (⟨"UnbeatenHouseModel", "numbers", "()I"⟩, prog_14_method_82_code, 3, (some .int))
def mm_91 : mj_M := (⟨"UnbeatenHouseModel", "isWeighing", "(I)Z"⟩, prog_14_method_83_code, 5, (some .boolean))
def mm_92 : mj_M := (⟨"UnbeatenHouseModel", "isFirst", "(I)Z"⟩, prog_14_method_85_code, 3, (some .boolean))
def mm_93 : mj_M := (⟨"UnbeatenHouseModel", "worth", "(I)I"⟩, prog_14_method_84_code, 4, (some .int))
def mm_94 : mj_M := (⟨"UnbeatenHouseModel", "weight", "(II)I"⟩, prog_14_method_87_code, 4, (some .int))
def mm_95 : mj_M := (⟨"UnbeatenHouseModel", "near", "(I)I"⟩, prog_14_method_92_code, 4, (some .int))
def mm_96 : mj_M := (⟨"UnbeatenHouseModel", "apart", "(I)I"⟩, prog_14_method_89_code, 6, (some .int))
def mm_97 : mj_M := (⟨"UnbeatenHouseModel", "more", "(II)I"⟩, prog_14_method_88_code, 5, (some .int))
def mm_98 : mj_M := (⟨"UnbeatenHouseModel", "keeps", "(I)V"⟩, prog_14_method_91_code, 3, none)
def mm_99 : mj_M := (⟨"UnbeatenHouseModel", "nextPick", "(I)Z"⟩, prog_14_method_90_code, 4, (some .boolean))
def mm_100 : mj_M := (⟨"UnbeatenHouseModel", "standIns", "(I)I"⟩, prog_14_method_93_code, 5, (some .int))
def mm_101 : mj_M := (⟨"UnbeatenHouseModel", "kept", "(I)I"⟩, prog_14_method_94_code, 2, (some .int))
def mm_102 : mj_M := (⟨"UnbeatenHouseModel", "cost", "(IIIZ)I"⟩, prog_14_method_96_code, 10, (some .int))
def mm_103 : mj_M := (⟨"UnbeatenHouseModel", "common", "(II)I"⟩, prog_14_method_95_code, 5, (some .int))
def mm_104 : mj_M := (⟨"UnbeatenHouseModel", "hole", "(I)I"⟩, prog_14_method_97_code, 7, (some .int))
def mm_105 : mj_M := (⟨"UnbeatenHouseModel", "rather", "(II)I"⟩, prog_14_method_99_code, 3, (some .int))
def mm_106 : mj_M := (⟨"UnbeatenHouseModel", "unsay", "()I"⟩, prog_14_method_100_code, 1, (some .int))
def mm_107 : mj_M := (⟨"UnbeatenHouseModel", "agree", "()I"⟩, prog_14_method_103_code, 3, (some .int))
def mm_108 : mj_M := (⟨"UnbeatenHouseModel", "agrees", "()Z"⟩, prog_14_method_102_code, 1, (some .boolean))
def mm_109 : mj_M := (⟨"UnbeatenHouseModel", "agreed", "()I"⟩, prog_14_method_101_code, 3, (some .int))
def mm_110 : mj_M := (⟨"UnbeatenHouseModel", "rowWorth", "(I)I"⟩, prog_14_method_98_code, 4, (some .int))
def mm_111 : mj_M := (⟨"UnbeatenHouseModel", "could", "()J"⟩, prog_14_method_105_code, 4, (some .long))
def mm_112 : mj_M := (⟨"UnbeatenHouseModel", "gathersAgreeing", "()V"⟩, prog_14_method_104_code, 9, none)
def mm_113 : mj_M := (⟨"UnbeatenHouseModel", "question", "(I)I"⟩, prog_14_method_107_code, 12, (some .int))
def mm_114 : mj_M := (⟨"UnbeatenHouseModel", "leaves", "(II)I"⟩, prog_14_method_106_code, 6, (some .int))
def mm_115 : mj_M := (⟨"UnbeatenHouseModel", "quarrel", "()I"⟩, prog_14_method_109_code, 6, (some .int))
def mm_116 : mj_M := (⟨"UnbeatenHouseModel", "isAgreed", "(II)Z"⟩, prog_14_method_108_code, 4, (some .boolean))
def mm_117 : mj_M := (⟨"UnbeatenHouseModel", "stop", "(I)I"⟩, prog_14_method_110_code, 9, (some .int))
def mm_118 : mj_M := (⟨"UnbeatenHouseModel", "person", "(IIIII)Z"⟩, prog_14_method_112_code, 7, (some .boolean))
def mm_119 : mj_M := (⟨"UnbeatenHouseModel", "isPerson", "(I)Z"⟩, prog_14_method_111_code, 1, (some .boolean))
def mm_120 : mj_M := (⟨"UnbeatenHouseModel", "bar", "(IIZ)Z"⟩, prog_14_method_113_code, 4, (some .boolean))
def mm_121 : mj_M := (⟨"UnbeatenHouseModel", "choose", "(I)I"⟩, prog_14_method_123_code, 2, (some .int))
def mm_122 : mj_M := (⟨"UnbeatenHouseModel", "voters", "()I"⟩, prog_14_method_115_code, 3, (some .int))
def mm_123 : mj_M := (⟨"UnbeatenHouseModel", "votes", "(I)Z"⟩, prog_14_method_114_code, 2, (some .boolean))
def mm_124 : mj_M := (⟨"UnbeatenHouseModel", "candidates", "()J"⟩, prog_14_method_116_code, 4, (some .long))
def mm_125 : mj_M := (⟨"UnbeatenHouseModel", "chosenBy", "(IJ)I"⟩, prog_14_method_122_code, 8, (some .int))
def mm_126 : mj_M := (⟨"UnbeatenHouseModel", "against", "(IIJ)I"⟩, prog_14_method_121_code, 10, (some .int))
def mm_127 : mj_M := (⟨"UnbeatenHouseModel", "placeOf", "(IIJ)I"⟩, prog_14_method_119_code, 7, (some .int))
def mm_128 : mj_M := (⟨"UnbeatenHouseModel", "isBefore", "(III)Z"⟩, prog_14_method_118_code, 6, (some .boolean))
def mm_129 : mj_M := (⟨"UnbeatenHouseModel", "personWorth", "(II)I"⟩, prog_14_method_117_code, 5, (some .int))
def mm_130 : mj_M := (⟨"UnbeatenHouseModel", "wins", "(II)Z"⟩, prog_14_method_120_code, 5, (some .boolean))
def mm_131 : mj_M := (⟨"UnbeatenHouseModel", "breaks", "(I)I"⟩, prog_14_method_124_code, 12, (some .int))
def mm_132 : mj_M := (⟨"UnbeatenHouseModel", "place", "(II)I"⟩, prog_14_method_125_code, 3, (some .int))
def mm_133 : mj_M := (⟨"UnbeatenHouse", "feed", "(IIIII)I"⟩, prog_1_method_2_code, 6, (some .int))
def mm_134 : mj_M := (⟨"UnbeatenHouse", "putBytes", "(I)V"⟩, prog_1_method_3_code, 3, none)
def mm_135 : mj_M := (⟨"UnbeatenHouse", "end", "(I)Z"⟩, prog_1_method_4_code, 2, (some .boolean))
def mm_136 : mj_M := (⟨"UnbeatenHouse", "text", "()I"⟩, prog_1_method_5_code, 2, (some .int))
def mm_137 : mj_M := (⟨"UnbeatenHouse$Reader", "read", "(I)Z"⟩, prog_8_method_3_code, 3, (some .boolean))
def mm_138 : mj_M := (⟨"UnbeatenHouse$Tale", "clear", "()V"⟩, prog_11_method_3_code, 2, none)
def mm_139 : mj_M := (⟨"UnbeatenHouse$Reader", "advance", "()V"⟩, prog_8_method_5_code, 6, none)
def mm_140 : mj_M := (⟨"UnbeatenHouse$Reader", "skipBlanks", "()V"⟩, prog_8_method_6_code, 2, none)
def mm_141 : mj_M := (⟨"UnbeatenHouse$Reader", "kindOf", "(I)I"⟩, prog_8_method_7_code, 1, (some .int))
def mm_142 : mj_M := (⟨"UnbeatenHouse$Reader", "ownNumber", "(I)I"⟩, prog_8_method_8_code, 3, (some .int))
def mm_143 : mj_M := (⟨"UnbeatenHouse$Reader", "readStatement", "()V"⟩, prog_8_method_15_code, 2, none)
def mm_144 : mj_M := (⟨"UnbeatenHouse$Reader", "blame", "(I)V"⟩, prog_8_method_4_code, 2, none)
def mm_145 : mj_M := (⟨"UnbeatenHouse$Reader", "isOutOfTurn", "(I)Z"⟩, prog_8_method_16_code, 2, (some .boolean))
def mm_146 : mj_M := (⟨"UnbeatenHouse$Reader", "readWish", "()V"⟩, prog_8_method_17_code, 2, none)
def mm_147 : mj_M := (⟨"UnbeatenHouse$Reader", "giveName", "(I)V"⟩, prog_8_method_13_code, 2, none)
def mm_148 : mj_M := (⟨"UnbeatenHouse$Reader", "isName", "()Z"⟩, prog_8_method_12_code, 1, (some .boolean))
def mm_149 : mj_M := (⟨"UnbeatenHouse$Tale", "isGiven", "(I)Z"⟩, prog_11_method_6_code, 3, (some .boolean))
def mm_150 : mj_M := (⟨"UnbeatenHouse$Tale", "find", "(II)I"⟩, prog_11_method_5_code, 4, (some .int))
def mm_151 : mj_M := (⟨"UnbeatenHouse$Tale", "give", "(II)V"⟩, prog_11_method_7_code, 3, none)
def mm_152 : mj_M := (⟨"UnbeatenHouse$Reader", "readTie", "()V"⟩, prog_8_method_18_code, 2, none)
def mm_153 : mj_M := (⟨"UnbeatenHouse$Reader", "askName", "(II)I"⟩, prog_8_method_14_code, 4, (some .int))
def mm_154 : mj_M := (⟨"UnbeatenHouse$Reader", "readAmounts", "(II)V"⟩, prog_8_method_20_code, 4, none)
def mm_155 : mj_M := (⟨"UnbeatenHouse$Tale", "slot", "(III)I"⟩, prog_11_method_2_code, 3, (some .int))
def mm_156 : mj_M := (⟨"UnbeatenHouse$Reader", "takeNumber", "()I"⟩, prog_8_method_11_code, 2, (some .int))
def mm_157 : mj_M := (⟨"UnbeatenHouse$Reader", "readTest", "()V"⟩, prog_8_method_22_code, 2, none)
def mm_158 : mj_M := (⟨"UnbeatenHouse$Reader", "readBoth", "()V"⟩, prog_8_method_23_code, 2, none)
def mm_159 : mj_M := (⟨"UnbeatenHouse$Reader", "readFact", "()V"⟩, prog_8_method_24_code, 3, none)
def mm_160 : mj_M := (⟨"UnbeatenHouse$Reader", "isSign", "(I)Z"⟩, prog_8_method_9_code, 2, (some .boolean))
def mm_161 : mj_M := (⟨"UnbeatenHouse$Reader", "opensOne", "(I)Z"⟩, prog_8_method_30_code, 2, (some .boolean))
def mm_162 : mj_M := (⟨"UnbeatenHouse$Reader", "take", "(I)V"⟩, prog_8_method_10_code, 2, none)
def mm_163 : mj_M := (⟨"UnbeatenHouse$Tale", "addStep", "(II)V"⟩, prog_11_method_8_code, 3, none)
def mm_164 : mj_M := (⟨"UnbeatenHouse$Reader", "readSum", "()V"⟩, prog_8_method_26_code, 3, none)
def mm_165 : mj_M := (⟨"UnbeatenHouse$Reader", "readProduct", "()V"⟩, prog_8_method_27_code, 3, none)
def mm_166 : mj_M := (⟨"UnbeatenHouse$Reader", "readPart", "()V"⟩, prog_8_method_28_code, 2, none)
def mm_167 : mj_M := (⟨"UnbeatenHouse$Reader", "readPair", "(I)V"⟩, prog_8_method_29_code, 2, none)
def mm_168 : mj_M := (⟨"UnbeatenHouse$Reader", "takeComparison", "()I"⟩, prog_8_method_25_code, 2, (some .int))
def mm_169 : mj_M := (⟨"UnbeatenHouse$Tale", "endRule", "()V"⟩, prog_11_method_9_code, 1, none)
def mm_170 : mj_M := (⟨"UnbeatenHouse$Reader", "readRow", "()V"⟩, prog_8_method_21_code, 5, none)
def mm_171 : mj_M := (⟨"UnbeatenHouse$Reader", "readThing", "()V"⟩, prog_8_method_19_code, 2, none)
def mm_172 : mj_M := (⟨"UnbeatenHouse$Reader", "swap", "(LUnbeatenHouse$Tale;)LUnbeatenHouse$Tale;"⟩, prog_8_method_2_code, 3, (some (.object "UnbeatenHouse$Tale")))
def mm_173 : mj_M := (⟨"UnbeatenHouse$Rows", "take", "(LUnbeatenHouse$Tale;)V"⟩, prog_9_method_2_code, 4, none)
def mm_174 : mj_M := (⟨"UnbeatenHouse$Rows", "takeLoss", "(LUnbeatenHouse$Tale;II)V"⟩, prog_9_method_3_code, 6, none)
def mm_175 : mj_M := (⟨"UnbeatenHouse$Tale", "lossFor", "(II)I"⟩, prog_11_method_10_code, 3, (some .int))
def mm_176 : mj_M := (⟨"UnbeatenHouse$Rows", "unbeaten", "([I[I)J"⟩, prog_9_method_7_code, 8, (some .long))
def mm_177 : mj_M := (⟨"UnbeatenHouse$Rows", "isJudged", "(I)Z"⟩, prog_9_method_4_code, 2, (some .boolean))
def mm_178 : mj_M := (⟨"UnbeatenHouse", "isIn", "(JI)Z"⟩, prog_1_method_46_code, 3, (some .boolean))
def mm_179 : mj_M := (⟨"UnbeatenHouse$Rows", "outdoes", "(I[II[I)Z"⟩, prog_9_method_5_code, 7, (some .boolean))
def mm_180 : mj_M := (⟨"UnbeatenHouse", "isNowhereMore", "([II[III)Z"⟩, prog_1_method_47_code, 6, (some .boolean))
def mm_181 : mj_M := (⟨"UnbeatenHouse$Front", "drop", "()V"⟩, prog_2_method_2_code, 1, none)
def mm_182 : mj_M := (⟨"UnbeatenHouse$Front", "start", "(I)V"⟩, prog_2_method_3_code, 2, none)
def mm_183 : mj_M := (⟨"UnbeatenHouse$Picker", "forget", "()V"⟩, prog_6_method_2_code, 1, none)
def mm_184 : mj_M := (⟨"UnbeatenHouse$Sayings", "forget", "()V"⟩, prog_10_method_2_code, 1, none)
def mm_185 : mj_M := (⟨"UnbeatenHouse$People", "forget", "()V"⟩, prog_5_method_3_code, 2, none)
def mm_186 : mj_M := (⟨"UnbeatenHouse$Weighings", "make", "(II)V"⟩, prog_12_method_2_code, 9, none)
def mm_187 : mj_M := (⟨"UnbeatenHouse$Weighings", "add", "(IIII)V"⟩, prog_12_method_3_code, 6, none)
def mm_188 : mj_M := (⟨"UnbeatenHouse$Weighings", "put", "(II)V"⟩, prog_12_method_4_code, 3, none)
def mm_189 : mj_M := (⟨"UnbeatenHouse", "fault", "(I)I"⟩, prog_1_method_6_code, 2, (some .int))
def mm_190 : mj_M := (⟨"UnbeatenHouse", "has", "(I)I"⟩, prog_1_method_7_code, 2, (some .int))
def mm_191 : mj_M := (⟨"UnbeatenHouse", "letter", "(III)I"⟩, prog_1_method_8_code, 5, (some .int))
def mm_192 : mj_M := (⟨"UnbeatenHouse$Tale", "isThere", "(II)Z"⟩, prog_11_method_4_code, 3, (some .boolean))
def mm_193 : mj_M := (⟨"UnbeatenHouse", "letterOf", "(II)I"⟩, prog_1_method_9_code, 4, (some .int))
def mm_194 : mj_M := (⟨"UnbeatenHouse", "price", "(IIZ)I"⟩, prog_1_method_10_code, 5, (some .int))
def mm_195 : mj_M := (⟨"UnbeatenHouse", "beats", "(II)I"⟩, prog_1_method_11_code, 3, (some .int))
def mm_196 : mj_M := (⟨"UnbeatenHouse$Rows", "isBetter", "(II)Z"⟩, prog_9_method_6_code, 3, (some .boolean))
def mm_197 : mj_M := (⟨"UnbeatenHouse", "leads", "(I)I"⟩, prog_1_method_12_code, 3, (some .int))
def mm_198 : mj_M := (⟨"UnbeatenHouse", "change", "(III)I"⟩, prog_1_method_13_code, 6, (some .int))
def mm_199 : mj_M := (⟨"UnbeatenHouse", "changed", "(Z)J"⟩, prog_1_method_14_code, 2, (some .long))
def mm_200 : mj_M := (⟨"UnbeatenHouse", "rows", "()J"⟩, prog_1_method_15_code, 1, (some .long))
def mm_201 : mj_M := (⟨"UnbeatenHouse", "unsure", "(Z)J"⟩, prog_1_method_16_code, 2, (some .long))
def mm_202 : mj_M := (⟨"UnbeatenHouse", "maybe", "(II)I"⟩, prog_1_method_17_code, 3, (some .int))
def mm_203 : mj_M := (⟨"UnbeatenHouse", "front", "(III)I"⟩, prog_1_method_18_code, 4, (some .int))
def mm_204 : mj_M := (⟨"UnbeatenHouse$Rows", "putFront", "(LUnbeatenHouse$Front;)V"⟩, prog_9_method_8_code, 3, none)
def mm_205 : mj_M := (⟨"UnbeatenHouse$Front", "add", "([IIJ)V"⟩, prog_2_method_6_code, 5, none)
def mm_206 : mj_M := (⟨"UnbeatenHouse", "takeWays", "(II)I"⟩, prog_1_method_19_code, 4, (some .int))
def mm_207 : mj_M := (⟨"UnbeatenHouse$Gatherer", "gatherWays", "(LUnbeatenHouse$Tale;IILUnbeatenHouse$Pool;)V"⟩, prog_3_method_2_code, 6, none)
def mm_208 : mj_M := (⟨"UnbeatenHouse$Pool", "clear", "(I)V"⟩, prog_7_method_2_code, 2, none)
def mm_209 : mj_M := (⟨"UnbeatenHouse$Gatherer", "walk", "(LUnbeatenHouse$Tale;LUnbeatenHouse$Pool;IIIIJ)V"⟩, prog_3_method_3_code, 13, none)
def mm_210 : mj_M := (⟨"UnbeatenHouse$Gatherer", "putLosses", "(LUnbeatenHouse$Tale;I)V"⟩, prog_3_method_5_code, 4, none)
def mm_211 : mj_M := (⟨"UnbeatenHouse$Pool", "add", "([IJ)V"⟩, prog_7_method_3_code, 4, none)
def mm_212 : mj_M := (⟨"UnbeatenHouse$Gatherer", "goAlong", "(LUnbeatenHouse$Tale;II)V"⟩, prog_3_method_4_code, 6, none)
def mm_213 : mj_M := (⟨"UnbeatenHouse$Pool", "putFront", "(LUnbeatenHouse$Front;I)I"⟩, prog_7_method_4_code, 5, (some .int))
def mm_214 : mj_M := (⟨"UnbeatenHouse$Pool", "sort", "()V"⟩, prog_7_method_5_code, 2, none)
def mm_215 : mj_M := (⟨"UnbeatenHouse$Pool", "sink", "(II)V"⟩, prog_7_method_6_code, 6, none)
def mm_216 : mj_M := (⟨"UnbeatenHouse$Pool", "isAhead", "(II)Z"⟩, prog_7_method_8_code, 6, (some .boolean))
def mm_217 : mj_M := (⟨"UnbeatenHouse$Pool", "swap", "(II)V"⟩, prog_7_method_7_code, 4, none)
def mm_218 : mj_M := (⟨"UnbeatenHouse$Front", "standsUnder", "([III)Z"⟩, prog_2_method_8_code, 5, (some .boolean))
def mm_219 : mj_M := (⟨"UnbeatenHouse$Front", "copy", "(LUnbeatenHouse$Front;)V"⟩, prog_2_method_7_code, 3, none)
def mm_220 : mj_M := (⟨"UnbeatenHouse", "takeSets", "()I"⟩, prog_1_method_20_code, 1, (some .int))
def mm_221 : mj_M := (⟨"UnbeatenHouse$Gatherer", "gatherSets", "(LUnbeatenHouse$Tale;LUnbeatenHouse$Pool;)V"⟩, prog_3_method_6_code, 4, none)
def mm_222 : mj_M := (⟨"UnbeatenHouse$Gatherer", "addUp", "(LUnbeatenHouse$Tale;I)V"⟩, prog_3_method_7_code, 5, none)
def mm_223 : mj_M := (⟨"UnbeatenHouse$Judge", "allows", "(LUnbeatenHouse$Tale;I[I)Z"⟩, prog_4_method_2_code, 6, (some .boolean))
def mm_224 : mj_M := (⟨"UnbeatenHouse$Judge", "work", "(III[I)V"⟩, prog_4_method_5_code, 7, none)
def mm_225 : mj_M := (⟨"UnbeatenHouse$Judge", "push", "(I)V"⟩, prog_4_method_3_code, 2, none)
def mm_226 : mj_M := (⟨"UnbeatenHouse$Judge", "pop", "()I"⟩, prog_4_method_4_code, 1, (some .int))
def mm_227 : mj_M := (⟨"UnbeatenHouse$Judge", "join", "(III)I"⟩, prog_4_method_6_code, 3, (some .int))
def mm_228 : mj_M := (⟨"UnbeatenHouse$Judge", "bounded", "(J)I"⟩, prog_4_method_8_code, 2, (some .int))
def mm_229 : mj_M := (⟨"UnbeatenHouse$Judge", "holds", "(III)Z"⟩, prog_4_method_7_code, 3, (some .boolean))
def mm_230 : mj_M := (⟨"UnbeatenHouse", "loss", "(II)I"⟩, prog_1_method_21_code, 3, (some .int))
def mm_231 : mj_M := (⟨"UnbeatenHouse$Front", "isThere", "(I)Z"⟩, prog_2_method_5_code, 2, (some .boolean))
def mm_232 : mj_M := (⟨"UnbeatenHouse", "who", "(I)I"⟩, prog_1_method_22_code, 2, (some .int))
def mm_233 : mj_M := (⟨"UnbeatenHouse$Front", "knotsOf", "(J)I"⟩, prog_2_method_11_code, 2, (some .int))
def mm_234 : mj_M := (⟨"UnbeatenHouse", "knot", "(II)I"⟩, prog_1_method_23_code, 3, (some .int))
def mm_235 : mj_M := (⟨"UnbeatenHouse$Front", "knotOf", "(JI)I"⟩, prog_2_method_12_code, 3, (some .int))
def mm_236 : mj_M := (⟨"UnbeatenHouse", "grid", "(I)Z"⟩, prog_1_method_24_code, 2, (some .boolean))
def mm_237 : mj_M := (⟨"UnbeatenHouse", "corner", "(I)I"⟩, prog_1_method_25_code, 4, (some .int))
def mm_238 : mj_M := (⟨"UnbeatenHouse$Weighings", "isFirst", "(ILUnbeatenHouse$Front;I)Z"⟩, prog_12_method_6_code, 6, (some .boolean))
def mm_239 : mj_M := (⟨"UnbeatenHouse$Weighings", "weigh", "(I[II)I"⟩, prog_12_method_5_code, 6, (some .int))
def mm_240 : mj_M := (⟨"UnbeatenHouse", "weight", "(II)I"⟩, prog_1_method_26_code, 4, (some .int))
def mm_241 : mj_M := (⟨"UnbeatenHouse", "near", "(I)I"⟩, prog_1_method_27_code, 2, (some .int))
def mm_242 : mj_M := (⟨"UnbeatenHouse$Front", "isAtHand", "()Z"⟩, prog_2_method_4_code, 1, (some .boolean))
def mm_243 : mj_M := (⟨"UnbeatenHouse$Picker", "pickFewest", "(LUnbeatenHouse$Front;II)I"⟩, prog_6_method_3_code, 5, (some .int))
def mm_244 : mj_M := (⟨"UnbeatenHouse$Picker", "measure", "(LUnbeatenHouse$Front;I)V"⟩, prog_6_method_5_code, 7, none)
def mm_245 : mj_M := (⟨"UnbeatenHouse$Front", "difference", "(III)I"⟩, prog_2_method_9_code, 4, (some .int))
def mm_246 : mj_M := (⟨"UnbeatenHouse$Picker", "pickOf", "(III)I"⟩, prog_6_method_6_code, 8, (some .int))
def mm_247 : mj_M := (⟨"UnbeatenHouse$Picker", "farthest", "(II)I"⟩, prog_6_method_7_code, 7, (some .int))
def mm_248 : mj_M := (⟨"UnbeatenHouse$Picker", "moveOn", "(I)Z"⟩, prog_6_method_8_code, 4, (some .boolean))
def mm_249 : mj_M := (⟨"UnbeatenHouse", "standIns", "(I)I"⟩, prog_1_method_28_code, 2, (some .int))
def mm_250 : mj_M := (⟨"UnbeatenHouse$Picker", "pickClosest", "(LUnbeatenHouse$Front;II)I"⟩, prog_6_method_4_code, 4, (some .int))
def mm_251 : mj_M := (⟨"UnbeatenHouse", "kept", "(I)I"⟩, prog_1_method_29_code, 2, (some .int))
def mm_252 : mj_M := (⟨"UnbeatenHouse", "cost", "(IIIZ)I"⟩, prog_1_method_30_code, 14, (some .int))
def mm_253 : mj_M := (⟨"UnbeatenHouse", "commonDivisor", "(JJ)J"⟩, prog_1_method_31_code, 11, (some .long))
def mm_254 : mj_M := (⟨"UnbeatenHouse", "hole", "(I)I"⟩, prog_1_method_32_code, 4, (some .int))
def mm_255 : mj_M := (⟨"UnbeatenHouse$Front", "stepAbove", "(II)I"⟩, prog_2_method_10_code, 6, (some .int))
def mm_256 : mj_M := (⟨"UnbeatenHouse", "rather", "(II)I"⟩, prog_1_method_33_code, 3, (some .int))
def mm_257 : mj_M := (⟨"UnbeatenHouse$Sayings", "add", "(II)I"⟩, prog_10_method_3_code, 3, (some .int))
def mm_258 : mj_M := (⟨"UnbeatenHouse", "unsay", "()I"⟩, prog_1_method_34_code, 1, (some .int))
def mm_259 : mj_M := (⟨"UnbeatenHouse", "agree", "()I"⟩, prog_1_method_35_code, 3, (some .int))
def mm_260 : mj_M := (⟨"UnbeatenHouse$Sayings", "isAgreed", "(ILUnbeatenHouse$Weighings;LUnbeatenHouse$Rows;)Z"⟩, prog_10_method_5_code, 5, (some .boolean))
def mm_261 : mj_M := (⟨"UnbeatenHouse$Sayings", "isSayingAgreed", "(IILUnbeatenHouse$Weighings;LUnbeatenHouse$Rows;)Z"⟩, prog_10_method_4_code, 7, (some .boolean))
def mm_262 : mj_M := (⟨"UnbeatenHouse", "could", "()J"⟩, prog_1_method_36_code, 4, (some .long))
def mm_263 : mj_M := (⟨"UnbeatenHouse$Rows", "firstBy", "(ILUnbeatenHouse$Weighings;I)J"⟩, prog_9_method_9_code, 8, (some .long))
def mm_264 : mj_M := (⟨"UnbeatenHouse", "question", "(I)I"⟩, prog_1_method_37_code, 2, (some .int))
def mm_265 : mj_M := (⟨"UnbeatenHouse$Sayings", "ask", "(LUnbeatenHouse$Weighings;LUnbeatenHouse$Rows;)Z"⟩, prog_10_method_6_code, 5, (some .boolean))
def mm_266 : mj_M := (⟨"UnbeatenHouse$Sayings", "noteFirst", "(JLUnbeatenHouse$Rows;)V"⟩, prog_10_method_7_code, 6, none)
def mm_267 : mj_M := (⟨"UnbeatenHouse$Sayings", "tryQuestion", "(II)V"⟩, prog_10_method_8_code, 4, none)
def mm_268 : mj_M := (⟨"UnbeatenHouse", "quarrel", "()I"⟩, prog_1_method_38_code, 1, (some .int))
def mm_269 : mj_M := (⟨"UnbeatenHouse$Sayings", "fewestAtOdds", "(LUnbeatenHouse$Weighings;LUnbeatenHouse$Rows;)I"⟩, prog_10_method_9_code, 6, (some .int))
def mm_270 : mj_M := (⟨"UnbeatenHouse$Sayings", "agreedSayings", "(ILUnbeatenHouse$Weighings;LUnbeatenHouse$Rows;)I"⟩, prog_10_method_10_code, 6, (some .int))
def mm_271 : mj_M := (⟨"UnbeatenHouse$Sayings", "spreadToParts", "(I)V"⟩, prog_10_method_11_code, 4, none)
def mm_272 : mj_M := (⟨"UnbeatenHouse$Sayings", "isAhead", "(II)Z"⟩, prog_10_method_12_code, 4, (some .boolean))
def mm_273 : mj_M := (⟨"UnbeatenHouse", "stop", "(I)I"⟩, prog_1_method_39_code, 6, (some .int))
def mm_274 : mj_M := (⟨"UnbeatenHouse", "person", "(IIIII)Z"⟩, prog_1_method_40_code, 8, (some .boolean))
def mm_275 : mj_M := (⟨"UnbeatenHouse$People", "isOne", "(I)Z"⟩, prog_5_method_2_code, 1, (some .boolean))
def mm_276 : mj_M := (⟨"UnbeatenHouse", "isWeight", "(III)Z"⟩, prog_1_method_41_code, 3, (some .boolean))
def mm_277 : mj_M := (⟨"UnbeatenHouse", "bar", "(IIZ)Z"⟩, prog_1_method_42_code, 6, (some .boolean))
def mm_278 : mj_M := (⟨"UnbeatenHouse", "choose", "(I)I"⟩, prog_1_method_43_code, 2, (some .int))
def mm_279 : mj_M := (⟨"UnbeatenHouse$People", "gather", "(LUnbeatenHouse$Rows;)Z"⟩, prog_5_method_4_code, 3, (some .boolean))
def mm_280 : mj_M := (⟨"UnbeatenHouse$People", "weighAll", "(ILUnbeatenHouse$Rows;)V"⟩, prog_5_method_5_code, 6, none)
def mm_281 : mj_M := (⟨"UnbeatenHouse$People", "pick", "(IJ)I"⟩, prog_5_method_9_code, 8, (some .int))
def mm_282 : mj_M := (⟨"UnbeatenHouse$People", "pickAheadOfAll", "(J)I"⟩, prog_5_method_11_code, 6, (some .int))
def mm_283 : mj_M := (⟨"UnbeatenHouse$People", "isAheadForMost", "(II)Z"⟩, prog_5_method_8_code, 5, (some .boolean))
def mm_284 : mj_M := (⟨"UnbeatenHouse$People", "isAhead", "(III)Z"⟩, prog_5_method_6_code, 5, (some .boolean))
def mm_285 : mj_M := (⟨"UnbeatenHouse$People", "blameOf", "(IIJ)I"⟩, prog_5_method_10_code, 8, (some .int))
def mm_286 : mj_M := (⟨"UnbeatenHouse$People", "rank", "(IIJ)I"⟩, prog_5_method_7_code, 7, (some .int))
def mm_287 : mj_M := (⟨"UnbeatenHouse", "breaks", "(I)I"⟩, prog_1_method_44_code, 2, (some .int))
def mm_288 : mj_M := (⟨"UnbeatenHouse$People", "broken", "(I)I"⟩, prog_5_method_12_code, 5, (some .int))
def mm_289 : mj_M := (⟨"UnbeatenHouse$People", "isBehindAll", "(I)Z"⟩, prog_5_method_13_code, 3, (some .boolean))
def mm_290 : mj_M := (⟨"UnbeatenHouse$People", "everFirst", "()J"⟩, prog_5_method_14_code, 4, (some .long))
def mm_291 : mj_M := (⟨"UnbeatenHouse", "place", "(II)I"⟩, prog_1_method_45_code, 3, (some .int))
def mj_ML : List mj_M := [mm_0, mm_1, mm_2, mm_3, mm_4, mm_5, mm_6, mm_7, mm_8, mm_9, mm_10, mm_11, mm_12, mm_13, mm_14, mm_15, mm_16, mm_17, mm_18, mm_19, mm_20, mm_21, mm_22, mm_23, mm_24, mm_25, mm_26, mm_27, mm_28, mm_29, mm_30, mm_31, mm_32, mm_33, mm_34, mm_35, mm_36, mm_37, mm_38, mm_39, mm_40, mm_41, mm_42, mm_43, mm_44, mm_45, mm_46, mm_47, mm_48, mm_49, mm_50, mm_51, mm_52, mm_53, mm_54, mm_55, mm_56, mm_57, mm_58, mm_59, mm_60, mm_61, mm_62, mm_63, mm_64, mm_65, mm_66, mm_67, mm_68, mm_69, mm_70, mm_71, mm_72, mm_73, mm_74, mm_75, mm_76, mm_77, mm_78, mm_79, mm_80, mm_81, mm_82, mm_83, mm_84, mm_85, mm_86, mm_87, mm_88, mm_89, mm_90, mm_91, mm_92, mm_93, mm_94, mm_95, mm_96, mm_97, mm_98, mm_99, mm_100, mm_101, mm_102, mm_103, mm_104, mm_105, mm_106, mm_107, mm_108, mm_109, mm_110, mm_111, mm_112, mm_113, mm_114, mm_115, mm_116, mm_117, mm_118, mm_119, mm_120, mm_121, mm_122, mm_123, mm_124, mm_125, mm_126, mm_127, mm_128, mm_129, mm_130, mm_131, mm_132, mm_133, mm_134, mm_135, mm_136, mm_137, mm_138, mm_139, mm_140, mm_141, mm_142, mm_143, mm_144, mm_145, mm_146, mm_147, mm_148, mm_149, mm_150, mm_151, mm_152, mm_153, mm_154, mm_155, mm_156, mm_157, mm_158, mm_159, mm_160, mm_161, mm_162, mm_163, mm_164, mm_165, mm_166, mm_167, mm_168, mm_169, mm_170, mm_171, mm_172, mm_173, mm_174, mm_175, mm_176, mm_177, mm_178, mm_179, mm_180, mm_181, mm_182, mm_183, mm_184, mm_185, mm_186, mm_187, mm_188, mm_189, mm_190, mm_191, mm_192, mm_193, mm_194, mm_195, mm_196, mm_197, mm_198, mm_199, mm_200, mm_201, mm_202, mm_203, mm_204, mm_205, mm_206, mm_207, mm_208, mm_209, mm_210, mm_211, mm_212, mm_213, mm_214, mm_215, mm_216, mm_217, mm_218, mm_219, mm_220, mm_221, mm_222, mm_223, mm_224, mm_225, mm_226, mm_227, mm_228, mm_229, mm_230, mm_231, mm_232, mm_233, mm_234, mm_235, mm_236, mm_237, mm_238, mm_239, mm_240, mm_241, mm_242, mm_243, mm_244, mm_245, mm_246, mm_247, mm_248, mm_249, mm_250, mm_251, mm_252, mm_253, mm_254, mm_255, mm_256, mm_257, mm_258, mm_259, mm_260, mm_261, mm_262, mm_263, mm_264, mm_265, mm_266, mm_267, mm_268, mm_269, mm_270, mm_271, mm_272, mm_273, mm_274, mm_275, mm_276, mm_277, mm_278, mm_279, mm_280, mm_281, mm_282, mm_283, mm_284, mm_285, mm_286, mm_287, mm_288, mm_289, mm_290, mm_291]
def mj_MS (z : Nat) : mj_M := mj_ML.getD z mm_0
set_option maxRecDepth 100000 in
theorem my_0 : mj_okY lw_tbl mm_0 := ⟨(lw_in_2 (List.mem_of_getElem? (i := 22) rfl)), (lw_in_0 (List.mem_of_getElem? (i := 18) rfl)), by decide, mj_mathPlain rfl (by decide +kernel), by decide +kernel, by decide +kernel⟩
set_option maxRecDepth 100000 in
theorem my_1 : mj_okY lw_tbl mm_1 := ⟨(lw_in_2 (List.mem_of_getElem? (i := 115) rfl)), (lw_in_0 (List.mem_of_getElem? (i := 18) rfl)), by decide, mj_mathPlain rfl (by decide +kernel), by decide +kernel, by decide +kernel⟩
set_option maxRecDepth 100000 in
theorem my_2 : mj_okY lw_tbl mm_2 := ⟨(lw_in_3 (List.mem_of_getElem? (i := 19) rfl)), (lw_in_0 (List.mem_of_getElem? (i := 19) rfl)), by decide, plainFor_of_name (by decide +kernel), by decide +kernel, by decide +kernel⟩
set_option maxRecDepth 100000 in
theorem my_3 : mj_okY lw_tbl mm_3 := ⟨(lw_in_3 (List.mem_of_getElem? (i := 147) rfl)), (lw_in_0 (List.mem_of_getElem? (i := 21) rfl)), by decide, plainFor_of_name (by decide +kernel), by decide +kernel, by decide +kernel⟩
set_option maxRecDepth 100000 in
theorem my_4 : mj_okY lw_tbl mm_4 := ⟨(lw_in_3 (List.mem_of_getElem? (i := 165) rfl)), (lw_in_0 (List.mem_of_getElem? (i := 18) rfl)), by decide, mj_mathPlain rfl (by decide +kernel), by decide +kernel, by decide +kernel⟩
set_option maxRecDepth 100000 in
theorem my_5 : mj_okY lw_tbl mm_5 := ⟨(lw_in_3 (List.mem_of_getElem? (i := 168) rfl)), (lw_in_0 (List.mem_of_getElem? (i := 18) rfl)), by decide, mj_mathPlain rfl (by decide +kernel), by decide +kernel, by decide +kernel⟩
set_option maxRecDepth 100000 in
theorem my_6 : mj_okY lw_tbl mm_6 := ⟨(lw_in_3 (List.mem_of_getElem? (i := 171) rfl)), (lw_in_0 (List.mem_of_getElem? (i := 18) rfl)), by decide, mj_mathPlain rfl (by decide +kernel), by decide +kernel, by decide +kernel⟩
set_option maxRecDepth 100000 in
theorem my_7 : mj_okY lw_tbl mm_7 := ⟨(lw_in_4 (List.mem_of_getElem? (i := 132) rfl)), (lw_in_0 (List.mem_of_getElem? (i := 19) rfl)), by decide, plainFor_of_name (by decide +kernel), by decide +kernel, by decide +kernel⟩
set_option maxRecDepth 100000 in
theorem my_8 : mj_okY lw_tbl mm_8 := ⟨(lw_in_4 (List.mem_of_getElem? (i := 135) rfl)), (lw_in_0 (List.mem_of_getElem? (i := 21) rfl)), by decide, plainFor_of_name (by decide +kernel), by decide +kernel, by decide +kernel⟩
set_option maxRecDepth 100000 in
theorem my_9 : mj_okY lw_tbl mm_9 := ⟨(lw_in_5 (List.mem_of_getElem? (i := 215) rfl)), (lw_in_0 (List.mem_of_getElem? (i := 17) rfl)), by decide, plainFor_of_name (by decide +kernel), by decide +kernel, by decide +kernel⟩
set_option maxRecDepth 100000 in
theorem my_10 : mj_okY lw_tbl mm_10 := ⟨(lw_in_5 (List.mem_of_getElem? (i := 219) rfl)), (lw_in_0 (List.mem_of_getElem? (i := 17) rfl)), by decide, plainFor_of_name (by decide +kernel), by decide +kernel, by decide +kernel⟩
set_option maxRecDepth 100000 in
theorem my_11 : mj_okY lw_tbl mm_11 := ⟨(lw_in_5 (List.mem_of_getElem? (i := 223) rfl)), (lw_in_0 (List.mem_of_getElem? (i := 17) rfl)), by decide, plainFor_of_name (by decide +kernel), by decide +kernel, by decide +kernel⟩
set_option maxRecDepth 100000 in
theorem my_12 : mj_okY lw_tbl mm_12 := ⟨(lw_in_5 (List.mem_of_getElem? (i := 227) rfl)), (lw_in_0 (List.mem_of_getElem? (i := 17) rfl)), by decide, plainFor_of_name (by decide +kernel), by decide +kernel, by decide +kernel⟩
set_option maxRecDepth 100000 in
theorem my_13 : mj_okY lw_tbl mm_13 := ⟨(lw_in_5 (List.mem_of_getElem? (i := 231) rfl)), (lw_in_0 (List.mem_of_getElem? (i := 17) rfl)), by decide, plainFor_of_name (by decide +kernel), by decide +kernel, by decide +kernel⟩
set_option maxRecDepth 100000 in
theorem my_14 : mj_okY lw_tbl mm_14 := ⟨(lw_in_5 (List.mem_of_getElem? (i := 234) rfl)), (lw_in_0 (List.mem_of_getElem? (i := 17) rfl)), by decide, plainFor_of_name (by decide +kernel), by decide +kernel, by decide +kernel⟩
set_option maxRecDepth 100000 in
theorem my_15 : mj_okY lw_tbl mm_15 := ⟨(lw_in_5 (List.mem_of_getElem? (i := 237) rfl)), (lw_in_0 (List.mem_of_getElem? (i := 17) rfl)), by decide, plainFor_of_name (by decide +kernel), by decide +kernel, by decide +kernel⟩
set_option maxRecDepth 100000 in
theorem my_16 : mj_okY lw_tbl mm_16 := ⟨(lw_in_6 (List.mem_of_getElem? (i := 1) rfl)), (lw_in_0 (List.mem_of_getElem? (i := 17) rfl)), by decide, plainFor_of_name (by decide +kernel), by decide +kernel, by decide +kernel⟩
set_option maxRecDepth 100000 in
theorem my_17 : mj_okY lw_tbl mm_17 := ⟨(lw_in_6 (List.mem_of_getElem? (i := 5) rfl)), (lw_in_0 (List.mem_of_getElem? (i := 17) rfl)), by decide, plainFor_of_name (by decide +kernel), by decide +kernel, by decide +kernel⟩
set_option maxRecDepth 100000 in
theorem my_18 : mj_okY lw_tbl mm_18 := ⟨(lw_in_6 (List.mem_of_getElem? (i := 10) rfl)), (lw_in_0 (List.mem_of_getElem? (i := 17) rfl)), by decide, plainFor_of_name (by decide +kernel), by decide +kernel, by decide +kernel⟩
set_option maxRecDepth 100000 in
theorem my_19 : mj_okY lw_tbl mm_19 := ⟨(lw_in_6 (List.mem_of_getElem? (i := 14) rfl)), (lw_in_0 (List.mem_of_getElem? (i := 17) rfl)), by decide, plainFor_of_name (by decide +kernel), by decide +kernel, by decide +kernel⟩
set_option maxRecDepth 100000 in
theorem my_20 : mj_okY lw_tbl mm_20 := ⟨(lw_in_6 (List.mem_of_getElem? (i := 18) rfl)), (lw_in_0 (List.mem_of_getElem? (i := 17) rfl)), by decide, plainFor_of_name (by decide +kernel), by decide +kernel, by decide +kernel⟩
set_option maxRecDepth 100000 in
theorem my_21 : mj_okY lw_tbl mm_21 := ⟨(lw_in_6 (List.mem_of_getElem? (i := 22) rfl)), (lw_in_0 (List.mem_of_getElem? (i := 17) rfl)), by decide, plainFor_of_name (by decide +kernel), by decide +kernel, by decide +kernel⟩
set_option maxRecDepth 100000 in
theorem my_22 : mj_okY lw_tbl mm_22 := ⟨(lw_in_6 (List.mem_of_getElem? (i := 26) rfl)), (lw_in_0 (List.mem_of_getElem? (i := 17) rfl)), by decide, plainFor_of_name (by decide +kernel), by decide +kernel, by decide +kernel⟩
set_option maxRecDepth 100000 in
theorem my_23 : mj_okY lw_tbl mm_23 := ⟨(lw_in_6 (List.mem_of_getElem? (i := 46) rfl)), (lw_in_0 (List.mem_of_getElem? (i := 17) rfl)), by decide, plainFor_of_name (by decide +kernel), by decide +kernel, by decide +kernel⟩
set_option maxRecDepth 100000 in
theorem my_24 : mj_okY lw_tbl mm_24 := ⟨(lw_in_6 (List.mem_of_getElem? (i := 50) rfl)), (lw_in_0 (List.mem_of_getElem? (i := 17) rfl)), by decide, plainFor_of_name (by decide +kernel), by decide +kernel, by decide +kernel⟩
set_option maxRecDepth 100000 in
theorem my_25 : mj_okY lw_tbl mm_25 := ⟨(lw_in_6 (List.mem_of_getElem? (i := 54) rfl)), (lw_in_0 (List.mem_of_getElem? (i := 17) rfl)), by decide, plainFor_of_name (by decide +kernel), by decide +kernel, by decide +kernel⟩
set_option maxRecDepth 100000 in
theorem my_26 : mj_okY lw_tbl mm_26 := ⟨(lw_in_6 (List.mem_of_getElem? (i := 58) rfl)), (lw_in_0 (List.mem_of_getElem? (i := 17) rfl)), by decide, plainFor_of_name (by decide +kernel), by decide +kernel, by decide +kernel⟩
set_option maxRecDepth 100000 in
theorem my_27 : mj_okY lw_tbl mm_27 := ⟨(lw_in_6 (List.mem_of_getElem? (i := 62) rfl)), (lw_in_0 (List.mem_of_getElem? (i := 17) rfl)), by decide, plainFor_of_name (by decide +kernel), by decide +kernel, by decide +kernel⟩
set_option maxRecDepth 100000 in
theorem my_28 : mj_okY lw_tbl mm_28 := ⟨(lw_in_6 (List.mem_of_getElem? (i := 66) rfl)), (lw_in_0 (List.mem_of_getElem? (i := 17) rfl)), by decide, plainFor_of_name (by decide +kernel), by decide +kernel, by decide +kernel⟩
set_option maxRecDepth 100000 in
theorem my_29 : mj_okY lw_tbl mm_29 := ⟨(lw_in_6 (List.mem_of_getElem? (i := 70) rfl)), (lw_in_0 (List.mem_of_getElem? (i := 17) rfl)), by decide, plainFor_of_name (by decide +kernel), by decide +kernel, by decide +kernel⟩
set_option maxRecDepth 100000 in
theorem my_30 : mj_okY lw_tbl mm_30 := ⟨(lw_in_6 (List.mem_of_getElem? (i := 74) rfl)), (lw_in_0 (List.mem_of_getElem? (i := 17) rfl)), by decide, plainFor_of_name (by decide +kernel), by decide +kernel, by decide +kernel⟩
set_option maxRecDepth 100000 in
theorem my_31 : mj_okY lw_tbl mm_31 := ⟨(lw_in_6 (List.mem_of_getElem? (i := 78) rfl)), (lw_in_0 (List.mem_of_getElem? (i := 17) rfl)), by decide, plainFor_of_name (by decide +kernel), by decide +kernel, by decide +kernel⟩
set_option maxRecDepth 100000 in
theorem my_32 : mj_okY lw_tbl mm_32 := ⟨(lw_in_6 (List.mem_of_getElem? (i := 82) rfl)), (lw_in_0 (List.mem_of_getElem? (i := 17) rfl)), by decide, plainFor_of_name (by decide +kernel), by decide +kernel, by decide +kernel⟩
set_option maxRecDepth 100000 in
theorem my_33 : mj_okY lw_tbl mm_33 := ⟨(lw_in_6 (List.mem_of_getElem? (i := 86) rfl)), (lw_in_0 (List.mem_of_getElem? (i := 17) rfl)), by decide, plainFor_of_name (by decide +kernel), by decide +kernel, by decide +kernel⟩
set_option maxRecDepth 100000 in
theorem my_34 : mj_okY lw_tbl mm_34 := ⟨(lw_in_6 (List.mem_of_getElem? (i := 90) rfl)), (lw_in_0 (List.mem_of_getElem? (i := 17) rfl)), by decide, plainFor_of_name (by decide +kernel), by decide +kernel, by decide +kernel⟩
set_option maxRecDepth 100000 in
theorem my_35 : mj_okY lw_tbl mm_35 := ⟨(lw_in_6 (List.mem_of_getElem? (i := 94) rfl)), (lw_in_0 (List.mem_of_getElem? (i := 17) rfl)), by decide, plainFor_of_name (by decide +kernel), by decide +kernel, by decide +kernel⟩
set_option maxRecDepth 100000 in
theorem my_36 : mj_okY lw_tbl mm_36 := ⟨(lw_in_6 (List.mem_of_getElem? (i := 97) rfl)), (lw_in_0 (List.mem_of_getElem? (i := 17) rfl)), by decide, plainFor_of_name (by decide +kernel), by decide +kernel, by decide +kernel⟩
set_option maxRecDepth 100000 in
theorem my_37 : mj_okY lw_tbl mm_37 := ⟨(lw_in_6 (List.mem_of_getElem? (i := 101) rfl)), (lw_in_0 (List.mem_of_getElem? (i := 17) rfl)), by decide, plainFor_of_name (by decide +kernel), by decide +kernel, by decide +kernel⟩
set_option maxRecDepth 100000 in
theorem my_38 : mj_okY lw_tbl mm_38 := ⟨(lw_in_6 (List.mem_of_getElem? (i := 105) rfl)), (lw_in_0 (List.mem_of_getElem? (i := 17) rfl)), by decide, plainFor_of_name (by decide +kernel), by decide +kernel, by decide +kernel⟩
set_option maxRecDepth 100000 in
theorem my_39 : mj_okY lw_tbl mm_39 := ⟨(lw_in_6 (List.mem_of_getElem? (i := 109) rfl)), (lw_in_0 (List.mem_of_getElem? (i := 17) rfl)), by decide, plainFor_of_name (by decide +kernel), by decide +kernel, by decide +kernel⟩
set_option maxRecDepth 100000 in
theorem my_40 : mj_okY lw_tbl mm_40 := ⟨(lw_in_6 (List.mem_of_getElem? (i := 113) rfl)), (lw_in_0 (List.mem_of_getElem? (i := 17) rfl)), by decide, plainFor_of_name (by decide +kernel), by decide +kernel, by decide +kernel⟩
set_option maxRecDepth 100000 in
theorem my_41 : mj_okY lw_tbl mm_41 := ⟨(lw_in_6 (List.mem_of_getElem? (i := 117) rfl)), (lw_in_0 (List.mem_of_getElem? (i := 17) rfl)), by decide, plainFor_of_name (by decide +kernel), by decide +kernel, by decide +kernel⟩
set_option maxRecDepth 100000 in
theorem my_42 : mj_okY lw_tbl mm_42 := ⟨(lw_in_6 (List.mem_of_getElem? (i := 121) rfl)), (lw_in_0 (List.mem_of_getElem? (i := 17) rfl)), by decide, plainFor_of_name (by decide +kernel), by decide +kernel, by decide +kernel⟩
set_option maxRecDepth 100000 in
theorem my_43 : mj_okY lw_tbl mm_43 := ⟨(lw_in_6 (List.mem_of_getElem? (i := 124) rfl)), (lw_in_0 (List.mem_of_getElem? (i := 17) rfl)), by decide, plainFor_of_name (by decide +kernel), by decide +kernel, by decide +kernel⟩
set_option maxRecDepth 100000 in
theorem my_44 : mj_okY lw_tbl mm_44 := ⟨(lw_in_6 (List.mem_of_getElem? (i := 128) rfl)), (lw_in_0 (List.mem_of_getElem? (i := 17) rfl)), by decide, plainFor_of_name (by decide +kernel), by decide +kernel, by decide +kernel⟩
set_option maxRecDepth 100000 in
theorem my_45 : mj_okY lw_tbl mm_45 := ⟨(lw_in_6 (List.mem_of_getElem? (i := 132) rfl)), (lw_in_0 (List.mem_of_getElem? (i := 17) rfl)), by decide, plainFor_of_name (by decide +kernel), by decide +kernel, by decide +kernel⟩
set_option maxRecDepth 100000 in
theorem my_46 : mj_okY lw_tbl mm_46 := ⟨(lw_in_6 (List.mem_of_getElem? (i := 136) rfl)), (lw_in_0 (List.mem_of_getElem? (i := 17) rfl)), by decide, plainFor_of_name (by decide +kernel), by decide +kernel, by decide +kernel⟩
set_option maxRecDepth 100000 in
theorem my_47 : mj_okY lw_tbl mm_47 := ⟨(lw_in_6 (List.mem_of_getElem? (i := 140) rfl)), (lw_in_0 (List.mem_of_getElem? (i := 17) rfl)), by decide, plainFor_of_name (by decide +kernel), by decide +kernel, by decide +kernel⟩
set_option maxRecDepth 100000 in
theorem my_48 : mj_okY lw_tbl mm_48 := ⟨(lw_in_6 (List.mem_of_getElem? (i := 144) rfl)), (lw_in_0 (List.mem_of_getElem? (i := 17) rfl)), by decide, plainFor_of_name (by decide +kernel), by decide +kernel, by decide +kernel⟩
set_option maxRecDepth 100000 in
theorem my_49 : mj_okY lw_tbl mm_49 := ⟨(lw_in_6 (List.mem_of_getElem? (i := 147) rfl)), (lw_in_0 (List.mem_of_getElem? (i := 17) rfl)), by decide, plainFor_of_name (by decide +kernel), by decide +kernel, by decide +kernel⟩
set_option maxRecDepth 100000 in
theorem my_50 : mj_okY lw_tbl mm_50 := ⟨(lw_in_6 (List.mem_of_getElem? (i := 150) rfl)), (lw_in_0 (List.mem_of_getElem? (i := 17) rfl)), by decide, plainFor_of_name (by decide +kernel), by decide +kernel, by decide +kernel⟩
set_option maxRecDepth 100000 in
theorem my_51 : mj_okY lw_tbl mm_51 := ⟨(lw_in_6 (List.mem_of_getElem? (i := 155) rfl)), (lw_in_0 (List.mem_of_getElem? (i := 17) rfl)), by decide, plainFor_of_name (by decide +kernel), by decide +kernel, by decide +kernel⟩
set_option maxRecDepth 100000 in
theorem my_52 : mj_okY lw_tbl mm_52 := ⟨(lw_in_6 (List.mem_of_getElem? (i := 159) rfl)), (lw_in_0 (List.mem_of_getElem? (i := 17) rfl)), by decide, plainFor_of_name (by decide +kernel), by decide +kernel, by decide +kernel⟩
set_option maxRecDepth 100000 in
theorem my_53 : mj_okY lw_tbl mm_53 := ⟨(lw_in_6 (List.mem_of_getElem? (i := 163) rfl)), (lw_in_0 (List.mem_of_getElem? (i := 17) rfl)), by decide, plainFor_of_name (by decide +kernel), by decide +kernel, by decide +kernel⟩
set_option maxRecDepth 100000 in
theorem my_54 : mj_okY lw_tbl mm_54 := ⟨(lw_in_6 (List.mem_of_getElem? (i := 167) rfl)), (lw_in_0 (List.mem_of_getElem? (i := 17) rfl)), by decide, plainFor_of_name (by decide +kernel), by decide +kernel, by decide +kernel⟩
set_option maxRecDepth 100000 in
theorem my_55 : mj_okY lw_tbl mm_55 := ⟨(lw_in_6 (List.mem_of_getElem? (i := 171) rfl)), (lw_in_0 (List.mem_of_getElem? (i := 17) rfl)), by decide, plainFor_of_name (by decide +kernel), by decide +kernel, by decide +kernel⟩
set_option maxRecDepth 100000 in
theorem my_56 : mj_okY lw_tbl mm_56 := ⟨(lw_in_6 (List.mem_of_getElem? (i := 175) rfl)), (lw_in_0 (List.mem_of_getElem? (i := 17) rfl)), by decide, plainFor_of_name (by decide +kernel), by decide +kernel, by decide +kernel⟩
set_option maxRecDepth 100000 in
theorem my_57 : mj_okY lw_tbl mm_57 := ⟨(lw_in_6 (List.mem_of_getElem? (i := 179) rfl)), (lw_in_0 (List.mem_of_getElem? (i := 17) rfl)), by decide, plainFor_of_name (by decide +kernel), by decide +kernel, by decide +kernel⟩
set_option maxRecDepth 100000 in
theorem my_58 : mj_okY lw_tbl mm_58 := ⟨(lw_in_6 (List.mem_of_getElem? (i := 183) rfl)), (lw_in_0 (List.mem_of_getElem? (i := 17) rfl)), by decide, plainFor_of_name (by decide +kernel), by decide +kernel, by decide +kernel⟩
set_option maxRecDepth 100000 in
theorem my_59 : mj_okY lw_tbl mm_59 := ⟨(lw_in_6 (List.mem_of_getElem? (i := 187) rfl)), (lw_in_0 (List.mem_of_getElem? (i := 17) rfl)), by decide, plainFor_of_name (by decide +kernel), by decide +kernel, by decide +kernel⟩
set_option maxRecDepth 100000 in
theorem my_60 : mj_okY lw_tbl mm_60 := ⟨(lw_in_6 (List.mem_of_getElem? (i := 191) rfl)), (lw_in_0 (List.mem_of_getElem? (i := 17) rfl)), by decide, plainFor_of_name (by decide +kernel), by decide +kernel, by decide +kernel⟩
set_option maxRecDepth 100000 in
theorem my_61 : mj_okY lw_tbl mm_61 := ⟨(lw_in_6 (List.mem_of_getElem? (i := 195) rfl)), (lw_in_0 (List.mem_of_getElem? (i := 17) rfl)), by decide, plainFor_of_name (by decide +kernel), by decide +kernel, by decide +kernel⟩
set_option maxRecDepth 100000 in
theorem my_62 : mj_okY lw_tbl mm_62 := ⟨(lw_in_6 (List.mem_of_getElem? (i := 199) rfl)), (lw_in_0 (List.mem_of_getElem? (i := 17) rfl)), by decide, plainFor_of_name (by decide +kernel), by decide +kernel, by decide +kernel⟩
set_option maxRecDepth 100000 in
theorem my_63 : mj_okY lw_tbl mm_63 := ⟨(lw_in_6 (List.mem_of_getElem? (i := 203) rfl)), (lw_in_0 (List.mem_of_getElem? (i := 17) rfl)), by decide, plainFor_of_name (by decide +kernel), by decide +kernel, by decide +kernel⟩
set_option maxRecDepth 100000 in
theorem my_64 : mj_okY lw_tbl mm_64 := ⟨(lw_in_6 (List.mem_of_getElem? (i := 207) rfl)), (lw_in_0 (List.mem_of_getElem? (i := 17) rfl)), by decide, plainFor_of_name (by decide +kernel), by decide +kernel, by decide +kernel⟩
set_option maxRecDepth 100000 in
theorem my_65 : mj_okY lw_tbl mm_65 := ⟨(lw_in_6 (List.mem_of_getElem? (i := 211) rfl)), (lw_in_0 (List.mem_of_getElem? (i := 17) rfl)), by decide, plainFor_of_name (by decide +kernel), by decide +kernel, by decide +kernel⟩
set_option maxRecDepth 100000 in
theorem my_66 : mj_okY lw_tbl mm_66 := ⟨(lw_in_6 (List.mem_of_getElem? (i := 215) rfl)), (lw_in_0 (List.mem_of_getElem? (i := 17) rfl)), by decide, plainFor_of_name (by decide +kernel), by decide +kernel, by decide +kernel⟩
set_option maxRecDepth 100000 in
theorem my_67 : mj_okY lw_tbl mm_67 := ⟨(lw_in_6 (List.mem_of_getElem? (i := 219) rfl)), (lw_in_0 (List.mem_of_getElem? (i := 17) rfl)), by decide, plainFor_of_name (by decide +kernel), by decide +kernel, by decide +kernel⟩
set_option maxRecDepth 100000 in
theorem my_68 : mj_okY lw_tbl mm_68 := ⟨(lw_in_6 (List.mem_of_getElem? (i := 223) rfl)), (lw_in_0 (List.mem_of_getElem? (i := 17) rfl)), by decide, plainFor_of_name (by decide +kernel), by decide +kernel, by decide +kernel⟩
set_option maxRecDepth 100000 in
theorem my_69 : mj_okY lw_tbl mm_69 := ⟨(lw_in_6 (List.mem_of_getElem? (i := 227) rfl)), (lw_in_0 (List.mem_of_getElem? (i := 17) rfl)), by decide, plainFor_of_name (by decide +kernel), by decide +kernel, by decide +kernel⟩
set_option maxRecDepth 100000 in
theorem my_70 : mj_okY lw_tbl mm_70 := ⟨(lw_in_6 (List.mem_of_getElem? (i := 231) rfl)), (lw_in_0 (List.mem_of_getElem? (i := 17) rfl)), by decide, plainFor_of_name (by decide +kernel), by decide +kernel, by decide +kernel⟩
set_option maxRecDepth 100000 in
theorem my_71 : mj_okY lw_tbl mm_71 := ⟨(lw_in_6 (List.mem_of_getElem? (i := 235) rfl)), (lw_in_0 (List.mem_of_getElem? (i := 17) rfl)), by decide, plainFor_of_name (by decide +kernel), by decide +kernel, by decide +kernel⟩
set_option maxRecDepth 100000 in
theorem my_72 : mj_okY lw_tbl mm_72 := ⟨(lw_in_6 (List.mem_of_getElem? (i := 239) rfl)), (lw_in_0 (List.mem_of_getElem? (i := 17) rfl)), by decide, plainFor_of_name (by decide +kernel), by decide +kernel, by decide +kernel⟩
set_option maxRecDepth 100000 in
theorem my_73 : mj_okY lw_tbl mm_73 := ⟨(lw_in_7 (List.mem_of_getElem? (i := 3) rfl)), (lw_in_0 (List.mem_of_getElem? (i := 17) rfl)), by decide, plainFor_of_name (by decide +kernel), by decide +kernel, by decide +kernel⟩
set_option maxRecDepth 100000 in
theorem my_74 : mj_okY lw_tbl mm_74 := ⟨(lw_in_7 (List.mem_of_getElem? (i := 7) rfl)), (lw_in_0 (List.mem_of_getElem? (i := 17) rfl)), by decide, plainFor_of_name (by decide +kernel), by decide +kernel, by decide +kernel⟩
set_option maxRecDepth 100000 in
theorem my_75 : mj_okY lw_tbl mm_75 := ⟨(lw_in_7 (List.mem_of_getElem? (i := 11) rfl)), (lw_in_0 (List.mem_of_getElem? (i := 17) rfl)), by decide, plainFor_of_name (by decide +kernel), by decide +kernel, by decide +kernel⟩
set_option maxRecDepth 100000 in
theorem my_76 : mj_okY lw_tbl mm_76 := ⟨(lw_in_7 (List.mem_of_getElem? (i := 15) rfl)), (lw_in_0 (List.mem_of_getElem? (i := 17) rfl)), by decide, plainFor_of_name (by decide +kernel), by decide +kernel, by decide +kernel⟩
set_option maxRecDepth 100000 in
theorem my_77 : mj_okY lw_tbl mm_77 := ⟨(lw_in_7 (List.mem_of_getElem? (i := 19) rfl)), (lw_in_0 (List.mem_of_getElem? (i := 17) rfl)), by decide, plainFor_of_name (by decide +kernel), by decide +kernel, by decide +kernel⟩
set_option maxRecDepth 100000 in
theorem my_78 : mj_okY lw_tbl mm_78 := ⟨(lw_in_7 (List.mem_of_getElem? (i := 23) rfl)), (lw_in_0 (List.mem_of_getElem? (i := 17) rfl)), by decide, plainFor_of_name (by decide +kernel), by decide +kernel, by decide +kernel⟩
set_option maxRecDepth 100000 in
theorem my_79 : mj_okY lw_tbl mm_79 := ⟨(lw_in_7 (List.mem_of_getElem? (i := 27) rfl)), (lw_in_0 (List.mem_of_getElem? (i := 17) rfl)), by decide, plainFor_of_name (by decide +kernel), by decide +kernel, by decide +kernel⟩
set_option maxRecDepth 100000 in
theorem my_80 : mj_okY lw_tbl mm_80 := ⟨(lw_in_7 (List.mem_of_getElem? (i := 30) rfl)), (lw_in_0 (List.mem_of_getElem? (i := 17) rfl)), by decide, plainFor_of_name (by decide +kernel), by decide +kernel, by decide +kernel⟩
set_option maxRecDepth 100000 in
theorem my_81 : mj_okY lw_tbl mm_81 := ⟨(lw_in_7 (List.mem_of_getElem? (i := 33) rfl)), (lw_in_0 (List.mem_of_getElem? (i := 17) rfl)), by decide, plainFor_of_name (by decide +kernel), by decide +kernel, by decide +kernel⟩
set_option maxRecDepth 100000 in
theorem my_82 : mj_okY lw_tbl mm_82 := ⟨(lw_in_7 (List.mem_of_getElem? (i := 38) rfl)), (lw_in_0 (List.mem_of_getElem? (i := 17) rfl)), by decide, plainFor_of_name (by decide +kernel), by decide +kernel, by decide +kernel⟩
set_option maxRecDepth 100000 in
theorem my_83 : mj_okY lw_tbl mm_83 := ⟨(lw_in_7 (List.mem_of_getElem? (i := 42) rfl)), (lw_in_0 (List.mem_of_getElem? (i := 17) rfl)), by decide, plainFor_of_name (by decide +kernel), by decide +kernel, by decide +kernel⟩
set_option maxRecDepth 100000 in
theorem my_84 : mj_okY lw_tbl mm_84 := ⟨(lw_in_7 (List.mem_of_getElem? (i := 46) rfl)), (lw_in_0 (List.mem_of_getElem? (i := 17) rfl)), by decide, plainFor_of_name (by decide +kernel), by decide +kernel, by decide +kernel⟩
set_option maxRecDepth 100000 in
theorem my_85 : mj_okY lw_tbl mm_85 := ⟨(lw_in_7 (List.mem_of_getElem? (i := 50) rfl)), (lw_in_0 (List.mem_of_getElem? (i := 17) rfl)), by decide, plainFor_of_name (by decide +kernel), by decide +kernel, by decide +kernel⟩
set_option maxRecDepth 100000 in
theorem my_86 : mj_okY lw_tbl mm_86 := ⟨(lw_in_7 (List.mem_of_getElem? (i := 55) rfl)), (lw_in_0 (List.mem_of_getElem? (i := 17) rfl)), by decide, plainFor_of_name (by decide +kernel), by decide +kernel, by decide +kernel⟩
set_option maxRecDepth 100000 in
theorem my_87 : mj_okY lw_tbl mm_87 := ⟨(lw_in_7 (List.mem_of_getElem? (i := 59) rfl)), (lw_in_0 (List.mem_of_getElem? (i := 17) rfl)), by decide, plainFor_of_name (by decide +kernel), by decide +kernel, by decide +kernel⟩
set_option maxRecDepth 100000 in
theorem my_88 : mj_okY lw_tbl mm_88 := ⟨(lw_in_7 (List.mem_of_getElem? (i := 63) rfl)), (lw_in_0 (List.mem_of_getElem? (i := 17) rfl)), by decide, plainFor_of_name (by decide +kernel), by decide +kernel, by decide +kernel⟩
set_option maxRecDepth 100000 in
theorem my_89 : mj_okY lw_tbl mm_89 := ⟨(lw_in_7 (List.mem_of_getElem? (i := 67) rfl)), (lw_in_0 (List.mem_of_getElem? (i := 17) rfl)), by decide, plainFor_of_name (by decide +kernel), by decide +kernel, by decide +kernel⟩
set_option maxRecDepth 100000 in
theorem my_90 : mj_okY lw_tbl mm_90 := ⟨(lw_in_7 (List.mem_of_getElem? (i := 71) rfl)), (lw_in_0 (List.mem_of_getElem? (i := 17) rfl)), by decide, plainFor_of_name (by decide +kernel), by decide +kernel, by decide +kernel⟩
set_option maxRecDepth 100000 in
theorem my_91 : mj_okY lw_tbl mm_91 := ⟨(lw_in_7 (List.mem_of_getElem? (i := 75) rfl)), (lw_in_0 (List.mem_of_getElem? (i := 17) rfl)), by decide, plainFor_of_name (by decide +kernel), by decide +kernel, by decide +kernel⟩
set_option maxRecDepth 100000 in
theorem my_92 : mj_okY lw_tbl mm_92 := ⟨(lw_in_7 (List.mem_of_getElem? (i := 79) rfl)), (lw_in_0 (List.mem_of_getElem? (i := 17) rfl)), by decide, plainFor_of_name (by decide +kernel), by decide +kernel, by decide +kernel⟩
set_option maxRecDepth 100000 in
theorem my_93 : mj_okY lw_tbl mm_93 := ⟨(lw_in_7 (List.mem_of_getElem? (i := 83) rfl)), (lw_in_0 (List.mem_of_getElem? (i := 17) rfl)), by decide, plainFor_of_name (by decide +kernel), by decide +kernel, by decide +kernel⟩
set_option maxRecDepth 100000 in
theorem my_94 : mj_okY lw_tbl mm_94 := ⟨(lw_in_7 (List.mem_of_getElem? (i := 87) rfl)), (lw_in_0 (List.mem_of_getElem? (i := 17) rfl)), by decide, plainFor_of_name (by decide +kernel), by decide +kernel, by decide +kernel⟩
set_option maxRecDepth 100000 in
theorem my_95 : mj_okY lw_tbl mm_95 := ⟨(lw_in_7 (List.mem_of_getElem? (i := 91) rfl)), (lw_in_0 (List.mem_of_getElem? (i := 17) rfl)), by decide, plainFor_of_name (by decide +kernel), by decide +kernel, by decide +kernel⟩
set_option maxRecDepth 100000 in
theorem my_96 : mj_okY lw_tbl mm_96 := ⟨(lw_in_7 (List.mem_of_getElem? (i := 95) rfl)), (lw_in_0 (List.mem_of_getElem? (i := 17) rfl)), by decide, plainFor_of_name (by decide +kernel), by decide +kernel, by decide +kernel⟩
set_option maxRecDepth 100000 in
theorem my_97 : mj_okY lw_tbl mm_97 := ⟨(lw_in_7 (List.mem_of_getElem? (i := 99) rfl)), (lw_in_0 (List.mem_of_getElem? (i := 17) rfl)), by decide, plainFor_of_name (by decide +kernel), by decide +kernel, by decide +kernel⟩
set_option maxRecDepth 100000 in
theorem my_98 : mj_okY lw_tbl mm_98 := ⟨(lw_in_7 (List.mem_of_getElem? (i := 103) rfl)), (lw_in_0 (List.mem_of_getElem? (i := 17) rfl)), by decide, plainFor_of_name (by decide +kernel), by decide +kernel, by decide +kernel⟩
set_option maxRecDepth 100000 in
theorem my_99 : mj_okY lw_tbl mm_99 := ⟨(lw_in_7 (List.mem_of_getElem? (i := 107) rfl)), (lw_in_0 (List.mem_of_getElem? (i := 17) rfl)), by decide, plainFor_of_name (by decide +kernel), by decide +kernel, by decide +kernel⟩
set_option maxRecDepth 100000 in
theorem my_100 : mj_okY lw_tbl mm_100 := ⟨(lw_in_7 (List.mem_of_getElem? (i := 111) rfl)), (lw_in_0 (List.mem_of_getElem? (i := 17) rfl)), by decide, plainFor_of_name (by decide +kernel), by decide +kernel, by decide +kernel⟩
set_option maxRecDepth 100000 in
theorem my_101 : mj_okY lw_tbl mm_101 := ⟨(lw_in_7 (List.mem_of_getElem? (i := 115) rfl)), (lw_in_0 (List.mem_of_getElem? (i := 17) rfl)), by decide, plainFor_of_name (by decide +kernel), by decide +kernel, by decide +kernel⟩
set_option maxRecDepth 100000 in
theorem my_102 : mj_okY lw_tbl mm_102 := ⟨(lw_in_7 (List.mem_of_getElem? (i := 119) rfl)), (lw_in_0 (List.mem_of_getElem? (i := 17) rfl)), by decide, plainFor_of_name (by decide +kernel), by decide +kernel, by decide +kernel⟩
set_option maxRecDepth 100000 in
theorem my_103 : mj_okY lw_tbl mm_103 := ⟨(lw_in_7 (List.mem_of_getElem? (i := 122) rfl)), (lw_in_0 (List.mem_of_getElem? (i := 17) rfl)), by decide, plainFor_of_name (by decide +kernel), by decide +kernel, by decide +kernel⟩
set_option maxRecDepth 100000 in
theorem my_104 : mj_okY lw_tbl mm_104 := ⟨(lw_in_7 (List.mem_of_getElem? (i := 126) rfl)), (lw_in_0 (List.mem_of_getElem? (i := 17) rfl)), by decide, plainFor_of_name (by decide +kernel), by decide +kernel, by decide +kernel⟩
set_option maxRecDepth 100000 in
theorem my_105 : mj_okY lw_tbl mm_105 := ⟨(lw_in_7 (List.mem_of_getElem? (i := 130) rfl)), (lw_in_0 (List.mem_of_getElem? (i := 17) rfl)), by decide, plainFor_of_name (by decide +kernel), by decide +kernel, by decide +kernel⟩
set_option maxRecDepth 100000 in
theorem my_106 : mj_okY lw_tbl mm_106 := ⟨(lw_in_7 (List.mem_of_getElem? (i := 134) rfl)), (lw_in_0 (List.mem_of_getElem? (i := 17) rfl)), by decide, plainFor_of_name (by decide +kernel), by decide +kernel, by decide +kernel⟩
set_option maxRecDepth 100000 in
theorem my_107 : mj_okY lw_tbl mm_107 := ⟨(lw_in_7 (List.mem_of_getElem? (i := 138) rfl)), (lw_in_0 (List.mem_of_getElem? (i := 17) rfl)), by decide, plainFor_of_name (by decide +kernel), by decide +kernel, by decide +kernel⟩
set_option maxRecDepth 100000 in
theorem my_108 : mj_okY lw_tbl mm_108 := ⟨(lw_in_7 (List.mem_of_getElem? (i := 142) rfl)), (lw_in_0 (List.mem_of_getElem? (i := 17) rfl)), by decide, plainFor_of_name (by decide +kernel), by decide +kernel, by decide +kernel⟩
set_option maxRecDepth 100000 in
theorem my_109 : mj_okY lw_tbl mm_109 := ⟨(lw_in_7 (List.mem_of_getElem? (i := 146) rfl)), (lw_in_0 (List.mem_of_getElem? (i := 17) rfl)), by decide, plainFor_of_name (by decide +kernel), by decide +kernel, by decide +kernel⟩
set_option maxRecDepth 100000 in
theorem my_110 : mj_okY lw_tbl mm_110 := ⟨(lw_in_7 (List.mem_of_getElem? (i := 150) rfl)), (lw_in_0 (List.mem_of_getElem? (i := 17) rfl)), by decide, plainFor_of_name (by decide +kernel), by decide +kernel, by decide +kernel⟩
set_option maxRecDepth 100000 in
theorem my_111 : mj_okY lw_tbl mm_111 := ⟨(lw_in_7 (List.mem_of_getElem? (i := 154) rfl)), (lw_in_0 (List.mem_of_getElem? (i := 17) rfl)), by decide, plainFor_of_name (by decide +kernel), by decide +kernel, by decide +kernel⟩
set_option maxRecDepth 100000 in
theorem my_112 : mj_okY lw_tbl mm_112 := ⟨(lw_in_7 (List.mem_of_getElem? (i := 158) rfl)), (lw_in_0 (List.mem_of_getElem? (i := 17) rfl)), by decide, plainFor_of_name (by decide +kernel), by decide +kernel, by decide +kernel⟩
set_option maxRecDepth 100000 in
theorem my_113 : mj_okY lw_tbl mm_113 := ⟨(lw_in_7 (List.mem_of_getElem? (i := 162) rfl)), (lw_in_0 (List.mem_of_getElem? (i := 17) rfl)), by decide, plainFor_of_name (by decide +kernel), by decide +kernel, by decide +kernel⟩
set_option maxRecDepth 100000 in
theorem my_114 : mj_okY lw_tbl mm_114 := ⟨(lw_in_7 (List.mem_of_getElem? (i := 166) rfl)), (lw_in_0 (List.mem_of_getElem? (i := 17) rfl)), by decide, plainFor_of_name (by decide +kernel), by decide +kernel, by decide +kernel⟩
set_option maxRecDepth 100000 in
theorem my_115 : mj_okY lw_tbl mm_115 := ⟨(lw_in_7 (List.mem_of_getElem? (i := 170) rfl)), (lw_in_0 (List.mem_of_getElem? (i := 17) rfl)), by decide, plainFor_of_name (by decide +kernel), by decide +kernel, by decide +kernel⟩
set_option maxRecDepth 100000 in
theorem my_116 : mj_okY lw_tbl mm_116 := ⟨(lw_in_7 (List.mem_of_getElem? (i := 174) rfl)), (lw_in_0 (List.mem_of_getElem? (i := 17) rfl)), by decide, plainFor_of_name (by decide +kernel), by decide +kernel, by decide +kernel⟩
set_option maxRecDepth 100000 in
theorem my_117 : mj_okY lw_tbl mm_117 := ⟨(lw_in_7 (List.mem_of_getElem? (i := 178) rfl)), (lw_in_0 (List.mem_of_getElem? (i := 17) rfl)), by decide, plainFor_of_name (by decide +kernel), by decide +kernel, by decide +kernel⟩
set_option maxRecDepth 100000 in
theorem my_118 : mj_okY lw_tbl mm_118 := ⟨(lw_in_7 (List.mem_of_getElem? (i := 182) rfl)), (lw_in_0 (List.mem_of_getElem? (i := 17) rfl)), by decide, plainFor_of_name (by decide +kernel), by decide +kernel, by decide +kernel⟩
set_option maxRecDepth 100000 in
theorem my_119 : mj_okY lw_tbl mm_119 := ⟨(lw_in_7 (List.mem_of_getElem? (i := 185) rfl)), (lw_in_0 (List.mem_of_getElem? (i := 17) rfl)), by decide, plainFor_of_name (by decide +kernel), by decide +kernel, by decide +kernel⟩
set_option maxRecDepth 100000 in
theorem my_120 : mj_okY lw_tbl mm_120 := ⟨(lw_in_7 (List.mem_of_getElem? (i := 189) rfl)), (lw_in_0 (List.mem_of_getElem? (i := 17) rfl)), by decide, plainFor_of_name (by decide +kernel), by decide +kernel, by decide +kernel⟩
set_option maxRecDepth 100000 in
theorem my_121 : mj_okY lw_tbl mm_121 := ⟨(lw_in_7 (List.mem_of_getElem? (i := 193) rfl)), (lw_in_0 (List.mem_of_getElem? (i := 17) rfl)), by decide, plainFor_of_name (by decide +kernel), by decide +kernel, by decide +kernel⟩
set_option maxRecDepth 100000 in
theorem my_122 : mj_okY lw_tbl mm_122 := ⟨(lw_in_7 (List.mem_of_getElem? (i := 197) rfl)), (lw_in_0 (List.mem_of_getElem? (i := 17) rfl)), by decide, plainFor_of_name (by decide +kernel), by decide +kernel, by decide +kernel⟩
set_option maxRecDepth 100000 in
theorem my_123 : mj_okY lw_tbl mm_123 := ⟨(lw_in_7 (List.mem_of_getElem? (i := 201) rfl)), (lw_in_0 (List.mem_of_getElem? (i := 17) rfl)), by decide, plainFor_of_name (by decide +kernel), by decide +kernel, by decide +kernel⟩
set_option maxRecDepth 100000 in
theorem my_124 : mj_okY lw_tbl mm_124 := ⟨(lw_in_7 (List.mem_of_getElem? (i := 205) rfl)), (lw_in_0 (List.mem_of_getElem? (i := 17) rfl)), by decide, plainFor_of_name (by decide +kernel), by decide +kernel, by decide +kernel⟩
set_option maxRecDepth 100000 in
theorem my_125 : mj_okY lw_tbl mm_125 := ⟨(lw_in_7 (List.mem_of_getElem? (i := 209) rfl)), (lw_in_0 (List.mem_of_getElem? (i := 17) rfl)), by decide, plainFor_of_name (by decide +kernel), by decide +kernel, by decide +kernel⟩
set_option maxRecDepth 100000 in
theorem my_126 : mj_okY lw_tbl mm_126 := ⟨(lw_in_7 (List.mem_of_getElem? (i := 213) rfl)), (lw_in_0 (List.mem_of_getElem? (i := 17) rfl)), by decide, plainFor_of_name (by decide +kernel), by decide +kernel, by decide +kernel⟩
set_option maxRecDepth 100000 in
theorem my_127 : mj_okY lw_tbl mm_127 := ⟨(lw_in_7 (List.mem_of_getElem? (i := 217) rfl)), (lw_in_0 (List.mem_of_getElem? (i := 17) rfl)), by decide, plainFor_of_name (by decide +kernel), by decide +kernel, by decide +kernel⟩
set_option maxRecDepth 100000 in
theorem my_128 : mj_okY lw_tbl mm_128 := ⟨(lw_in_7 (List.mem_of_getElem? (i := 221) rfl)), (lw_in_0 (List.mem_of_getElem? (i := 17) rfl)), by decide, plainFor_of_name (by decide +kernel), by decide +kernel, by decide +kernel⟩
set_option maxRecDepth 100000 in
theorem my_129 : mj_okY lw_tbl mm_129 := ⟨(lw_in_7 (List.mem_of_getElem? (i := 225) rfl)), (lw_in_0 (List.mem_of_getElem? (i := 17) rfl)), by decide, plainFor_of_name (by decide +kernel), by decide +kernel, by decide +kernel⟩
set_option maxRecDepth 100000 in
theorem my_130 : mj_okY lw_tbl mm_130 := ⟨(lw_in_7 (List.mem_of_getElem? (i := 229) rfl)), (lw_in_0 (List.mem_of_getElem? (i := 17) rfl)), by decide, plainFor_of_name (by decide +kernel), by decide +kernel, by decide +kernel⟩
set_option maxRecDepth 100000 in
theorem my_131 : mj_okY lw_tbl mm_131 := ⟨(lw_in_7 (List.mem_of_getElem? (i := 233) rfl)), (lw_in_0 (List.mem_of_getElem? (i := 17) rfl)), by decide, plainFor_of_name (by decide +kernel), by decide +kernel, by decide +kernel⟩
set_option maxRecDepth 100000 in
theorem my_132 : mj_okY lw_tbl mm_132 := ⟨(lw_in_7 (List.mem_of_getElem? (i := 238) rfl)), (lw_in_0 (List.mem_of_getElem? (i := 17) rfl)), by decide, plainFor_of_name (by decide +kernel), by decide +kernel, by decide +kernel⟩
set_option maxRecDepth 100000 in
theorem my_133 : mj_okY lw_tbl mm_133 := ⟨(lw_in_1 (List.mem_of_getElem? (i := 228) rfl)), (lw_in_0 (List.mem_of_getElem? (i := 1) rfl)), by decide, plainFor_of_name (by decide +kernel), by decide +kernel, by decide +kernel⟩
set_option maxRecDepth 100000 in
theorem my_134 : mj_okY lw_tbl mm_134 := ⟨(lw_in_1 (List.mem_of_getElem? (i := 232) rfl)), (lw_in_0 (List.mem_of_getElem? (i := 1) rfl)), by decide, plainFor_of_name (by decide +kernel), by decide +kernel, by decide +kernel⟩
set_option maxRecDepth 100000 in
theorem my_135 : mj_okY lw_tbl mm_135 := ⟨(lw_in_1 (List.mem_of_getElem? (i := 236) rfl)), (lw_in_0 (List.mem_of_getElem? (i := 1) rfl)), by decide, plainFor_of_name (by decide +kernel), by decide +kernel, by decide +kernel⟩
set_option maxRecDepth 100000 in
theorem my_136 : mj_okY lw_tbl mm_136 := ⟨(lw_in_2 (List.mem_of_getElem? (i := 0) rfl)), (lw_in_0 (List.mem_of_getElem? (i := 1) rfl)), by decide, plainFor_of_name (by decide +kernel), by decide +kernel, by decide +kernel⟩
set_option maxRecDepth 100000 in
theorem my_137 : mj_okY lw_tbl mm_137 := ⟨(lw_in_2 (List.mem_of_getElem? (i := 4) rfl)), (lw_in_0 (List.mem_of_getElem? (i := 3) rfl)), by decide, plainFor_of_name (by decide +kernel), by decide +kernel, by decide +kernel⟩
set_option maxRecDepth 100000 in
theorem my_138 : mj_okY lw_tbl mm_138 := ⟨(lw_in_2 (List.mem_of_getElem? (i := 8) rfl)), (lw_in_0 (List.mem_of_getElem? (i := 2) rfl)), by decide, plainFor_of_name (by decide +kernel), by decide +kernel, by decide +kernel⟩
set_option maxRecDepth 100000 in
theorem my_139 : mj_okY lw_tbl mm_139 := ⟨(lw_in_2 (List.mem_of_getElem? (i := 12) rfl)), (lw_in_0 (List.mem_of_getElem? (i := 3) rfl)), by decide, plainFor_of_name (by decide +kernel), by decide +kernel, by decide +kernel⟩
set_option maxRecDepth 100000 in
theorem my_140 : mj_okY lw_tbl mm_140 := ⟨(lw_in_2 (List.mem_of_getElem? (i := 16) rfl)), (lw_in_0 (List.mem_of_getElem? (i := 3) rfl)), by decide, plainFor_of_name (by decide +kernel), by decide +kernel, by decide +kernel⟩
set_option maxRecDepth 100000 in
theorem my_141 : mj_okY lw_tbl mm_141 := ⟨(lw_in_2 (List.mem_of_getElem? (i := 19) rfl)), (lw_in_0 (List.mem_of_getElem? (i := 3) rfl)), by decide, plainFor_of_name (by decide +kernel), by decide +kernel, by decide +kernel⟩
set_option maxRecDepth 100000 in
theorem my_142 : mj_okY lw_tbl mm_142 := ⟨(lw_in_2 (List.mem_of_getElem? (i := 26) rfl)), (lw_in_0 (List.mem_of_getElem? (i := 3) rfl)), by decide, plainFor_of_name (by decide +kernel), by decide +kernel, by decide +kernel⟩
set_option maxRecDepth 100000 in
theorem my_143 : mj_okY lw_tbl mm_143 := ⟨(lw_in_2 (List.mem_of_getElem? (i := 30) rfl)), (lw_in_0 (List.mem_of_getElem? (i := 3) rfl)), by decide, plainFor_of_name (by decide +kernel), by decide +kernel, by decide +kernel⟩
set_option maxRecDepth 100000 in
theorem my_144 : mj_okY lw_tbl mm_144 := ⟨(lw_in_2 (List.mem_of_getElem? (i := 34) rfl)), (lw_in_0 (List.mem_of_getElem? (i := 3) rfl)), by decide, plainFor_of_name (by decide +kernel), by decide +kernel, by decide +kernel⟩
set_option maxRecDepth 100000 in
theorem my_145 : mj_okY lw_tbl mm_145 := ⟨(lw_in_2 (List.mem_of_getElem? (i := 40) rfl)), (lw_in_0 (List.mem_of_getElem? (i := 3) rfl)), by decide, plainFor_of_name (by decide +kernel), by decide +kernel, by decide +kernel⟩
set_option maxRecDepth 100000 in
theorem my_146 : mj_okY lw_tbl mm_146 := ⟨(lw_in_2 (List.mem_of_getElem? (i := 44) rfl)), (lw_in_0 (List.mem_of_getElem? (i := 3) rfl)), by decide, plainFor_of_name (by decide +kernel), by decide +kernel, by decide +kernel⟩
set_option maxRecDepth 100000 in
theorem my_147 : mj_okY lw_tbl mm_147 := ⟨(lw_in_2 (List.mem_of_getElem? (i := 48) rfl)), (lw_in_0 (List.mem_of_getElem? (i := 3) rfl)), by decide, plainFor_of_name (by decide +kernel), by decide +kernel, by decide +kernel⟩
set_option maxRecDepth 100000 in
theorem my_148 : mj_okY lw_tbl mm_148 := ⟨(lw_in_2 (List.mem_of_getElem? (i := 52) rfl)), (lw_in_0 (List.mem_of_getElem? (i := 3) rfl)), by decide, plainFor_of_name (by decide +kernel), by decide +kernel, by decide +kernel⟩
set_option maxRecDepth 100000 in
theorem my_149 : mj_okY lw_tbl mm_149 := ⟨(lw_in_2 (List.mem_of_getElem? (i := 56) rfl)), (lw_in_0 (List.mem_of_getElem? (i := 2) rfl)), by decide, plainFor_of_name (by decide +kernel), by decide +kernel, by decide +kernel⟩
set_option maxRecDepth 100000 in
theorem my_150 : mj_okY lw_tbl mm_150 := ⟨(lw_in_2 (List.mem_of_getElem? (i := 60) rfl)), (lw_in_0 (List.mem_of_getElem? (i := 2) rfl)), by decide, plainFor_of_name (by decide +kernel), by decide +kernel, by decide +kernel⟩
set_option maxRecDepth 100000 in
theorem my_151 : mj_okY lw_tbl mm_151 := ⟨(lw_in_2 (List.mem_of_getElem? (i := 64) rfl)), (lw_in_0 (List.mem_of_getElem? (i := 2) rfl)), by decide, plainFor_of_name (by decide +kernel), by decide +kernel, by decide +kernel⟩
set_option maxRecDepth 100000 in
theorem my_152 : mj_okY lw_tbl mm_152 := ⟨(lw_in_2 (List.mem_of_getElem? (i := 68) rfl)), (lw_in_0 (List.mem_of_getElem? (i := 3) rfl)), by decide, plainFor_of_name (by decide +kernel), by decide +kernel, by decide +kernel⟩
set_option maxRecDepth 100000 in
theorem my_153 : mj_okY lw_tbl mm_153 := ⟨(lw_in_2 (List.mem_of_getElem? (i := 72) rfl)), (lw_in_0 (List.mem_of_getElem? (i := 3) rfl)), by decide, plainFor_of_name (by decide +kernel), by decide +kernel, by decide +kernel⟩
set_option maxRecDepth 100000 in
theorem my_154 : mj_okY lw_tbl mm_154 := ⟨(lw_in_2 (List.mem_of_getElem? (i := 77) rfl)), (lw_in_0 (List.mem_of_getElem? (i := 3) rfl)), by decide, plainFor_of_name (by decide +kernel), by decide +kernel, by decide +kernel⟩
set_option maxRecDepth 100000 in
theorem my_155 : mj_okY lw_tbl mm_155 := ⟨(lw_in_2 (List.mem_of_getElem? (i := 80) rfl)), (lw_in_0 (List.mem_of_getElem? (i := 2) rfl)), by decide, plainFor_of_name (by decide +kernel), by decide +kernel, by decide +kernel⟩
set_option maxRecDepth 100000 in
theorem my_156 : mj_okY lw_tbl mm_156 := ⟨(lw_in_2 (List.mem_of_getElem? (i := 84) rfl)), (lw_in_0 (List.mem_of_getElem? (i := 3) rfl)), by decide, plainFor_of_name (by decide +kernel), by decide +kernel, by decide +kernel⟩
set_option maxRecDepth 100000 in
theorem my_157 : mj_okY lw_tbl mm_157 := ⟨(lw_in_2 (List.mem_of_getElem? (i := 88) rfl)), (lw_in_0 (List.mem_of_getElem? (i := 3) rfl)), by decide, plainFor_of_name (by decide +kernel), by decide +kernel, by decide +kernel⟩
set_option maxRecDepth 100000 in
theorem my_158 : mj_okY lw_tbl mm_158 := ⟨(lw_in_2 (List.mem_of_getElem? (i := 92) rfl)), (lw_in_0 (List.mem_of_getElem? (i := 3) rfl)), by decide, plainFor_of_name (by decide +kernel), by decide +kernel, by decide +kernel⟩
set_option maxRecDepth 100000 in
theorem my_159 : mj_okY lw_tbl mm_159 := ⟨(lw_in_2 (List.mem_of_getElem? (i := 96) rfl)), (lw_in_0 (List.mem_of_getElem? (i := 3) rfl)), by decide, plainFor_of_name (by decide +kernel), by decide +kernel, by decide +kernel⟩
set_option maxRecDepth 100000 in
theorem my_160 : mj_okY lw_tbl mm_160 := ⟨(lw_in_2 (List.mem_of_getElem? (i := 100) rfl)), (lw_in_0 (List.mem_of_getElem? (i := 3) rfl)), by decide, plainFor_of_name (by decide +kernel), by decide +kernel, by decide +kernel⟩
set_option maxRecDepth 100000 in
theorem my_161 : mj_okY lw_tbl mm_161 := ⟨(lw_in_2 (List.mem_of_getElem? (i := 104) rfl)), (lw_in_0 (List.mem_of_getElem? (i := 3) rfl)), by decide, plainFor_of_name (by decide +kernel), by decide +kernel, by decide +kernel⟩
set_option maxRecDepth 100000 in
theorem my_162 : mj_okY lw_tbl mm_162 := ⟨(lw_in_2 (List.mem_of_getElem? (i := 108) rfl)), (lw_in_0 (List.mem_of_getElem? (i := 3) rfl)), by decide, plainFor_of_name (by decide +kernel), by decide +kernel, by decide +kernel⟩
set_option maxRecDepth 100000 in
theorem my_163 : mj_okY lw_tbl mm_163 := ⟨(lw_in_2 (List.mem_of_getElem? (i := 112) rfl)), (lw_in_0 (List.mem_of_getElem? (i := 2) rfl)), by decide, plainFor_of_name (by decide +kernel), by decide +kernel, by decide +kernel⟩
set_option maxRecDepth 100000 in
theorem my_164 : mj_okY lw_tbl mm_164 := ⟨(lw_in_2 (List.mem_of_getElem? (i := 119) rfl)), (lw_in_0 (List.mem_of_getElem? (i := 3) rfl)), by decide, plainFor_of_name (by decide +kernel), by decide +kernel, by decide +kernel⟩
set_option maxRecDepth 100000 in
theorem my_165 : mj_okY lw_tbl mm_165 := ⟨(lw_in_2 (List.mem_of_getElem? (i := 123) rfl)), (lw_in_0 (List.mem_of_getElem? (i := 3) rfl)), by decide, plainFor_of_name (by decide +kernel), by decide +kernel, by decide +kernel⟩
set_option maxRecDepth 100000 in
theorem my_166 : mj_okY lw_tbl mm_166 := ⟨(lw_in_2 (List.mem_of_getElem? (i := 127) rfl)), (lw_in_0 (List.mem_of_getElem? (i := 3) rfl)), by decide, plainFor_of_name (by decide +kernel), by decide +kernel, by decide +kernel⟩
set_option maxRecDepth 100000 in
theorem my_167 : mj_okY lw_tbl mm_167 := ⟨(lw_in_2 (List.mem_of_getElem? (i := 131) rfl)), (lw_in_0 (List.mem_of_getElem? (i := 3) rfl)), by decide, plainFor_of_name (by decide +kernel), by decide +kernel, by decide +kernel⟩
set_option maxRecDepth 100000 in
theorem my_168 : mj_okY lw_tbl mm_168 := ⟨(lw_in_2 (List.mem_of_getElem? (i := 135) rfl)), (lw_in_0 (List.mem_of_getElem? (i := 3) rfl)), by decide, plainFor_of_name (by decide +kernel), by decide +kernel, by decide +kernel⟩
set_option maxRecDepth 100000 in
theorem my_169 : mj_okY lw_tbl mm_169 := ⟨(lw_in_2 (List.mem_of_getElem? (i := 139) rfl)), (lw_in_0 (List.mem_of_getElem? (i := 2) rfl)), by decide, plainFor_of_name (by decide +kernel), by decide +kernel, by decide +kernel⟩
set_option maxRecDepth 100000 in
theorem my_170 : mj_okY lw_tbl mm_170 := ⟨(lw_in_2 (List.mem_of_getElem? (i := 143) rfl)), (lw_in_0 (List.mem_of_getElem? (i := 3) rfl)), by decide, plainFor_of_name (by decide +kernel), by decide +kernel, by decide +kernel⟩
set_option maxRecDepth 100000 in
theorem my_171 : mj_okY lw_tbl mm_171 := ⟨(lw_in_2 (List.mem_of_getElem? (i := 147) rfl)), (lw_in_0 (List.mem_of_getElem? (i := 3) rfl)), by decide, plainFor_of_name (by decide +kernel), by decide +kernel, by decide +kernel⟩
set_option maxRecDepth 100000 in
theorem my_172 : mj_okY lw_tbl mm_172 := ⟨(lw_in_2 (List.mem_of_getElem? (i := 151) rfl)), (lw_in_0 (List.mem_of_getElem? (i := 3) rfl)), by decide, plainFor_of_name (by decide +kernel), by decide +kernel, by decide +kernel⟩
set_option maxRecDepth 100000 in
theorem my_173 : mj_okY lw_tbl mm_173 := ⟨(lw_in_2 (List.mem_of_getElem? (i := 155) rfl)), (lw_in_0 (List.mem_of_getElem? (i := 8) rfl)), by decide, plainFor_of_name (by decide +kernel), by decide +kernel, by decide +kernel⟩
set_option maxRecDepth 100000 in
theorem my_174 : mj_okY lw_tbl mm_174 := ⟨(lw_in_2 (List.mem_of_getElem? (i := 159) rfl)), (lw_in_0 (List.mem_of_getElem? (i := 8) rfl)), by decide, plainFor_of_name (by decide +kernel), by decide +kernel, by decide +kernel⟩
set_option maxRecDepth 100000 in
theorem my_175 : mj_okY lw_tbl mm_175 := ⟨(lw_in_2 (List.mem_of_getElem? (i := 164) rfl)), (lw_in_0 (List.mem_of_getElem? (i := 2) rfl)), by decide, plainFor_of_name (by decide +kernel), by decide +kernel, by decide +kernel⟩
set_option maxRecDepth 100000 in
theorem my_176 : mj_okY lw_tbl mm_176 := ⟨(lw_in_2 (List.mem_of_getElem? (i := 168) rfl)), (lw_in_0 (List.mem_of_getElem? (i := 8) rfl)), by decide, plainFor_of_name (by decide +kernel), by decide +kernel, by decide +kernel⟩
set_option maxRecDepth 100000 in
theorem my_177 : mj_okY lw_tbl mm_177 := ⟨(lw_in_2 (List.mem_of_getElem? (i := 172) rfl)), (lw_in_0 (List.mem_of_getElem? (i := 8) rfl)), by decide, plainFor_of_name (by decide +kernel), by decide +kernel, by decide +kernel⟩
set_option maxRecDepth 100000 in
theorem my_178 : mj_okY lw_tbl mm_178 := ⟨(lw_in_2 (List.mem_of_getElem? (i := 175) rfl)), (lw_in_0 (List.mem_of_getElem? (i := 1) rfl)), by decide, plainFor_of_name (by decide +kernel), by decide +kernel, by decide +kernel⟩
set_option maxRecDepth 100000 in
theorem my_179 : mj_okY lw_tbl mm_179 := ⟨(lw_in_2 (List.mem_of_getElem? (i := 179) rfl)), (lw_in_0 (List.mem_of_getElem? (i := 8) rfl)), by decide, plainFor_of_name (by decide +kernel), by decide +kernel, by decide +kernel⟩
set_option maxRecDepth 100000 in
theorem my_180 : mj_okY lw_tbl mm_180 := ⟨(lw_in_2 (List.mem_of_getElem? (i := 182) rfl)), (lw_in_0 (List.mem_of_getElem? (i := 1) rfl)), by decide, plainFor_of_name (by decide +kernel), by decide +kernel, by decide +kernel⟩
set_option maxRecDepth 100000 in
theorem my_181 : mj_okY lw_tbl mm_181 := ⟨(lw_in_2 (List.mem_of_getElem? (i := 186) rfl)), (lw_in_0 (List.mem_of_getElem? (i := 12) rfl)), by decide, plainFor_of_name (by decide +kernel), by decide +kernel, by decide +kernel⟩
set_option maxRecDepth 100000 in
theorem my_182 : mj_okY lw_tbl mm_182 := ⟨(lw_in_2 (List.mem_of_getElem? (i := 190) rfl)), (lw_in_0 (List.mem_of_getElem? (i := 12) rfl)), by decide, plainFor_of_name (by decide +kernel), by decide +kernel, by decide +kernel⟩
set_option maxRecDepth 100000 in
theorem my_183 : mj_okY lw_tbl mm_183 := ⟨(lw_in_2 (List.mem_of_getElem? (i := 194) rfl)), (lw_in_0 (List.mem_of_getElem? (i := 13) rfl)), by decide, plainFor_of_name (by decide +kernel), by decide +kernel, by decide +kernel⟩
set_option maxRecDepth 100000 in
theorem my_184 : mj_okY lw_tbl mm_184 := ⟨(lw_in_2 (List.mem_of_getElem? (i := 198) rfl)), (lw_in_0 (List.mem_of_getElem? (i := 15) rfl)), by decide, plainFor_of_name (by decide +kernel), by decide +kernel, by decide +kernel⟩
set_option maxRecDepth 100000 in
theorem my_185 : mj_okY lw_tbl mm_185 := ⟨(lw_in_2 (List.mem_of_getElem? (i := 202) rfl)), (lw_in_0 (List.mem_of_getElem? (i := 16) rfl)), by decide, plainFor_of_name (by decide +kernel), by decide +kernel, by decide +kernel⟩
set_option maxRecDepth 100000 in
theorem my_186 : mj_okY lw_tbl mm_186 := ⟨(lw_in_2 (List.mem_of_getElem? (i := 206) rfl)), (lw_in_0 (List.mem_of_getElem? (i := 14) rfl)), by decide, plainFor_of_name (by decide +kernel), by decide +kernel, by decide +kernel⟩
set_option maxRecDepth 100000 in
theorem my_187 : mj_okY lw_tbl mm_187 := ⟨(lw_in_2 (List.mem_of_getElem? (i := 210) rfl)), (lw_in_0 (List.mem_of_getElem? (i := 14) rfl)), by decide, plainFor_of_name (by decide +kernel), by decide +kernel, by decide +kernel⟩
set_option maxRecDepth 100000 in
theorem my_188 : mj_okY lw_tbl mm_188 := ⟨(lw_in_2 (List.mem_of_getElem? (i := 214) rfl)), (lw_in_0 (List.mem_of_getElem? (i := 14) rfl)), by decide, plainFor_of_name (by decide +kernel), by decide +kernel, by decide +kernel⟩
set_option maxRecDepth 100000 in
theorem my_189 : mj_okY lw_tbl mm_189 := ⟨(lw_in_2 (List.mem_of_getElem? (i := 218) rfl)), (lw_in_0 (List.mem_of_getElem? (i := 1) rfl)), by decide, plainFor_of_name (by decide +kernel), by decide +kernel, by decide +kernel⟩
set_option maxRecDepth 100000 in
theorem my_190 : mj_okY lw_tbl mm_190 := ⟨(lw_in_2 (List.mem_of_getElem? (i := 222) rfl)), (lw_in_0 (List.mem_of_getElem? (i := 1) rfl)), by decide, plainFor_of_name (by decide +kernel), by decide +kernel, by decide +kernel⟩
set_option maxRecDepth 100000 in
theorem my_191 : mj_okY lw_tbl mm_191 := ⟨(lw_in_2 (List.mem_of_getElem? (i := 226) rfl)), (lw_in_0 (List.mem_of_getElem? (i := 1) rfl)), by decide, plainFor_of_name (by decide +kernel), by decide +kernel, by decide +kernel⟩
set_option maxRecDepth 100000 in
theorem my_192 : mj_okY lw_tbl mm_192 := ⟨(lw_in_2 (List.mem_of_getElem? (i := 230) rfl)), (lw_in_0 (List.mem_of_getElem? (i := 2) rfl)), by decide, plainFor_of_name (by decide +kernel), by decide +kernel, by decide +kernel⟩
set_option maxRecDepth 100000 in
theorem my_193 : mj_okY lw_tbl mm_193 := ⟨(lw_in_2 (List.mem_of_getElem? (i := 233) rfl)), (lw_in_0 (List.mem_of_getElem? (i := 1) rfl)), by decide, plainFor_of_name (by decide +kernel), by decide +kernel, by decide +kernel⟩
set_option maxRecDepth 100000 in
theorem my_194 : mj_okY lw_tbl mm_194 := ⟨(lw_in_2 (List.mem_of_getElem? (i := 237) rfl)), (lw_in_0 (List.mem_of_getElem? (i := 1) rfl)), by decide, plainFor_of_name (by decide +kernel), by decide +kernel, by decide +kernel⟩
set_option maxRecDepth 100000 in
theorem my_195 : mj_okY lw_tbl mm_195 := ⟨(lw_in_3 (List.mem_of_getElem? (i := 2) rfl)), (lw_in_0 (List.mem_of_getElem? (i := 1) rfl)), by decide, plainFor_of_name (by decide +kernel), by decide +kernel, by decide +kernel⟩
set_option maxRecDepth 100000 in
theorem my_196 : mj_okY lw_tbl mm_196 := ⟨(lw_in_3 (List.mem_of_getElem? (i := 6) rfl)), (lw_in_0 (List.mem_of_getElem? (i := 8) rfl)), by decide, plainFor_of_name (by decide +kernel), by decide +kernel, by decide +kernel⟩
set_option maxRecDepth 100000 in
theorem my_197 : mj_okY lw_tbl mm_197 := ⟨(lw_in_3 (List.mem_of_getElem? (i := 10) rfl)), (lw_in_0 (List.mem_of_getElem? (i := 1) rfl)), by decide, plainFor_of_name (by decide +kernel), by decide +kernel, by decide +kernel⟩
set_option maxRecDepth 100000 in
theorem my_198 : mj_okY lw_tbl mm_198 := ⟨(lw_in_3 (List.mem_of_getElem? (i := 15) rfl)), (lw_in_0 (List.mem_of_getElem? (i := 1) rfl)), by decide, plainFor_of_name (by decide +kernel), by decide +kernel, by decide +kernel⟩
set_option maxRecDepth 100000 in
theorem my_199 : mj_okY lw_tbl mm_199 := ⟨(lw_in_3 (List.mem_of_getElem? (i := 26) rfl)), (lw_in_0 (List.mem_of_getElem? (i := 1) rfl)), by decide, plainFor_of_name (by decide +kernel), by decide +kernel, by decide +kernel⟩
set_option maxRecDepth 100000 in
theorem my_200 : mj_okY lw_tbl mm_200 := ⟨(lw_in_3 (List.mem_of_getElem? (i := 30) rfl)), (lw_in_0 (List.mem_of_getElem? (i := 1) rfl)), by decide, plainFor_of_name (by decide +kernel), by decide +kernel, by decide +kernel⟩
set_option maxRecDepth 100000 in
theorem my_201 : mj_okY lw_tbl mm_201 := ⟨(lw_in_3 (List.mem_of_getElem? (i := 34) rfl)), (lw_in_0 (List.mem_of_getElem? (i := 1) rfl)), by decide, plainFor_of_name (by decide +kernel), by decide +kernel, by decide +kernel⟩
set_option maxRecDepth 100000 in
theorem my_202 : mj_okY lw_tbl mm_202 := ⟨(lw_in_3 (List.mem_of_getElem? (i := 39) rfl)), (lw_in_0 (List.mem_of_getElem? (i := 1) rfl)), by decide, plainFor_of_name (by decide +kernel), by decide +kernel, by decide +kernel⟩
set_option maxRecDepth 100000 in
theorem my_203 : mj_okY lw_tbl mm_203 := ⟨(lw_in_3 (List.mem_of_getElem? (i := 45) rfl)), (lw_in_0 (List.mem_of_getElem? (i := 1) rfl)), by decide, plainFor_of_name (by decide +kernel), by decide +kernel, by decide +kernel⟩
set_option maxRecDepth 100000 in
theorem my_204 : mj_okY lw_tbl mm_204 := ⟨(lw_in_3 (List.mem_of_getElem? (i := 49) rfl)), (lw_in_0 (List.mem_of_getElem? (i := 8) rfl)), by decide, plainFor_of_name (by decide +kernel), by decide +kernel, by decide +kernel⟩
set_option maxRecDepth 100000 in
theorem my_205 : mj_okY lw_tbl mm_205 := ⟨(lw_in_3 (List.mem_of_getElem? (i := 54) rfl)), (lw_in_0 (List.mem_of_getElem? (i := 12) rfl)), by decide, plainFor_of_name (by decide +kernel), by decide +kernel, by decide +kernel⟩
set_option maxRecDepth 100000 in
theorem my_206 : mj_okY lw_tbl mm_206 := ⟨(lw_in_3 (List.mem_of_getElem? (i := 61) rfl)), (lw_in_0 (List.mem_of_getElem? (i := 1) rfl)), by decide, plainFor_of_name (by decide +kernel), by decide +kernel, by decide +kernel⟩
set_option maxRecDepth 100000 in
theorem my_207 : mj_okY lw_tbl mm_207 := ⟨(lw_in_3 (List.mem_of_getElem? (i := 65) rfl)), (lw_in_0 (List.mem_of_getElem? (i := 10) rfl)), by decide, plainFor_of_name (by decide +kernel), by decide +kernel, by decide +kernel⟩
set_option maxRecDepth 100000 in
theorem my_208 : mj_okY lw_tbl mm_208 := ⟨(lw_in_3 (List.mem_of_getElem? (i := 69) rfl)), (lw_in_0 (List.mem_of_getElem? (i := 9) rfl)), by decide, plainFor_of_name (by decide +kernel), by decide +kernel, by decide +kernel⟩
set_option maxRecDepth 100000 in
theorem my_209 : mj_okY lw_tbl mm_209 := ⟨(lw_in_3 (List.mem_of_getElem? (i := 73) rfl)), (lw_in_0 (List.mem_of_getElem? (i := 10) rfl)), by decide, plainFor_of_name (by decide +kernel), by decide +kernel, by decide +kernel⟩
set_option maxRecDepth 100000 in
theorem my_210 : mj_okY lw_tbl mm_210 := ⟨(lw_in_3 (List.mem_of_getElem? (i := 77) rfl)), (lw_in_0 (List.mem_of_getElem? (i := 10) rfl)), by decide, plainFor_of_name (by decide +kernel), by decide +kernel, by decide +kernel⟩
set_option maxRecDepth 100000 in
theorem my_211 : mj_okY lw_tbl mm_211 := ⟨(lw_in_3 (List.mem_of_getElem? (i := 82) rfl)), (lw_in_0 (List.mem_of_getElem? (i := 9) rfl)), by decide, plainFor_of_name (by decide +kernel), by decide +kernel, by decide +kernel⟩
set_option maxRecDepth 100000 in
theorem my_212 : mj_okY lw_tbl mm_212 := ⟨(lw_in_3 (List.mem_of_getElem? (i := 87) rfl)), (lw_in_0 (List.mem_of_getElem? (i := 10) rfl)), by decide, plainFor_of_name (by decide +kernel), by decide +kernel, by decide +kernel⟩
set_option maxRecDepth 100000 in
theorem my_213 : mj_okY lw_tbl mm_213 := ⟨(lw_in_3 (List.mem_of_getElem? (i := 92) rfl)), (lw_in_0 (List.mem_of_getElem? (i := 9) rfl)), by decide, plainFor_of_name (by decide +kernel), by decide +kernel, by decide +kernel⟩
set_option maxRecDepth 100000 in
theorem my_214 : mj_okY lw_tbl mm_214 := ⟨(lw_in_3 (List.mem_of_getElem? (i := 96) rfl)), (lw_in_0 (List.mem_of_getElem? (i := 9) rfl)), by decide, plainFor_of_name (by decide +kernel), by decide +kernel, by decide +kernel⟩
set_option maxRecDepth 100000 in
theorem my_215 : mj_okY lw_tbl mm_215 := ⟨(lw_in_3 (List.mem_of_getElem? (i := 100) rfl)), (lw_in_0 (List.mem_of_getElem? (i := 9) rfl)), by decide, plainFor_of_name (by decide +kernel), by decide +kernel, by decide +kernel⟩
set_option maxRecDepth 100000 in
theorem my_216 : mj_okY lw_tbl mm_216 := ⟨(lw_in_3 (List.mem_of_getElem? (i := 104) rfl)), (lw_in_0 (List.mem_of_getElem? (i := 9) rfl)), by decide, plainFor_of_name (by decide +kernel), by decide +kernel, by decide +kernel⟩
set_option maxRecDepth 100000 in
theorem my_217 : mj_okY lw_tbl mm_217 := ⟨(lw_in_3 (List.mem_of_getElem? (i := 108) rfl)), (lw_in_0 (List.mem_of_getElem? (i := 9) rfl)), by decide, plainFor_of_name (by decide +kernel), by decide +kernel, by decide +kernel⟩
set_option maxRecDepth 100000 in
theorem my_218 : mj_okY lw_tbl mm_218 := ⟨(lw_in_3 (List.mem_of_getElem? (i := 113) rfl)), (lw_in_0 (List.mem_of_getElem? (i := 12) rfl)), by decide, plainFor_of_name (by decide +kernel), by decide +kernel, by decide +kernel⟩
set_option maxRecDepth 100000 in
theorem my_219 : mj_okY lw_tbl mm_219 := ⟨(lw_in_3 (List.mem_of_getElem? (i := 119) rfl)), (lw_in_0 (List.mem_of_getElem? (i := 12) rfl)), by decide, plainFor_of_name (by decide +kernel), by decide +kernel, by decide +kernel⟩
set_option maxRecDepth 100000 in
theorem my_220 : mj_okY lw_tbl mm_220 := ⟨(lw_in_3 (List.mem_of_getElem? (i := 124) rfl)), (lw_in_0 (List.mem_of_getElem? (i := 1) rfl)), by decide, plainFor_of_name (by decide +kernel), by decide +kernel, by decide +kernel⟩
set_option maxRecDepth 100000 in
theorem my_221 : mj_okY lw_tbl mm_221 := ⟨(lw_in_3 (List.mem_of_getElem? (i := 128) rfl)), (lw_in_0 (List.mem_of_getElem? (i := 10) rfl)), by decide, plainFor_of_name (by decide +kernel), by decide +kernel, by decide +kernel⟩
set_option maxRecDepth 100000 in
theorem my_222 : mj_okY lw_tbl mm_222 := ⟨(lw_in_3 (List.mem_of_getElem? (i := 132) rfl)), (lw_in_0 (List.mem_of_getElem? (i := 10) rfl)), by decide, plainFor_of_name (by decide +kernel), by decide +kernel, by decide +kernel⟩
set_option maxRecDepth 100000 in
theorem my_223 : mj_okY lw_tbl mm_223 := ⟨(lw_in_3 (List.mem_of_getElem? (i := 136) rfl)), (lw_in_0 (List.mem_of_getElem? (i := 11) rfl)), by decide, plainFor_of_name (by decide +kernel), by decide +kernel, by decide +kernel⟩
set_option maxRecDepth 100000 in
theorem my_224 : mj_okY lw_tbl mm_224 := ⟨(lw_in_3 (List.mem_of_getElem? (i := 140) rfl)), (lw_in_0 (List.mem_of_getElem? (i := 11) rfl)), by decide, plainFor_of_name (by decide +kernel), by decide +kernel, by decide +kernel⟩
set_option maxRecDepth 100000 in
theorem my_225 : mj_okY lw_tbl mm_225 := ⟨(lw_in_3 (List.mem_of_getElem? (i := 144) rfl)), (lw_in_0 (List.mem_of_getElem? (i := 11) rfl)), by decide, plainFor_of_name (by decide +kernel), by decide +kernel, by decide +kernel⟩
set_option maxRecDepth 100000 in
theorem my_226 : mj_okY lw_tbl mm_226 := ⟨(lw_in_3 (List.mem_of_getElem? (i := 154) rfl)), (lw_in_0 (List.mem_of_getElem? (i := 11) rfl)), by decide, plainFor_of_name (by decide +kernel), by decide +kernel, by decide +kernel⟩
set_option maxRecDepth 100000 in
theorem my_227 : mj_okY lw_tbl mm_227 := ⟨(lw_in_3 (List.mem_of_getElem? (i := 157) rfl)), (lw_in_0 (List.mem_of_getElem? (i := 11) rfl)), by decide, plainFor_of_name (by decide +kernel), by decide +kernel, by decide +kernel⟩
set_option maxRecDepth 100000 in
theorem my_228 : mj_okY lw_tbl mm_228 := ⟨(lw_in_3 (List.mem_of_getElem? (i := 160) rfl)), (lw_in_0 (List.mem_of_getElem? (i := 11) rfl)), by decide, plainFor_of_name (by decide +kernel), by decide +kernel, by decide +kernel⟩
set_option maxRecDepth 100000 in
theorem my_229 : mj_okY lw_tbl mm_229 := ⟨(lw_in_3 (List.mem_of_getElem? (i := 176) rfl)), (lw_in_0 (List.mem_of_getElem? (i := 11) rfl)), by decide, plainFor_of_name (by decide +kernel), by decide +kernel, by decide +kernel⟩
set_option maxRecDepth 100000 in
theorem my_230 : mj_okY lw_tbl mm_230 := ⟨(lw_in_3 (List.mem_of_getElem? (i := 180) rfl)), (lw_in_0 (List.mem_of_getElem? (i := 1) rfl)), by decide, plainFor_of_name (by decide +kernel), by decide +kernel, by decide +kernel⟩
set_option maxRecDepth 100000 in
theorem my_231 : mj_okY lw_tbl mm_231 := ⟨(lw_in_3 (List.mem_of_getElem? (i := 184) rfl)), (lw_in_0 (List.mem_of_getElem? (i := 12) rfl)), by decide, plainFor_of_name (by decide +kernel), by decide +kernel, by decide +kernel⟩
set_option maxRecDepth 100000 in
theorem my_232 : mj_okY lw_tbl mm_232 := ⟨(lw_in_3 (List.mem_of_getElem? (i := 189) rfl)), (lw_in_0 (List.mem_of_getElem? (i := 1) rfl)), by decide, plainFor_of_name (by decide +kernel), by decide +kernel, by decide +kernel⟩
set_option maxRecDepth 100000 in
theorem my_233 : mj_okY lw_tbl mm_233 := ⟨(lw_in_3 (List.mem_of_getElem? (i := 192) rfl)), (lw_in_0 (List.mem_of_getElem? (i := 12) rfl)), by decide, plainFor_of_name (by decide +kernel), by decide +kernel, by decide +kernel⟩
set_option maxRecDepth 100000 in
theorem my_234 : mj_okY lw_tbl mm_234 := ⟨(lw_in_3 (List.mem_of_getElem? (i := 197) rfl)), (lw_in_0 (List.mem_of_getElem? (i := 1) rfl)), by decide, plainFor_of_name (by decide +kernel), by decide +kernel, by decide +kernel⟩
set_option maxRecDepth 100000 in
theorem my_235 : mj_okY lw_tbl mm_235 := ⟨(lw_in_3 (List.mem_of_getElem? (i := 200) rfl)), (lw_in_0 (List.mem_of_getElem? (i := 12) rfl)), by decide, plainFor_of_name (by decide +kernel), by decide +kernel, by decide +kernel⟩
set_option maxRecDepth 100000 in
theorem my_236 : mj_okY lw_tbl mm_236 := ⟨(lw_in_3 (List.mem_of_getElem? (i := 204) rfl)), (lw_in_0 (List.mem_of_getElem? (i := 1) rfl)), by decide, plainFor_of_name (by decide +kernel), by decide +kernel, by decide +kernel⟩
set_option maxRecDepth 100000 in
theorem my_237 : mj_okY lw_tbl mm_237 := ⟨(lw_in_3 (List.mem_of_getElem? (i := 208) rfl)), (lw_in_0 (List.mem_of_getElem? (i := 1) rfl)), by decide, plainFor_of_name (by decide +kernel), by decide +kernel, by decide +kernel⟩
set_option maxRecDepth 100000 in
theorem my_238 : mj_okY lw_tbl mm_238 := ⟨(lw_in_3 (List.mem_of_getElem? (i := 212) rfl)), (lw_in_0 (List.mem_of_getElem? (i := 14) rfl)), by decide, plainFor_of_name (by decide +kernel), by decide +kernel, by decide +kernel⟩
set_option maxRecDepth 100000 in
theorem my_239 : mj_okY lw_tbl mm_239 := ⟨(lw_in_3 (List.mem_of_getElem? (i := 216) rfl)), (lw_in_0 (List.mem_of_getElem? (i := 14) rfl)), by decide, plainFor_of_name (by decide +kernel), by decide +kernel, by decide +kernel⟩
set_option maxRecDepth 100000 in
theorem my_240 : mj_okY lw_tbl mm_240 := ⟨(lw_in_3 (List.mem_of_getElem? (i := 220) rfl)), (lw_in_0 (List.mem_of_getElem? (i := 1) rfl)), by decide, plainFor_of_name (by decide +kernel), by decide +kernel, by decide +kernel⟩
set_option maxRecDepth 100000 in
theorem my_241 : mj_okY lw_tbl mm_241 := ⟨(lw_in_3 (List.mem_of_getElem? (i := 224) rfl)), (lw_in_0 (List.mem_of_getElem? (i := 1) rfl)), by decide, plainFor_of_name (by decide +kernel), by decide +kernel, by decide +kernel⟩
set_option maxRecDepth 100000 in
theorem my_242 : mj_okY lw_tbl mm_242 := ⟨(lw_in_3 (List.mem_of_getElem? (i := 228) rfl)), (lw_in_0 (List.mem_of_getElem? (i := 12) rfl)), by decide, plainFor_of_name (by decide +kernel), by decide +kernel, by decide +kernel⟩
set_option maxRecDepth 100000 in
theorem my_243 : mj_okY lw_tbl mm_243 := ⟨(lw_in_3 (List.mem_of_getElem? (i := 232) rfl)), (lw_in_0 (List.mem_of_getElem? (i := 13) rfl)), by decide, plainFor_of_name (by decide +kernel), by decide +kernel, by decide +kernel⟩
set_option maxRecDepth 100000 in
theorem my_244 : mj_okY lw_tbl mm_244 := ⟨(lw_in_3 (List.mem_of_getElem? (i := 236) rfl)), (lw_in_0 (List.mem_of_getElem? (i := 13) rfl)), by decide, plainFor_of_name (by decide +kernel), by decide +kernel, by decide +kernel⟩
set_option maxRecDepth 100000 in
theorem my_245 : mj_okY lw_tbl mm_245 := ⟨(lw_in_4 (List.mem_of_getElem? (i := 1) rfl)), (lw_in_0 (List.mem_of_getElem? (i := 12) rfl)), by decide, plainFor_of_name (by decide +kernel), by decide +kernel, by decide +kernel⟩
set_option maxRecDepth 100000 in
theorem my_246 : mj_okY lw_tbl mm_246 := ⟨(lw_in_4 (List.mem_of_getElem? (i := 6) rfl)), (lw_in_0 (List.mem_of_getElem? (i := 13) rfl)), by decide, plainFor_of_name (by decide +kernel), by decide +kernel, by decide +kernel⟩
set_option maxRecDepth 100000 in
theorem my_247 : mj_okY lw_tbl mm_247 := ⟨(lw_in_4 (List.mem_of_getElem? (i := 10) rfl)), (lw_in_0 (List.mem_of_getElem? (i := 13) rfl)), by decide, plainFor_of_name (by decide +kernel), by decide +kernel, by decide +kernel⟩
set_option maxRecDepth 100000 in
theorem my_248 : mj_okY lw_tbl mm_248 := ⟨(lw_in_4 (List.mem_of_getElem? (i := 16) rfl)), (lw_in_0 (List.mem_of_getElem? (i := 13) rfl)), by decide, plainFor_of_name (by decide +kernel), by decide +kernel, by decide +kernel⟩
set_option maxRecDepth 100000 in
theorem my_249 : mj_okY lw_tbl mm_249 := ⟨(lw_in_4 (List.mem_of_getElem? (i := 20) rfl)), (lw_in_0 (List.mem_of_getElem? (i := 1) rfl)), by decide, plainFor_of_name (by decide +kernel), by decide +kernel, by decide +kernel⟩
set_option maxRecDepth 100000 in
theorem my_250 : mj_okY lw_tbl mm_250 := ⟨(lw_in_4 (List.mem_of_getElem? (i := 24) rfl)), (lw_in_0 (List.mem_of_getElem? (i := 13) rfl)), by decide, plainFor_of_name (by decide +kernel), by decide +kernel, by decide +kernel⟩
set_option maxRecDepth 100000 in
theorem my_251 : mj_okY lw_tbl mm_251 := ⟨(lw_in_4 (List.mem_of_getElem? (i := 28) rfl)), (lw_in_0 (List.mem_of_getElem? (i := 1) rfl)), by decide, plainFor_of_name (by decide +kernel), by decide +kernel, by decide +kernel⟩
set_option maxRecDepth 100000 in
theorem my_252 : mj_okY lw_tbl mm_252 := ⟨(lw_in_4 (List.mem_of_getElem? (i := 32) rfl)), (lw_in_0 (List.mem_of_getElem? (i := 1) rfl)), by decide, plainFor_of_name (by decide +kernel), by decide +kernel, by decide +kernel⟩
set_option maxRecDepth 100000 in
theorem my_253 : mj_okY lw_tbl mm_253 := ⟨(lw_in_4 (List.mem_of_getElem? (i := 36) rfl)), (lw_in_0 (List.mem_of_getElem? (i := 1) rfl)), by decide, plainFor_of_name (by decide +kernel), by decide +kernel, by decide +kernel⟩
set_option maxRecDepth 100000 in
theorem my_254 : mj_okY lw_tbl mm_254 := ⟨(lw_in_4 (List.mem_of_getElem? (i := 41) rfl)), (lw_in_0 (List.mem_of_getElem? (i := 1) rfl)), by decide, plainFor_of_name (by decide +kernel), by decide +kernel, by decide +kernel⟩
set_option maxRecDepth 100000 in
theorem my_255 : mj_okY lw_tbl mm_255 := ⟨(lw_in_4 (List.mem_of_getElem? (i := 45) rfl)), (lw_in_0 (List.mem_of_getElem? (i := 12) rfl)), by decide, plainFor_of_name (by decide +kernel), by decide +kernel, by decide +kernel⟩
set_option maxRecDepth 100000 in
theorem my_256 : mj_okY lw_tbl mm_256 := ⟨(lw_in_4 (List.mem_of_getElem? (i := 51) rfl)), (lw_in_0 (List.mem_of_getElem? (i := 1) rfl)), by decide, plainFor_of_name (by decide +kernel), by decide +kernel, by decide +kernel⟩
set_option maxRecDepth 100000 in
theorem my_257 : mj_okY lw_tbl mm_257 := ⟨(lw_in_4 (List.mem_of_getElem? (i := 55) rfl)), (lw_in_0 (List.mem_of_getElem? (i := 15) rfl)), by decide, plainFor_of_name (by decide +kernel), by decide +kernel, by decide +kernel⟩
set_option maxRecDepth 100000 in
theorem my_258 : mj_okY lw_tbl mm_258 := ⟨(lw_in_4 (List.mem_of_getElem? (i := 59) rfl)), (lw_in_0 (List.mem_of_getElem? (i := 1) rfl)), by decide, plainFor_of_name (by decide +kernel), by decide +kernel, by decide +kernel⟩
set_option maxRecDepth 100000 in
theorem my_259 : mj_okY lw_tbl mm_259 := ⟨(lw_in_4 (List.mem_of_getElem? (i := 63) rfl)), (lw_in_0 (List.mem_of_getElem? (i := 1) rfl)), by decide, plainFor_of_name (by decide +kernel), by decide +kernel, by decide +kernel⟩
set_option maxRecDepth 100000 in
theorem my_260 : mj_okY lw_tbl mm_260 := ⟨(lw_in_4 (List.mem_of_getElem? (i := 67) rfl)), (lw_in_0 (List.mem_of_getElem? (i := 15) rfl)), by decide, plainFor_of_name (by decide +kernel), by decide +kernel, by decide +kernel⟩
set_option maxRecDepth 100000 in
theorem my_261 : mj_okY lw_tbl mm_261 := ⟨(lw_in_4 (List.mem_of_getElem? (i := 71) rfl)), (lw_in_0 (List.mem_of_getElem? (i := 15) rfl)), by decide, plainFor_of_name (by decide +kernel), by decide +kernel, by decide +kernel⟩
set_option maxRecDepth 100000 in
theorem my_262 : mj_okY lw_tbl mm_262 := ⟨(lw_in_4 (List.mem_of_getElem? (i := 77) rfl)), (lw_in_0 (List.mem_of_getElem? (i := 1) rfl)), by decide, plainFor_of_name (by decide +kernel), by decide +kernel, by decide +kernel⟩
set_option maxRecDepth 100000 in
theorem my_263 : mj_okY lw_tbl mm_263 := ⟨(lw_in_4 (List.mem_of_getElem? (i := 81) rfl)), (lw_in_0 (List.mem_of_getElem? (i := 8) rfl)), by decide, plainFor_of_name (by decide +kernel), by decide +kernel, by decide +kernel⟩
set_option maxRecDepth 100000 in
theorem my_264 : mj_okY lw_tbl mm_264 := ⟨(lw_in_4 (List.mem_of_getElem? (i := 88) rfl)), (lw_in_0 (List.mem_of_getElem? (i := 1) rfl)), by decide, plainFor_of_name (by decide +kernel), by decide +kernel, by decide +kernel⟩
set_option maxRecDepth 100000 in
theorem my_265 : mj_okY lw_tbl mm_265 := ⟨(lw_in_4 (List.mem_of_getElem? (i := 92) rfl)), (lw_in_0 (List.mem_of_getElem? (i := 15) rfl)), by decide, plainFor_of_name (by decide +kernel), by decide +kernel, by decide +kernel⟩
set_option maxRecDepth 100000 in
theorem my_266 : mj_okY lw_tbl mm_266 := ⟨(lw_in_4 (List.mem_of_getElem? (i := 98) rfl)), (lw_in_0 (List.mem_of_getElem? (i := 15) rfl)), by decide, plainFor_of_name (by decide +kernel), by decide +kernel, by decide +kernel⟩
set_option maxRecDepth 100000 in
theorem my_267 : mj_okY lw_tbl mm_267 := ⟨(lw_in_4 (List.mem_of_getElem? (i := 103) rfl)), (lw_in_0 (List.mem_of_getElem? (i := 15) rfl)), by decide, plainFor_of_name (by decide +kernel), by decide +kernel, by decide +kernel⟩
set_option maxRecDepth 100000 in
theorem my_268 : mj_okY lw_tbl mm_268 := ⟨(lw_in_4 (List.mem_of_getElem? (i := 109) rfl)), (lw_in_0 (List.mem_of_getElem? (i := 1) rfl)), by decide, plainFor_of_name (by decide +kernel), by decide +kernel, by decide +kernel⟩
set_option maxRecDepth 100000 in
theorem my_269 : mj_okY lw_tbl mm_269 := ⟨(lw_in_4 (List.mem_of_getElem? (i := 113) rfl)), (lw_in_0 (List.mem_of_getElem? (i := 15) rfl)), by decide, plainFor_of_name (by decide +kernel), by decide +kernel, by decide +kernel⟩
set_option maxRecDepth 100000 in
theorem my_270 : mj_okY lw_tbl mm_270 := ⟨(lw_in_4 (List.mem_of_getElem? (i := 117) rfl)), (lw_in_0 (List.mem_of_getElem? (i := 15) rfl)), by decide, plainFor_of_name (by decide +kernel), by decide +kernel, by decide +kernel⟩
set_option maxRecDepth 100000 in
theorem my_271 : mj_okY lw_tbl mm_271 := ⟨(lw_in_4 (List.mem_of_getElem? (i := 121) rfl)), (lw_in_0 (List.mem_of_getElem? (i := 15) rfl)), by decide, plainFor_of_name (by decide +kernel), by decide +kernel, by decide +kernel⟩
set_option maxRecDepth 100000 in
theorem my_272 : mj_okY lw_tbl mm_272 := ⟨(lw_in_4 (List.mem_of_getElem? (i := 124) rfl)), (lw_in_0 (List.mem_of_getElem? (i := 15) rfl)), by decide, plainFor_of_name (by decide +kernel), by decide +kernel, by decide +kernel⟩
set_option maxRecDepth 100000 in
theorem my_273 : mj_okY lw_tbl mm_273 := ⟨(lw_in_4 (List.mem_of_getElem? (i := 129) rfl)), (lw_in_0 (List.mem_of_getElem? (i := 1) rfl)), by decide, plainFor_of_name (by decide +kernel), by decide +kernel, by decide +kernel⟩
set_option maxRecDepth 100000 in
theorem my_274 : mj_okY lw_tbl mm_274 := ⟨(lw_in_4 (List.mem_of_getElem? (i := 140) rfl)), (lw_in_0 (List.mem_of_getElem? (i := 1) rfl)), by decide, plainFor_of_name (by decide +kernel), by decide +kernel, by decide +kernel⟩
set_option maxRecDepth 100000 in
theorem my_275 : mj_okY lw_tbl mm_275 := ⟨(lw_in_4 (List.mem_of_getElem? (i := 143) rfl)), (lw_in_0 (List.mem_of_getElem? (i := 16) rfl)), by decide, plainFor_of_name (by decide +kernel), by decide +kernel, by decide +kernel⟩
set_option maxRecDepth 100000 in
theorem my_276 : mj_okY lw_tbl mm_276 := ⟨(lw_in_4 (List.mem_of_getElem? (i := 146) rfl)), (lw_in_0 (List.mem_of_getElem? (i := 1) rfl)), by decide, plainFor_of_name (by decide +kernel), by decide +kernel, by decide +kernel⟩
set_option maxRecDepth 100000 in
theorem my_277 : mj_okY lw_tbl mm_277 := ⟨(lw_in_4 (List.mem_of_getElem? (i := 150) rfl)), (lw_in_0 (List.mem_of_getElem? (i := 1) rfl)), by decide, plainFor_of_name (by decide +kernel), by decide +kernel, by decide +kernel⟩
set_option maxRecDepth 100000 in
theorem my_278 : mj_okY lw_tbl mm_278 := ⟨(lw_in_4 (List.mem_of_getElem? (i := 154) rfl)), (lw_in_0 (List.mem_of_getElem? (i := 1) rfl)), by decide, plainFor_of_name (by decide +kernel), by decide +kernel, by decide +kernel⟩
set_option maxRecDepth 100000 in
theorem my_279 : mj_okY lw_tbl mm_279 := ⟨(lw_in_4 (List.mem_of_getElem? (i := 158) rfl)), (lw_in_0 (List.mem_of_getElem? (i := 16) rfl)), by decide, plainFor_of_name (by decide +kernel), by decide +kernel, by decide +kernel⟩
set_option maxRecDepth 100000 in
theorem my_280 : mj_okY lw_tbl mm_280 := ⟨(lw_in_4 (List.mem_of_getElem? (i := 163) rfl)), (lw_in_0 (List.mem_of_getElem? (i := 16) rfl)), by decide, plainFor_of_name (by decide +kernel), by decide +kernel, by decide +kernel⟩
set_option maxRecDepth 100000 in
theorem my_281 : mj_okY lw_tbl mm_281 := ⟨(lw_in_4 (List.mem_of_getElem? (i := 167) rfl)), (lw_in_0 (List.mem_of_getElem? (i := 16) rfl)), by decide, plainFor_of_name (by decide +kernel), by decide +kernel, by decide +kernel⟩
set_option maxRecDepth 100000 in
theorem my_282 : mj_okY lw_tbl mm_282 := ⟨(lw_in_4 (List.mem_of_getElem? (i := 171) rfl)), (lw_in_0 (List.mem_of_getElem? (i := 16) rfl)), by decide, plainFor_of_name (by decide +kernel), by decide +kernel, by decide +kernel⟩
set_option maxRecDepth 100000 in
theorem my_283 : mj_okY lw_tbl mm_283 := ⟨(lw_in_4 (List.mem_of_getElem? (i := 176) rfl)), (lw_in_0 (List.mem_of_getElem? (i := 16) rfl)), by decide, plainFor_of_name (by decide +kernel), by decide +kernel, by decide +kernel⟩
set_option maxRecDepth 100000 in
theorem my_284 : mj_okY lw_tbl mm_284 := ⟨(lw_in_4 (List.mem_of_getElem? (i := 180) rfl)), (lw_in_0 (List.mem_of_getElem? (i := 16) rfl)), by decide, plainFor_of_name (by decide +kernel), by decide +kernel, by decide +kernel⟩
set_option maxRecDepth 100000 in
theorem my_285 : mj_okY lw_tbl mm_285 := ⟨(lw_in_4 (List.mem_of_getElem? (i := 184) rfl)), (lw_in_0 (List.mem_of_getElem? (i := 16) rfl)), by decide, plainFor_of_name (by decide +kernel), by decide +kernel, by decide +kernel⟩
set_option maxRecDepth 100000 in
theorem my_286 : mj_okY lw_tbl mm_286 := ⟨(lw_in_4 (List.mem_of_getElem? (i := 188) rfl)), (lw_in_0 (List.mem_of_getElem? (i := 16) rfl)), by decide, plainFor_of_name (by decide +kernel), by decide +kernel, by decide +kernel⟩
set_option maxRecDepth 100000 in
theorem my_287 : mj_okY lw_tbl mm_287 := ⟨(lw_in_4 (List.mem_of_getElem? (i := 193) rfl)), (lw_in_0 (List.mem_of_getElem? (i := 1) rfl)), by decide, plainFor_of_name (by decide +kernel), by decide +kernel, by decide +kernel⟩
set_option maxRecDepth 100000 in
theorem my_288 : mj_okY lw_tbl mm_288 := ⟨(lw_in_4 (List.mem_of_getElem? (i := 197) rfl)), (lw_in_0 (List.mem_of_getElem? (i := 16) rfl)), by decide, plainFor_of_name (by decide +kernel), by decide +kernel, by decide +kernel⟩
set_option maxRecDepth 100000 in
theorem my_289 : mj_okY lw_tbl mm_289 := ⟨(lw_in_4 (List.mem_of_getElem? (i := 202) rfl)), (lw_in_0 (List.mem_of_getElem? (i := 16) rfl)), by decide, plainFor_of_name (by decide +kernel), by decide +kernel, by decide +kernel⟩
set_option maxRecDepth 100000 in
theorem my_290 : mj_okY lw_tbl mm_290 := ⟨(lw_in_4 (List.mem_of_getElem? (i := 206) rfl)), (lw_in_0 (List.mem_of_getElem? (i := 16) rfl)), by decide, plainFor_of_name (by decide +kernel), by decide +kernel, by decide +kernel⟩
set_option maxRecDepth 100000 in
theorem my_291 : mj_okY lw_tbl mm_291 := ⟨(lw_in_4 (List.mem_of_getElem? (i := 210) rfl)), (lw_in_0 (List.mem_of_getElem? (i := 1) rfl)), by decide, plainFor_of_name (by decide +kernel), by decide +kernel, by decide +kernel⟩
end
